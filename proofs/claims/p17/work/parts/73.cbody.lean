/-! ===== the class judges an arm ===== -/
def LQ (s : JSt) : Prop := 0 < s.ars.length ∧ (s.srt = 2 → ∃ e, e < s.ens.length ∧ s.chs = nI e)
theorem c_labels {XL : Nat} {XS : Nat → Int32} {n : Nat} {C : mC} {I : Nat → Nat → Int32} {L : Nat → Nat → Int64} {K : mK} {tx : List Nat} {m : Nat} {I0 : Nat → Nat → Int32} {L0 : Nat → Nat → Int64} {r : JRs} (hC : m_Ge XL XS (n + 5) C) (hX : CX tx m I0 L0 r I L) (hQ : ∀ s, r = .ok s → LQ s) (hK : ∀ I' L', CX tx m I0 L0 (jlbs tx true r) I' L' → K none (m_SH, I', L')) : C 20 [.ref 17] (m_SH, I, L) K := by
  have hQ2 : ∀ q, (∀ s, q = .ok s → LQ s) → ∀ s, jlab tx true q = .ok s → LQ s := by
    intro q hq s hs
    cases q with
    | error e => cases hs
    | ok y =>
      obtain ⟨x, cs, k, e⟩ := jlab_ok hs
      rw [e]
      exact hq y rfl
  refine e_X1_labels hC (Nat.le_of_ble_eq_true rfl) ?_
  intro C' hC' P hP
  unfold jlbs at hK
  have loop : ∀ (i c : Nat) (q : JRs) (J : Nat → Nat → Int32) (M : Nat → Nat → Int64), c + i = 32 → CX tx m I0 L0 q J M → (∀ s, q = .ok s → LQ s) → (∀ I' L', CX tx m I0 L0 (jllp tx true i q) I' L' → K none (m_SH, I', L')) → P (6, [some (.ref 17), some (.int (nI c))], [], (m_SH, J, M), 0, 0) := by
    intro i
    induction i with
    | zero =>
      intro c q J M hc hq hqs hk
      repeat (refine hP _ ?_; conv => whnf)
      refine ⟨fun z => absurd ((nI_ltI (a := c) (b := 32) (by omega) (by omega)).mp z) (by omega), fun _ => ?_⟩
      repeat (refine hP _ ?_; conv => whnf)
      exact hk _ _ hq
    | succ i ih =>
      intro c q J M hc hq hqs hk
      unfold jllp at hk
      repeat (refine hP _ ?_; conv => whnf)
      refine ⟨fun _ => ?_, fun z => absurd (show nI c < nI 32 from nI_lt (by omega) (by omega)) z⟩
      repeat (refine hP _ ?_; conv => whnf)
      refine c_kindX (n := n + 3) hC' hq ?_
      have ek := nI_eq (a := jkd tx q) (b := 23) (jkd_lt tx _) (by omega)
      repeat (refine hP _ ?_; conv => whnf)
      refine ⟨fun z => ?_, fun z => ?_⟩
      · have g : jkd tx q = 23 := ek.mp z
        rw [if_pos g] at hk
        have hadv := hq.adv (fun s hs => by subst hs; have : (tk tx s.k).1 = 23 := g; omega)
        have hqa : ∀ s, jadv q = .ok s → LQ s := fun s hs => by
          cases q with
          | error _ => cases hs
          | ok y => cases hs; exact hqs y rfl
        repeat (refine hP _ ?_; conv => whnf)
        refine c_oneLabel (n := n) hC' hadv hqa (fun I' L' h' => ?_)
        have e2 := ih (c + 1) _ I' L' (by omega) h' (hQ2 _ hqa) hk
        rw [← nI_1] at e2
        iterate 2 (refine hP _ ?_; conv => whnf)
        exact e2
      · have g : ¬ jkd tx q = 23 := fun y => z (ek.mpr y)
        rw [if_neg g] at hk
        repeat (refine hP _ ?_; conv => whnf)
        exact hk _ _ hq
  repeat (refine hP _ ?_; conv => whnf)
  refine c_oneLabel (n := n) hC' hX hQ (fun I' L' h' => ?_)
  iterate 2 (refine hP _ ?_; conv => whnf)
  exact loop 32 0 _ I' L' (by omega) h' (hQ2 _ hQ) hK
/-! the class's body -/
theorem jxpc_emt {tx : List Nat} {k : Nat} {a b c : Int32} {r : JRs} : jxpc tx k (jemt a b c r) = jemt a b c (jxpc tx k r) := by
  cases r with
  | error e => rw [jxpc_er]; show jxpc tx k (.error e) = .error e; rw [jxpc_er]
  | ok s =>
    have h2 : jemt a b c (.ok s) = .ok (if s.cd.length < 260 then (s.wcd (s.cd ++ [(a, b, c)])) else s) := rfl
    have hk : (if s.cd.length < 260 then (s.wcd (s.cd ++ [(a, b, c)])) else s).k = s.k := by split <;> rfl
    have hkd : jkd tx (jemt a b c (.ok s)) = jkd tx (.ok s) := by
      rw [h2]
      show (tk tx _).1 = (tk tx s.k).1
      rw [hk]
    unfold jxpc
    rw [hkd]
    by_cases g : jkd tx (.ok s) = k
    · rw [if_pos g, if_pos g, h2]
      by_cases g2 : s.cd.length < 260
      · simp only [if_pos g2, jadv, jb]
        show _ = Except.ok (if (s.wk (s.k + 1)).cd.length < 260 then (s.wk (s.k + 1)).wcd ((s.wk (s.k + 1)).cd ++ [(a, b, c)]) else s.wk (s.k + 1))
        rw [if_pos (show (s.wk (s.k + 1)).cd.length < 260 from g2)]
        rfl
      · simp only [if_neg g2, jadv, jb]
        show _ = Except.ok (if (s.wk (s.k + 1)).cd.length < 260 then (s.wk (s.k + 1)).wcd ((s.wk (s.k + 1)).cd ++ [(a, b, c)]) else s.wk (s.k + 1))
        rw [if_neg (show ¬ (s.wk (s.k + 1)).cd.length < 260 from g2)]
    · rw [if_neg g, if_neg g, h2]
      simp only [jfal, jb]
      rw [hk]
      rfl
theorem jxpc_sst {tx : List Nat} {k : Nat} {x : Int32} {r : JRs} : jxpc tx k (jsst x r) = jsst x (jxpc tx k r) := by
  cases r with
  | error e => rw [jxpc_er]; show jxpc tx k (.error e) = .error e; rw [jxpc_er]
  | ok s =>
    unfold jxpc
    by_cases g : jkd tx (.ok s) = k
    · rw [if_pos g, if_pos (show jkd tx (jsst x (.ok s)) = k from g)]
      rfl
    · rw [if_neg g, if_neg (show ¬ jkd tx (jsst x (.ok s)) = k from g)]
      rfl
theorem jyld_eq {tx : List Nat} {r : JRs} : jxpc tx 22 (jyld tx r) = jsst (-1) (jemt 5 2 (jsgv tx r) (jxpc tx 22 (jsgn tx r))) := by
  have h : jyld tx r = jsst (-1) (jemt 5 2 (jsgv tx r) (jsgn tx r)) := by
    unfold jyld jsgv jsgn jlve
    split <;> rfl
  rw [h, jxpc_sst, jxpc_emt]
/-- what the class makes of a body -/
def jbC (tx : List Nat) (r : JRs) : JRs := jb r fun s =>
  if ¬ s.val = 0 ∧ ((tk tx s.k).1 = 25 ∨ (tk tx s.k).1 = 17) then jxpc tx 22 (jyld tx (jopn tx 0 (.ok s)))
  else if (tk tx s.k).1 = 19 ∨ (tk tx s.k).1 = 13 ∨ (((tk tx s.k).1 = 8 ∨ (tk tx s.k).1 = 10 ∨ (tk tx s.k).1 = 16 ∨ (tk tx s.k).1 = 11) ∧ s.val = 0) then
    (if ¬ s.val = 0 ∧ (tk tx s.k).1 = 19 then jb (jstmt tx 11 (.ok s)) fun q => if q.set = -1 then .ok q else jflt tx 10 (q.k - 1) (.ok q) else jstmt tx 11 (.ok s))
  else jfal tx 2 (.ok s)
theorem jstmt_11 {tx : List Nat} {s : JSt} (h : jbgn (tk tx s.k).1 = true) : jstmt tx 11 (.ok s) = jb (jopn tx 0 (.ok s)) fun s2 =>
            if (tk tx s2.k).1 = 19 then jblk tx (jstmt tx 10) (.ok s2)
            else if (tk tx s2.k).1 = 14 then jbrn tx (jstmt tx 10) (.ok s2)
            else if (tk tx s2.k).1 = 9 then jxpc tx 22 (jlet tx (jadv (.ok s2)))
            else if (tk tx s2.k).1 = 12 then jxpc tx 22 (jyld tx (jadv (.ok s2)))
            else jxpc tx 22 (jsmp tx (.ok s2)) := by
  simp only [jstmt]
  rw [jst1_y h]
theorem jbC_eq {tx : List Nat} {s : JSt} (hn : s.nm = []) : jbC tx (.ok s) = jbdy tx s := by
  have hL : jbC tx (.ok s) = if ¬ s.val = 0 ∧ ((tk tx s.k).1 = 25 ∨ (tk tx s.k).1 = 17) then jxpc tx 22 (jyld tx (jopn tx 0 (.ok s)))
  else if (tk tx s.k).1 = 19 ∨ (tk tx s.k).1 = 13 ∨ (((tk tx s.k).1 = 8 ∨ (tk tx s.k).1 = 10 ∨ (tk tx s.k).1 = 16 ∨ (tk tx s.k).1 = 11) ∧ s.val = 0) then
    (if ¬ s.val = 0 ∧ (tk tx s.k).1 = 19 then jb (jstmt tx 11 (.ok s)) fun q => if q.set = -1 then .ok q else jflt tx 10 (q.k - 1) (.ok q) else jstmt tx 11 (.ok s))
  else jfal tx 2 (.ok s) := rfl
  rw [hL]
  unfold jbdy
  have hop : ∀ s2, jopn tx 0 (.ok s) = .ok s2 → s2 = s.wsm (s.sm + 1) := fun s2 e => by
    obtain ⟨z, e1, e2, -⟩ := jopn_ok e
    cases e1
    exact e2
  by_cases g19 : (tk tx s.k).1 = 19
  · rw [if_neg (fun w => by omega), if_pos (Or.inl g19), if_pos g19, jstmt_11 (by rw [g19]; decide)]
    cases ho : jopn tx 0 (.ok s) with
    | error e =>
      simp only [jb]
      split <;> rfl
    | ok s2 =>
      have e2 := hop s2 ho
      simp only [jb]
      have hk2 : s2.k = s.k := by rw [e2]; rfl
      have hn2 : s2.nm.length = 0 := by rw [e2]; show s.nm.length = 0; rw [hn]; rfl
      have hv2 : ∀ y, jloop tx (jstmt tx 10) 121 (.ok (s2.wk (s2.k + 1))) = .ok y → y.val = s.val := fun y hy => by
        have := Ku_loop (u := s.u) (Ku_stmt 10) 121 _ (Ku_ok (by rw [e2]; rfl)) y hy
        unfold JSt.val
        rw [this]
      rw [if_pos (show (tk tx s2.k).1 = 19 by rw [hk2]; exact g19)]
      have hblk : jblk tx (jstmt tx 10) (.ok s2) = jshr s2.nm.length (jxpc tx 20 (jloop tx (jstmt tx 10) 121 (.ok (s2.wk (s2.k + 1))))) := rfl
      rw [hblk, hn2]
      unfold jbbk
      cases hl : jloop tx (jstmt tx 10) 121 (.ok (s2.wk (s2.k + 1))) with
      | error e =>
        rw [jxpc_er]
        simp only [jb, jshr]
        split <;> rfl
      | ok y =>
        have hvy := hv2 y hl
        simp only [jb]
        by_cases g20 : (tk tx y.k).1 = 20
        · have hx : jxpc tx 20 (.ok y) = .ok (y.wk (y.k + 1)) := by
            unfold jxpc
            rw [if_pos (show jkd tx (.ok y) = 20 from g20)]
            rfl
          have hsh : jshr 0 (.ok (y.wk (y.k + 1))) = .ok (sshr 0 (y.wk (y.k + 1))) := rfl
          rw [hx, if_pos g20, hsh]
          have hset : (sshr 0 (y.wk (y.k + 1))).set = -1 ↔ y.set = -1 := by
            show (if y.set = -1 then (-1 : Int32) else y.set &&& ((1 <<< (nI 0 &&& 31)) - 1)) = -1 ↔ _
            by_cases g : y.set = -1
            · rw [if_pos g]; exact ⟨fun _ => g, fun _ => rfl⟩
            · rw [if_neg g]
              have : y.set &&& ((1 <<< (nI 0 &&& 31)) - 1) = 0 := by
                have e0 : ((1 : Int32) <<< (nI 0 &&& 31)) - 1 = 0 := by decide
                rw [e0]
                exact Int32.and_zero
              rw [this]
              exact ⟨fun z => absurd z (by decide), fun z => absurd z g⟩
          by_cases gv : s.val = 0
          · rw [if_neg (fun w => w.1 gv), if_neg (fun w => w.1 (hvy.trans gv))]
            rfl
          · rw [if_pos ⟨gv, g19⟩]
            by_cases gs : y.set = -1
            · rw [if_neg (fun w => w.2 gs)]
              show (if (sshr 0 (y.wk (y.k + 1))).set = -1 then _ else _) = _
              rw [if_pos (hset.mpr gs)]
              rfl
            · rw [if_pos ⟨fun w => gv (hvy.symm.trans w), gs⟩]
              show (if (sshr 0 (y.wk (y.k + 1))).set = -1 then _ else _) = _
              rw [if_neg (fun w => gs (hset.mp w)), jfal_flt (s' := sshr 0 (y.wk (y.k + 1)))]
              rfl
        · have hx : jxpc tx 20 (.ok y) = jfal tx 2 (.ok y) := by
            unfold jxpc
            rw [if_neg (show ¬ jkd tx (.ok y) = 20 from g20)]
          rw [hx, if_neg g20]
          obtain ⟨e, he⟩ := jfal_err (tx := tx) (a := 2) (r := .ok y)
          rw [he]
          simp only [jshr, jb]
          split <;> rfl
  · rw [if_neg g19]
    by_cases gy : ¬ s.val = 0 ∧ ((tk tx s.k).1 = 25 ∨ (tk tx s.k).1 = 17)
    · rw [if_pos gy, if_pos gy, jyld_eq]
    · rw [if_neg gy, if_neg gy]
      have smp : ((tk tx s.k).1 = 16 ∨ (tk tx s.k).1 = 8 ∨ (tk tx s.k).1 = 10 ∨ (tk tx s.k).1 = 11 ∨ (tk tx s.k).1 = 13) → jstmt tx 11 (.ok s) = jb (jopn tx 0 (.ok s)) fun s2 => jxpc tx 22 (jsmp tx (.ok s2)) := by
        intro g
        rw [jstmt_11 (by rcases g with g | g | g | g | g <;> rw [g] <;> decide)]
        cases ho : jopn tx 0 (.ok s) with
        | error e => rfl
        | ok s2 =>
          have hk2 : s2.k = s.k := by rw [hop s2 ho]; rfl
          simp only [jb]
          rw [hk2, if_neg (by omega), if_neg (by omega), if_neg (by omega), if_neg (by omega)]
      by_cases gv : s.val = 0
      · by_cases gs : (tk tx s.k).1 = 16 ∨ (tk tx s.k).1 = 8 ∨ (tk tx s.k).1 = 10 ∨ (tk tx s.k).1 = 11 ∨ (tk tx s.k).1 = 13
        · rw [if_pos (show (if s.val = 0 then ((tk tx s.k).1 = 16 ∨ (tk tx s.k).1 = 8 ∨ (tk tx s.k).1 = 10 ∨ (tk tx s.k).1 = 11 ∨ (tk tx s.k).1 = 13) else (tk tx s.k).1 = 13) by rw [if_pos gv]; exact gs), if_pos (show (tk tx s.k).1 = 19 ∨ (tk tx s.k).1 = 13 ∨ (((tk tx s.k).1 = 8 ∨ (tk tx s.k).1 = 10 ∨ (tk tx s.k).1 = 16 ∨ (tk tx s.k).1 = 11) ∧ s.val = 0) by rcases gs with g | g | g | g | g; exact Or.inr (Or.inr ⟨Or.inr (Or.inr (Or.inl g)), gv⟩); exact Or.inr (Or.inr ⟨Or.inl g, gv⟩); exact Or.inr (Or.inr ⟨Or.inr (Or.inl g), gv⟩); exact Or.inr (Or.inr ⟨Or.inr (Or.inr (Or.inr g)), gv⟩); exact Or.inr (Or.inl g)), if_neg (fun w => w.1 gv), smp gs]
        · rw [if_neg (show ¬ (if s.val = 0 then ((tk tx s.k).1 = 16 ∨ (tk tx s.k).1 = 8 ∨ (tk tx s.k).1 = 10 ∨ (tk tx s.k).1 = 11 ∨ (tk tx s.k).1 = 13) else (tk tx s.k).1 = 13) by rw [if_pos gv]; exact gs), if_neg (fun w => by rcases w with w | w | w; exact g19 w; exact gs (Or.inr (Or.inr (Or.inr (Or.inr w)))); rcases w.1 with w | w | w | w; exact gs (Or.inr (Or.inl w)); exact gs (Or.inr (Or.inr (Or.inl w))); exact gs (Or.inl w); exact gs (Or.inr (Or.inr (Or.inr (Or.inl w)))))]
      · by_cases gs : (tk tx s.k).1 = 13
        · rw [if_pos (show (if s.val = 0 then ((tk tx s.k).1 = 16 ∨ (tk tx s.k).1 = 8 ∨ (tk tx s.k).1 = 10 ∨ (tk tx s.k).1 = 11 ∨ (tk tx s.k).1 = 13) else (tk tx s.k).1 = 13) by rw [if_neg gv]; exact gs), if_pos (Or.inr (Or.inl gs)), if_neg (fun w => g19 w.2), smp (by omega)]
        · rw [if_neg (show ¬ (if s.val = 0 then ((tk tx s.k).1 = 16 ∨ (tk tx s.k).1 = 8 ∨ (tk tx s.k).1 = 10 ∨ (tk tx s.k).1 = 11 ∨ (tk tx s.k).1 = 13) else (tk tx s.k).1 = 13) by rw [if_neg gv]; exact gs), if_neg (fun w => by rcases w with w | w | w; exact g19 w; exact gs w; exact gv w.2)]
