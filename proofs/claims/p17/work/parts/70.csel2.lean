theorem c_selector {XL : Nat} {XS : Nat → Int32} {n : Nat} {C : mC} {I : Nat → Nat → Int32} {L : Nat → Nat → Int64} {K : mK} {tx : List Nat} {m : Nat} {I0 : Nat → Nat → Int32} {L0 : Nat → Nat → Int64} {r : JRs} (hC : m_Ge XL XS (n + 3) C) (hX : CX tx m I0 L0 r I L) (hl : ∀ s, r = .ok s → s.lbs = []) (hK : ∀ I', CX tx m I0 L0 (jsel tx r) I' L → K none (m_SH, I', L)) : C 16 [.ref 17] (m_SH, I, L) K := by
  have e2 := nI_eq (a := jkd tx r) (b := 2) (jkd_lt tx _) (by omega)
  have e3 := nI_eq (a := jkd tx r) (b := 3) (jkd_lt tx _) (by omega)
  refine e_X1_selector hC (Nat.le_of_ble_eq_true rfl) ?_
  intro C' hC' P hP
  have no : ¬ (jkd tx r = 2 ∨ jkd tx r = 3) → P (16, [some (.ref 17)], [], (m_SH, I, L), 0, 0) := by
    intro g
    have hj : jsel tx r = jfal tx 2 r := by
      cases r with
      | error e => rfl
      | ok s =>
        show (if ¬ ((tk tx s.k).1 = 2 ∨ (tk tx s.k).1 = 3) then jfal tx 2 (.ok s) else _) = _
        exact if_pos g
    rw [hj] at hK
    repeat (refine hP _ ?_; conv => whnf)
    refine c_failX (a := 2) (n := n + 1) hC' hX (by decide) (by decide) (fun I' h' => ?_)
    repeat (refine hP _ ?_; conv => whnf)
    exact hK _ h'
  have yes : (jkd tx r = 2 ∨ jkd tx r = 3) → P (26, [some (.ref 17)], [], (m_SH, I, L), 0, 0) := by
    intro g
    cases r with
    | error e => exact absurd g (by show ¬ (0 = 2 ∨ 0 = 3); decide)
    | ok s =>
      have hj : jsel tx (.ok s) = if ¬ ((tk tx s.k).1 = 2 ∨ (tk tx s.k).1 = 3) then jfal tx 2 (.ok s) else jxpc tx 19 (jadv (jsl2 tx ((s.wval (if (tk tx s.k).1 = 3 then 1 else 0)).wk (s.k + 1)))) := rfl
      have g' : (tk tx s.k).1 = 2 ∨ (tk tx s.k).1 = 3 := g
      rw [hj, if_neg (fun w => w g')] at hK
      have hls := hl s rfl
      obtain ⟨u1, u2, u3, u4, u5, u6⟩ := hX.cu
      have rest : ∀ v : Int32, v = 0 ∨ v = 1 → v = (if (tk tx s.k).1 = 3 then 1 else 0) → P (43, [some (.ref 17)], [.int v, .ref 8], (m_SH, I, L), 0, 0) := by
        intro v hv hv2
        rw [← hv2] at hK
        have h1 : CX tx m I0 L0 (.ok (s.wval v)) (m_up I 8 1 v) L := hX.u1 hls (Fr.rf.up rfl) rfl rfl rfl rfl rfl rfl rfl rfl rfl rfl (by simp [m_upr]; rfl) (by simp [m_upr]; exact u2) (by simp [m_upr]; exact u3) (by simp [m_upr]; exact u4) (by simp [m_upr]; exact hX.bd.2.2.2.2.2.2)
        have h2 := h1.adv (fun q e => by cases e; exact ⟨by show ¬ (tk tx s.k).1 = 27; omega, by show ¬ (tk tx s.k).1 = 28; omega⟩)
        have h2' : CX tx m I0 L0 (.ok ((s.wval v).wk (s.k + 1))) (m_up (m_up I 8 1 v) 17 8 (m_up I 8 1 v 17 8 + 1)) L := h2
        have hl2 : ((s.wval v).wk (s.k + 1)).lbs = [] := hls
        iterate 1 (refine hP _ ?_; conv => whnf)
        refine ⟨hv, ?_⟩
        repeat (refine hP _ ?_; conv => whnf)
        generalize m_up (m_up I 8 1 v) 17 8 (m_up I 8 1 v 17 8 + 1) = I1 at h2'
        generalize (s.wval v).wk (s.k + 1) = q at h2' hK hl2
        clear h2 h1
        have hns : jsl2 tx q = if (tk tx q.k).1 = 4 then .ok (q.wsel 0 q.chs q.cns) else if (tk tx q.k).1 = 5 then .ok (q.wsel 1 q.chs q.cns) else if (tk tx q.k).1 = 16 then (if jnam tx q ∈ nms q then .ok (q.wsel 2 (nI (enx q (jnam tx q))) (nI (enl q (enx q (jnam tx q))))) else jfal tx 5 (.ok q)) else jfal tx 2 (.ok q) := rfl
        obtain ⟨w1, w2, w3, w4, w5, w6⟩ := h2'.cu
        have f4 := nI_eq (a := jkd tx (.ok q)) (b := 4) (jkd_lt tx _) (by omega)
        have f5 := nI_eq (a := jkd tx (.ok q)) (b := 5) (jkd_lt tx _) (by omega)
        have f16 := nI_eq (a := jkd tx (.ok q)) (b := 16) (jkd_lt tx _) (by omega)
        have s119 : ∀ (r2 : JRs) J, CX tx m I0 L0 r2 J L → r2 = jsl2 tx q → (∀ z, r2 = .ok z → ¬ (tk tx z.k).1 = 27 ∧ ¬ (tk tx z.k).1 = 28) → P (119, [some (.ref 17)], [], (m_SH, J, L), 0, 0) := by
          intro r2 J hr e1 hz
          rw [← e1] at hK
          have h3 := hr.adv hz
          repeat (refine hP _ ?_; conv => whnf)
          refine c_expectX (k := 19) (n := n) hC' h3 (by decide) (by decide) (fun I4 h4 => ?_)
          repeat (refine hP _ ?_; conv => whnf)
          exact hK _ h4
        refine c_kindX (n := n + 1) hC' h2' ?_
        repeat (refine hP _ ?_; conv => whnf)
        refine ⟨fun z => ?_, fun z => ?_⟩
        · have g4 : (tk tx q.k).1 = 4 := f4.mp z
          iterate 5 (refine hP _ ?_; conv => whnf)
          refine s119 (.ok (q.wsel 0 q.chs q.cns)) _ ?_ (by rw [hns, if_pos g4]) (fun z e => by cases e; exact ⟨by show ¬ (tk tx q.k).1 = 27; omega, by show ¬ (tk tx q.k).1 = 28; omega⟩)
          exact h2'.u1 hl2 (Fr.rf.up rfl) rfl rfl rfl rfl rfl rfl rfl rfl rfl rfl (by simp [m_upr]; exact w1) (by simp [m_upr]; rfl) (by simp [m_upr]; exact w3) (by simp [m_upr]; exact w4) (by simp [m_upr]; exact h2'.bd.2.2.2.2.2.2)
        · have g4 : ¬ (tk tx q.k).1 = 4 := fun y => z (f4.mpr y)
          repeat (refine hP _ ?_; conv => whnf)
          refine c_kindX (n := n + 1) hC' h2' ?_
          repeat (refine hP _ ?_; conv => whnf)
          refine ⟨fun z => ?_, fun z => ?_⟩
          · have g5 : (tk tx q.k).1 = 5 := f5.mp z
            iterate 5 (refine hP _ ?_; conv => whnf)
            refine s119 (.ok (q.wsel 1 q.chs q.cns)) _ ?_ (by rw [hns, if_neg g4, if_pos g5]) (fun z e => by cases e; exact ⟨by show ¬ (tk tx q.k).1 = 27; omega, by show ¬ (tk tx q.k).1 = 28; omega⟩)
            exact h2'.u1 hl2 (Fr.rf.up rfl) rfl rfl rfl rfl rfl rfl rfl rfl rfl rfl (by simp [m_upr]; exact w1) (by simp [m_upr]; rfl) (by simp [m_upr]; exact w3) (by simp [m_upr]; exact w4) (by simp [m_upr]; exact h2'.bd.2.2.2.2.2.2)
          · have g5 : ¬ (tk tx q.k).1 = 5 := fun y => z (f5.mpr y)
            repeat (refine hP _ ?_; conv => whnf)
            refine c_kindX (n := n + 1) hC' h2' ?_
            repeat (refine hP _ ?_; conv => whnf)
            refine ⟨fun z => ?_, fun z => ?_⟩
            · have g16 : (tk tx q.k).1 = 16 := f16.mp z
              repeat (refine hP _ ?_; conv => whnf)
              refine c_choose (n := n) hC' h2' hl2 g16 (fun I3 h3 => ?_)
              iterate 1 (refine hP _ ?_; conv => whnf)
              refine s119 _ I3 h3 (by rw [hns, if_neg g4, if_neg g5, if_pos g16]) (fun z e => ?_)
              split at e
              · cases e
                exact ⟨by show ¬ (tk tx q.k).1 = 27; omega, by show ¬ (tk tx q.k).1 = 28; omega⟩
              · cases e
            · have g16 : ¬ (tk tx q.k).1 = 16 := fun y => z (f16.mpr y)
              repeat (refine hP _ ?_; conv => whnf)
              refine c_failX (a := 2) (n := n + 1) hC' h2' (by decide) (by decide) (fun I3 h3 => ?_)
              refine s119 _ I3 h3 (by rw [hns, if_neg g4, if_neg g5, if_neg g16]) (fun z e => by cases e)
      repeat (refine hP _ ?_; conv => whnf)
      refine c_kindX (n := n + 1) hC' hX ?_
      repeat (refine hP _ ?_; conv => whnf)
      refine ⟨fun z => ?_, fun z => ?_⟩
      · have g3 : (tk tx s.k).1 = 3 := e3.mp z
        iterate 2 (refine hP _ ?_; conv => whnf)
        exact rest 1 (Or.inr rfl) (by rw [if_pos g3])
      · have g3 : ¬ (tk tx s.k).1 = 3 := fun y => z (e3.mpr y)
        iterate 1 (refine hP _ ?_; conv => whnf)
        exact rest 0 (Or.inl rfl) (by rw [if_neg g3])
  repeat (refine hP _ ?_; conv => whnf)
  refine c_kindX (n := n + 1) hC' hX ?_
  repeat (refine hP _ ?_; conv => whnf)
  refine ⟨fun z => yes (Or.inl (e2.mp z)), fun z => ?_⟩
  repeat (refine hP _ ?_; conv => whnf)
  refine c_kindX (n := n + 1) hC' hX ?_
  repeat (refine hP _ ?_; conv => whnf)
  refine ⟨fun y => yes (Or.inr (e3.mp y)), fun y => ?_⟩
  exact no (fun w => w.elim (fun h => z (e2.mpr h)) (fun h => y (e3.mpr h)))
/-! ===== HASHES of packed signs, in the class ===== -/
def oc8 (a : Int64) (i : Nat) : Int32 := (((a.toUInt64 >>> ((8 * nI i).toInt64.toUInt64 &&& Int64.toUInt64 63)).toInt64) &&& 255).toInt32
def phG (a : Int64) : Nat → Int32 → Int32
  | 0, h => h
  | n + 1, h => phG a n (31 * h + oc8 a n)
theorem c_packedHash {XL : Nat} {XS : Nat → Int32} {n : Nat} {C : mC} {I : Nat → Nat → Int32} {L : Nat → Nat → Int64} {K : mK} {a : Int64} (hC : m_Ge XL XS (n + 1) C) (hK : K (some (.int (phG a 8 0))) (m_SH, I, L)) : C 80 [.long a] (m_SH, I, L) K := by
  refine e_X7_packedHash hC (Nat.le_of_ble_eq_true rfl) ?_
  intro C' hC' P hP
  have loop : ∀ (d : Nat) (h : Int32), d ≤ 8 → K (some (.int (phG a d h))) (m_SH, I, L) → P (5, [some (.long a), none, some (.int h), some (.int (nI d - 1))], [], (m_SH, I, L), 0, 0) := by
    intro d
    induction d with
    | zero =>
      intro h _ hk
      repeat (refine hP _ ?_; conv => whnf)
      refine ⟨fun _ => ?_, fun z => absurd (show nI 0 - 1 < 0 by decide) z⟩
      repeat (refine hP _ ?_; conv => whnf)
      exact hk
    | succ d ih =>
      intro h hd hk
      have e1 : nI (d + 1) - 1 = nI d := nI_pred _
      have e := ih (31 * h + oc8 a d) (by omega) hk
      rw [Int32.sub_eq_add_neg] at e
      rw [e1]
      iterate 2 (refine hP _ ?_; conv => whnf)
      refine ⟨fun z => absurd z (nI_pos (by omega)), fun _ => ?_⟩
      iterate 15 (refine hP _ ?_; conv => whnf)
      exact e
  iterate 4 (refine hP _ ?_; conv => whnf)
  exact loop 8 0 (by omega) hK
theorem phG_of : ∀ (r pre : List Nat), (pre ++ r).length ≤ 8 → (∀ x ∈ pre ++ r, x < 256) → phG (lN (pkB 256 (pre ++ r))) r.length (jhs pre) = jhs (pre ++ r)
  | [], pre, _, _ => by
    rw [List.append_nil]
    rfl
  | c :: r, pre, hl, hr => by
    have ho : oc8 (lN (pkB 256 (pre ++ c :: r))) r.length = nI c := oct_at hl hr
    have e : pre ++ c :: r = (pre ++ [c]) ++ r := by simp
    have h1 := phG_of r (pre ++ [c]) (by rw [← e]; exact hl) (by rw [← e]; exact hr)
    rw [← e] at h1
    show phG _ r.length (31 * jhs pre + oc8 _ r.length) = _
    rw [ho, ← jhs_snoc]
    exact h1
theorem jhs_zero : ∀ (k : Nat) (cs : List Nat), jhs (List.replicate k 0 ++ cs) = jhs cs
  | 0, cs => rfl
  | k + 1, cs => by
    rw [List.replicate_succ, List.cons_append]
    show ((0 :: (List.replicate k 0 ++ cs)).foldl _ 0) = _
    rw [List.foldl_cons]
    have e : (31 * (0 : Int32) + nI 0) = 0 := by decide
    rw [e]
    exact jhs_zero k cs
theorem pkB_zero : ∀ (k : Nat) (cs : List Nat), pkB 256 (List.replicate k 0 ++ cs) = pkB 256 cs
  | 0, cs => rfl
  | k + 1, cs => by
    rw [List.replicate_succ, List.cons_append]
    show ((0 :: (List.replicate k 0 ++ cs)).foldl _ 0) = _
    rw [List.foldl_cons]
    exact pkB_zero k cs
theorem phG_nm {cs : List Nat} (h : NmOk cs) : phG (lN (pkB 256 cs)) 8 0 = jhs cs := by
  have hl := h.1
  have e := phG_of (List.replicate (8 - cs.length) 0 ++ cs) [] (by rw [List.nil_append, List.length_append, List.length_replicate]; omega) (fun x hx => by
    rw [List.nil_append] at hx
    rcases List.mem_append.mp hx with hx | hx
    · have := (List.mem_replicate.mp hx).2
      omega
    · have := (h.2 x hx).2
      omega)
  rw [List.nil_append, List.length_append, List.length_replicate, pkB_zero, jhs_zero, show 8 - cs.length + cs.length = 8 by omega] at e
  exact e
