def clF (I : Nat → Nat → Int32) : Nat → Nat → Int32 := m_up (m_up (m_up (m_up (m_up (m_up (m_up I 8 3 0) 8 4 0) 8 5 0) 8 6 0) 8 7 (-1)) 8 8 0) 13 3 0
theorem c_clear {XL : Nat} {XS : Nat → Int32} {n : Nat} {C : mC} {I : Nat → Nat → Int32} {L : Nat → Nat → Int64} {K : mK} (hC : m_Ge XL XS (n + 1) C) (hK : K none (m_SH, clF I, L)) : C 76 [.ref 8] (m_SH, I, L) K := by
  refine e_X7_clear hC (Nat.le_of_ble_eq_true rfl) ?_
  intro C' hC' P hP
  repeat (refine hP _ ?_; conv => whnf)
  refine ⟨Or.inl rfl, ?_⟩
  repeat (refine hP _ ?_; conv => whnf)
  exact hK
theorem c_begin {XL : Nat} {XS : Nat → Int32} {n : Nat} {C : mC} {I : Nat → Nat → Int32} {L : Nat → Nat → Int64} {K : mK} {tx : List Nat} {m : Nat} (hC : m_Ge XL XS (n + 2) C) (ht : TxOk tx) (hm : TkM tx m) (hml : m ≤ tx.length) (hk : TkC tx m I L) (h21 : ∀ e, e < 4 → ∃ c, c ≤ 16 ∧ I 21 e = nI c) (hK : ∀ I', CX tx m I L (.ok (js0 (I 8 1) (I 8 2))) I' L → K none (m_SH, I', L)) : C 4 [.ref 17] (m_SH, I, L) K := by
  refine e_X1_begin hC (Nat.le_of_ble_eq_true rfl) ?_
  intro C' hC' P hP
  repeat (refine hP _ ?_; conv => whnf)
  refine c_clear (n := n) hC' ?_
  repeat (refine hP _ ?_; conv => whnf)
  refine hK _ ?_
  have hF : Fr S_jd I (m_up (m_up (m_up (m_up (m_up (m_up (m_up (clF I) 18 1 0) 18 2 0) 17 6 0) 17 7 (-1)) 17 8 0) 17 9 0) 17 10 (-1)) := by
    unfold clF
    exact (((((((((((((Fr.rf.up rfl).up rfl).up rfl).up rfl).up rfl).up rfl).up rfl).up rfl).up rfl).up rfl).up rfl).up rfl).up rfl).up rfl
  have z : ∀ p q, (p, q) ∈ [(13, 3), (18, 1), (18, 2), (8, 3), (8, 4), (8, 5), (8, 6), (8, 8), (17, 6), (17, 8), (17, 9)] → m_up (m_up (m_up (m_up (m_up (m_up (m_up (clF I) 18 1 0) 18 2 0) 17 6 0) 17 7 (-1)) 17 8 0) 17 9 0) 17 10 (-1) p q = 0 := by
    intro p q h
    simp at h
    rcases h with h | h | h | h | h | h | h | h | h | h | h <;> (obtain ⟨rfl, rfl⟩ := h; simp [clF, m_upr])
  have h81 : m_up (m_up (m_up (m_up (m_up (m_up (m_up (clF I) 18 1 0) 18 2 0) 17 6 0) 17 7 (-1)) 17 8 0) 17 9 0) 17 10 (-1) 8 1 = I 8 1 := by simp [clF, m_upr]
  have h82 : m_up (m_up (m_up (m_up (m_up (m_up (m_up (clF I) 18 1 0) 18 2 0) 17 6 0) 17 7 (-1)) 17 8 0) 17 9 0) 17 10 (-1) 8 2 = I 8 2 := by simp [clF, m_upr]
  have h87 : m_up (m_up (m_up (m_up (m_up (m_up (m_up (clF I) 18 1 0) 18 2 0) 17 6 0) 17 7 (-1)) 17 8 0) 17 9 0) 17 10 (-1) 8 7 = -1 := by simp [clF, m_upr]
  have h177 : m_up (m_up (m_up (m_up (m_up (m_up (m_up (clF I) 18 1 0) 18 2 0) 17 6 0) 17 7 (-1)) 17 8 0) 17 9 0) 17 10 (-1) 17 7 = -1 := by simp [clF, m_upr]
  have h1710 : m_up (m_up (m_up (m_up (m_up (m_up (m_up (clF I) 18 1 0) 18 2 0) 17 6 0) 17 7 (-1)) 17 8 0) 17 9 0) 17 10 (-1) 17 10 = -1 := by simp [clF, m_upr]
  have h21' : ∀ e, m_up (m_up (m_up (m_up (m_up (m_up (m_up (clF I) 18 1 0) 18 2 0) 17 6 0) 17 7 (-1)) 17 8 0) 17 9 0) 17 10 (-1) 21 e = I 21 e := fun e => by simp [clF, m_upr]
  generalize m_up (m_up (m_up (m_up (m_up (m_up (m_up (clF I) 18 1 0) 18 2 0) 17 6 0) 17 7 (-1)) 17 8 0) 17 9 0) 17 10 (-1) = J at hF z h81 h82 h87 h177 h1710 h21'
  refine ⟨⟨ht, hm, hml, by rw [hF 3 4 rfl]; exact hk.1, fun k hk2 => by rw [hF 4 k rfl, hF 5 k rfl]; exact hk.2 k hk2⟩, hF, Fr.rf, ⟨⟨0, by omega, z 13 3 (by simp)⟩, ⟨0, by omega, z 18 1 (by simp)⟩, ⟨0, by omega, z 8 5 (by simp)⟩, ⟨0, by omega, z 8 4 (by simp)⟩, ⟨0, by omega, z 17 6 (by simp)⟩, fun e he => by rw [h21' e]; exact h21 e he, Or.inl h177⟩, ⟨z 17 9 (by simp), h1710, z 17 8 (by simp), Nat.zero_le _⟩, ⟨z 8 6 (by simp), Nat.zero_le _⟩, z 18 2 (by simp), ⟨z 18 1 (by simp), Nat.zero_le _, fun j hj => absurd hj (Nat.not_lt_zero _), fun c hc => by cases hc⟩, ⟨z 13 3 (by simp), Nat.zero_le _, fun j hj => absurd hj (Nat.not_lt_zero _)⟩, ⟨h81, h82, h177, z 8 3 (by simp), h87, z 8 8 (by simp)⟩, ⟨z 8 4 (by simp), Nat.zero_le _, fun j hj => absurd hj (Nat.not_lt_zero _)⟩, ⟨z 8 5 (by simp), Nat.zero_le _, fun j x hx => (by cases hx), fun _ x hx => (by cases hx)⟩, ⟨z 17 6 (by simp), Nat.zero_le _, fun e x hx => by cases hx⟩⟩
/-- the unit, as the class holds it -/
def UC (s : JSt) (I : Nat → Nat → Int32) (L : Nat → Nat → Int64) : Prop := AI s ∧ (I 8 6 = nI s.sm ∧ s.sm ≤ 120) ∧ CCd s I ∧ CU s.u I L ∧ KR 24 25 26 (ktab s.lbs) I ∧ I 23 3 = nI (ktab s.lbs).length
def CDone (r : JRs) (I : Nat → Nat → Int32) (L : Nat → Nat → Int64) : Prop := match r with
  | .error e => I 8 0 = 0 ∧ I 17 10 = nI e.2 ∧ I 23 3 = 0
  | .ok s => I 8 0 = 1 ∧ I 17 10 = -1 ∧ UC s I L
def S_cr : Nat → Nat → Bool := fun p q => S_jd p q || S_tk p q || S_kc p q || (p == 1 && q == 1) || (p == 27 && (q == 2 || q == 3 || q == 4)) || (p == 8 && q == 0)
def S_crL : Nat → Nat → Bool := fun p q => S_jdL p q || S_tkL p q
theorem AI_sel {tx : List Nat} {m : Nat} {I0 : Nat → Nat → Int32} {L0 : Nat → Nat → Int64} {v t : Int32} {s s' : JSt} {I : Nat → Nat → Int32} {L : Nat → Nat → Int64} (hE : En (js0 v t) s) (h : jsel tx (.ok s) = .ok s') (hX : CX tx m I0 L0 (.ok s') I L) : AI s' ∧ s'.ars = [] ∧ s'.cd = [] := by
  obtain ⟨e, k, hs⟩ := hE
  have hj : jsel tx (.ok s) = if ¬ ((tk tx s.k).1 = 2 ∨ (tk tx s.k).1 = 3) then jfal tx 2 (.ok s) else jxpc tx 19 (jadv (jsl2 tx ((s.wval (if (tk tx s.k).1 = 3 then 1 else 0)).wk (s.k + 1)))) := rfl
  rw [hj] at h
  by_cases c1 : ¬ ((tk tx s.k).1 = 2 ∨ (tk tx s.k).1 = 3)
  · rw [if_pos c1] at h; cases h
  rw [if_neg c1] at h
  generalize (if (tk tx s.k).1 = 3 then (1 : Int32) else 0) = vv at h
  obtain ⟨a, h1, h2, -⟩ := jxpc_ok h
  cases hz : jsl2 tx ((s.wval vv).wk (s.k + 1)) with
  | error e => rw [hz] at h1; cases h1
  | ok b =>
    rw [hz] at h1
    cases h1
    have base : s'.old = 0 ∧ s'.nm = [] ∧ s'.ars = [] ∧ s'.cd = [] ∧ s'.lbs = [] ∧ s'.ens = s.ens ∧ s'.srt = b.srt ∧ s'.chs = b.chs ∧ s'.cns = b.cns := by
      obtain ⟨x, y, z, e3⟩ := jsl2_ok hz
      rw [h2, e3, hs]
      exact ⟨rfl, rfl, rfl, rfl, rfl, rfl, rfl, rfl, rfl⟩
    obtain ⟨p1, p2, p3, p4, p5, p6, p7, p8, p9⟩ := base
    have hcns0 : s.cns = 0 := by rw [hs]; rfl
    have hsl : (b.srt = 2 → ∃ e, e < s.ens.length ∧ b.chs = nI e ∧ b.cns = nI (enl s e)) ∧ (¬ b.srt = 2 → b.cns = 0) := by
      unfold jsl2 at hz
      split at hz
      · cases hz; exact ⟨fun w => absurd (show (0 : Int32) = 2 from w) (by decide), fun _ => hcns0⟩
      split at hz
      · cases hz; exact ⟨fun w => absurd (show (1 : Int32) = 2 from w) (by decide), fun _ => hcns0⟩
      split at hz
      · split at hz
        · rename_i hmem
          cases hz
          refine ⟨fun _ => ⟨enx ((s.wval vv).wk (s.k + 1)) (jnam tx ((s.wval vv).wk (s.k + 1))), ?_, rfl, rfl⟩, fun w => absurd rfl w⟩
          have := List.idxOf_lt_length_iff.mpr hmem
          rw [List.length_map] at this
          exact this
        · cases hz
      · cases hz
    have hel : s.ens.length ≤ 4 := by
      have : s'.ens.length ≤ 4 := hX.cen.2.1
      rw [p6] at this
      exact this
    have hcc : b.srt = 2 → ∃ e, e < s.ens.length ∧ s'.chs = nI e ∧ b.cns = nI (ccs s').length ∧ (ccs s').length ≤ 16 := by
      intro w
      obtain ⟨e, e1, e2, e3⟩ := hsl.1 w
      have hx : s.ens[e]? = some s.ens[e] := List.getElem?_eq_getElem e1
      have hc : ccs s' = s.ens[e].2 := by
        unfold ccs
        rw [p6, p8, e2, nI_clamp (by omega), hx]
      have hen : enl s e = s.ens[e].2.length := by
        unfold enl
        rw [hx]
      have h16 := (hX.cen.2.2 e s.ens[e] (by show s'.ens[e]? = _; rw [p6]; exact hx)).2.2.2.1
      exact ⟨e, e1, by rw [p8]; exact e2, by rw [e3, hen, hc], by rw [hc]; exact h16⟩
    refine ⟨⟨fun w => ?_, fun w => ?_, fun _ => p2, Or.inl p1, fun _ => p1, fun w => ?_⟩, p3, p4⟩
    · rw [p7] at w
      obtain ⟨e, e1, e2, e3, e4⟩ := hcc w
      exact ⟨e, by rw [p6]; exact e1, e2, by rw [p9]; exact e3, e4⟩
    · rw [p7] at w
      rw [p9]
      exact hsl.2 w
    · rw [p5]
      exact ⟨fun y hy => (by cases hy), List.nodup_nil⟩
theorem jlst_ok {tx : List Nat} {r : JRs} {s' : JSt} (h : jlst tx r = .ok s') : ∃ s, r = .ok s ∧ s' = s.wk (s.k + 1) := by
  cases r with
  | error e => cases h
  | ok s =>
    unfold jlst at h
    simp only [jb] at h
    refine ⟨s, rfl, ?_⟩
    by_cases c1 : ¬ (tk tx s.k).1 = 20
    · rw [if_pos c1] at h; cases h
    rw [if_neg c1] at h
    by_cases c2 : ¬ s.val = 0 ∧ ¬ s.old = 0 ∧ ¬ s.set = -1
    · rw [if_pos c2] at h; cases h
    rw [if_neg c2] at h
    by_cases c3 : ¬ s.val = 0 ∧ s.dfl < 0 ∧ (¬ s.srt = 2 ∨ s.lbs.length < (ccs s).length)
    · rw [if_pos c3] at h; cases h
    rw [if_neg c3] at h
    by_cases c4 : (tk tx (s.k + 1)).1 = 27
    · rw [if_pos c4] at h; cases h; rfl
    · rw [if_neg c4] at h; cases h
theorem AI.wk {s : JSt} {k : Nat} (h : AI s) : AI (s.wk k) := h
