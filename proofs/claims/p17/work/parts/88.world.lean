/-! ===== both worlds, from call to call ===== -/
def UI (I : Nat → Nat → Int32) (L : Nat → Nat → Int64) : Prop := (I 8 0 = 0 ∧ I 30 11 = 0 ∧ I 23 3 = 0 ∧ I 30 52 = 0) ∨ (I 8 0 = 1 ∧ I 30 11 = 1 ∧ ∃ s, UC s I L ∧ UR s I L ∧ WQ s ∧ AR s)
def RI (I : Nat → Nat → Int32) : Prop := (∀ i, i < 20 → I 29 i = I 53 i) ∧ I 27 3 = I 30 48 ∧ ∃ c, c ≤ 120 ∧ I 30 49 = nI c ∧ ((I 27 4 = 0 ∧ I 30 47 = 0 ∧ I 27 2 = 0) ∨ (I 27 4 = 1 ∧ I 30 47 = 1 ∧ I 27 2 = nI c ∧ ∀ j, j < c → I 28 j = I 52 j))
def WI (I : Nat → Nat → Int32) (L : Nat → Nat → Int64) : Prop := (∃ tx, TxOk tx ∧ TxC tx I ∧ TxM tx I) ∧ (WdC L ∧ WdM L) ∧ BB I ∧ (∀ e, e < 4 → ∃ c, c ≤ 16 ∧ I 21 e = nI c) ∧ RI I ∧ UI I L
theorem i_ne10 : ¬ (1 : Int32) = 0 := by decide
theorem q_told {I : Nat → Nat → Int32} {L : Nat → Nat → Int64} {a : Int32} (h : UI I L) : toldF a I = mtoldF a I := by
  unfold toldF mtoldF
  by_cases g1 : a < 0
  · rw [if_pos g1, if_pos g1]
  rw [if_neg g1, if_neg g1]
  by_cases g2 : 7 < a
  · rw [if_pos g2, if_pos g2]
  rw [if_neg g2, if_neg g2]
  rcases h with ⟨h1, h2, -, -⟩ | ⟨h1, h2, s, hC, hR, hW, hA⟩
  · rw [if_pos h1, if_pos h2]
  · simp only [h1, h2, if_neg i_ne10]
    obtain ⟨hAI, ⟨c6, -⟩, -, ⟨⟨f1, f2, f3, f4, f5, f6⟩, ⟨g1', -, -⟩, ⟨l1, -, -, -⟩, -⟩, -⟩ := hC
    obtain ⟨⟨⟨r12, r4, r34⟩, hsl, ⟨r19, -⟩, ⟨r21, -⟩, r27, r28, -⟩, ⟨r26, -⟩, -⟩ := hR
    obtain ⟨r16, -, r17, -, r2⟩ := hsl rfl
    have e1 : I 8 1 = I 30 16 := Eq.trans f1 r16.symm
    have e2 : I 8 2 = I 30 17 := Eq.trans f2 r17.symm
    have e3 : I 8 4 = I 30 19 := Eq.trans g1' r19.symm
    have e4 : I 8 5 = I 30 21 := Eq.trans l1 r21.symm
    have e5 : I 8 6 = I 30 26 := Eq.trans c6 r26.symm
    have e6 : I 8 7 = I 30 27 := Eq.trans f5 r27.symm
    have e7 : I 8 8 = I 30 28 := Eq.trans f6 r28.symm
    rw [e1, e2, e3, e4, e5, e6, e7]
    have e8 : I 8 3 = (if I 30 17 = 2 then I 34 (I 30 18).toNatClampNeg else 0) := by
      have f4 : I 8 3 = s.cns := f4
      rw [f4, r17]
      by_cases w : s.srt = 2
      · rw [if_pos w]
        obtain ⟨e, e1, e2, e3, e4⟩ := r2 w
        have hx : s.ens[e]? = some s.ens[e] := List.getElem?_eq_getElem e1
        rw [e4, e3, nI_clamp (by omega), (r34 e _ hx).2.2.1]
        unfold ccs
        rw [e2, nI_clamp (by omega), hx]
      · rw [if_neg w]
        exact hAI.2.1 w
    rw [e8]
theorem q_toldS {I : Nat → Nat → Int32} {L : Nat → Nat → Int64} (h : UI I L) : ¬ I 30 11 = 0 → I 30 17 = 2 → vp_in (I 30 18) 4 := by
  intro h0 h2
  rcases h with ⟨-, h, -, -⟩ | ⟨-, -, s, -, hR, -, -⟩
  · exact absurd h h0
  · obtain ⟨⟨⟨-, r4, -⟩, hsl, -⟩, -⟩ := hR
    obtain ⟨-, -, r17, -, r2⟩ := hsl rfl
    rw [r17] at h2
    obtain ⟨e, e1, -, e3, -⟩ := r2 h2
    rw [e3]
    exact vp_in_nI (by omega) (by omega)
theorem q_label {I : Nat → Nat → Int32} {L : Nat → Nat → Int64} {i a : Int32} (h : UI I L) : labelF i a I = mlabelF i a I := by
  unfold labelF mlabelF
  rcases h with ⟨h1, h2, -, -⟩ | ⟨h1, h2, s, hC, hR, -, -⟩
  · rw [if_pos h1, if_pos h2]
  · simp only [h1, h2, if_neg i_ne10]
    obtain ⟨-, -, -, ⟨-, -, ⟨l1, l2, l3, -⟩, -⟩, -⟩ := hC
    obtain ⟨⟨-, -, -, ⟨r21, -, r3⟩, -⟩, -⟩ := hR
    have l1 : I 8 5 = nI s.lbs.length := l1
    have l2 : s.lbs.length ≤ 32 := l2
    by_cases g1 : i < 0
    · rw [if_pos g1, if_pos g1]
    rw [if_neg g1, if_neg g1, l1, r21]
    by_cases g2 : i < nI s.lbs.length
    · rw [if_pos g2, if_pos g2]
      obtain ⟨j, hj, rfl⟩ := nI_of g1
      have hjl := (nI_ltI hj (by omega)).mp g2
      have hy : s.lbs[j]? = some s.lbs[j] := List.getElem?_eq_getElem hjl
      rw [if_pos (show nI j < 32 from nI_lt (a := j) (b := 32) (by omega) (by omega)), nI_clamp hj, (l3 j _ hy).1, (l3 j _ hy).2.1, (r3 j _ hy).1, (r3 j _ hy).2.1]
      by_cases a0 : a = 0
      · subst a0
        rfl
      · rw [if_neg a0, if_neg a0]
        by_cases a1 : a = 1
        · subst a1
          rfl
        · rw [if_neg a1]
          by_cases b1 : a < 0
          · rw [if_pos b1]
          · rw [if_neg b1]
            obtain ⟨x, hx, rfl⟩ := nI_of b1
            have : 1 < x := by
              have h0 : ¬ x = 0 := fun t => a0 (by rw [t]; rfl)
              have h1 : ¬ x = 1 := fun t => a1 (by rw [t]; rfl)
              omega
            rw [if_pos (show (1 : Int32) < nI x from nI_lt (a := 1) this hx)]
    · rw [if_neg g2, if_neg g2]
theorem q_labelS {I : Nat → Nat → Int32} {L : Nat → Nat → Int64} {i : Int32} (h : UI I L) (h0 : I 30 11 = 1) : ¬ i < 0 → i < I 30 21 → vp_in i 32 := by
  intro g1 g2
  rcases h with ⟨-, h, -, -⟩ | ⟨-, -, s, -, hR, -, -⟩
  · rw [h0] at h; exact absurd h (by decide)
  · obtain ⟨⟨-, -, -, ⟨r21, r2, -⟩, -⟩, -⟩ := hR
    rw [r21] at g2
    obtain ⟨j, hj, rfl⟩ := nI_of g1
    have := (nI_ltI hj (by omega)).mp g2
    exact vp_in_nI (by omega) (by omega)
theorem q_keyS {I : Nat → Nat → Int32} {L : Nat → Nat → Int64} {i : Int32} (h : UI I L) : ¬ i < 0 → i < I 30 52 → vp_in i 32 := by
  intro g1 g2
  rcases h with ⟨-, -, -, h⟩ | ⟨-, -, s, -, hR, -, -⟩
  · rw [h] at g2; exact absurd g2 g1
  · obtain ⟨-, -, -, k1, k2⟩ := hR
    rw [k2] at g2
    obtain ⟨j, hj, rfl⟩ := nI_of g1
    have := k1.1
    have := (nI_ltI hj (by omega)).mp g2
    exact vp_in_nI (by omega) (by omega)
theorem q_rows {I : Nat → Nat → Int32} {L : Nat → Nat → Int64} {i : Int32} (h : UI I L) : (if I 8 0 = 0 then (-3 : Int32) else I 23 3) = (if I 30 11 = 0 then -3 else I 30 52) ∧ (if hasF i I = 0 then (0 : Int32) else I 24 i.toNatClampNeg) = (if I 30 11 = 0 then 0 else if i < 0 then 0 else if i < I 30 52 then I 54 i.toNatClampNeg else 0) ∧ (if I 8 0 = 0 then (-3 : Int32) else if hasF i I = 0 then -1 else I 25 i.toNatClampNeg) = (if I 30 11 = 0 then -3 else if i < 0 then -1 else if i < I 30 52 then I 55 i.toNatClampNeg else -1) ∧ (if I 8 0 = 0 then (-3 : Int32) else if hasF i I = 0 then -1 else I 26 i.toNatClampNeg) = (if I 30 11 = 0 then -3 else if i < 0 then -1 else if i < I 30 52 then I 56 i.toNatClampNeg else -1) := by
  rcases h with ⟨h1, h2, h3, h4⟩ | ⟨h1, h2, s, hC, hR, -, -⟩
  · have hh : hasF i I = 0 := by
      unfold hasF
      rw [h3]
      by_cases g : i < 0
      · rw [if_pos g]
      · rw [if_neg g, if_neg g]
    rw [h1, h2, hh]
    exact ⟨rfl, rfl, rfl, rfl⟩
  · obtain ⟨-, -, -, -, k1, k2⟩ := hC
    obtain ⟨-, -, -, m1, m2⟩ := hR
    have hl := k1.1
    simp only [h1, h2, if_neg i_ne10]
    refine ⟨k2.trans m2.symm, ?_⟩
    unfold hasF
    rw [k2, m2]
    by_cases g1 : i < 0
    · rw [if_pos g1, if_pos g1, if_pos g1, if_pos g1]
      exact ⟨rfl, rfl, rfl⟩
    · rw [if_neg g1, if_neg g1, if_neg g1, if_neg g1]
      by_cases g2 : i < nI (ktab s.lbs).length
      · rw [if_pos g2, if_pos g2, if_pos g2, if_pos g2]
        obtain ⟨j, hj, rfl⟩ := nI_of g1
        have hjl := (nI_ltI hj (by omega)).mp g2
        have hx : (ktab s.lbs)[j]? = some (ktab s.lbs)[j] := List.getElem?_eq_getElem hjl
        obtain ⟨x1, x2, x3⟩ := k1.2 j _ hx
        obtain ⟨y1, y2, y3⟩ := m1.2 j _ hx
        rw [if_pos (show nI j < 32 from nI_lt (a := j) (b := 32) (by omega) (by omega)), nI_clamp hj]
        simp only [if_neg i_ne10]
        exact ⟨x1.trans y1.symm, x2.trans y2.symm, x3.trans y3.symm⟩
      · rw [if_neg g2, if_neg g2, if_neg g2, if_neg g2]
        exact ⟨rfl, rfl, rfl⟩
theorem q_trace {I : Nat → Nat → Int32} {i : Int32} (h : RI I) : (if I 27 4 = 0 then (-3 : Int32) else I 27 2) = (if I 30 47 = 0 then -3 else I 30 49) ∧ traceF i I = mtraceF i I ∧ I 27 3 = I 30 48 ∧ (¬ i < 0 → i < I 30 49 → vp_in i 700) := by
  obtain ⟨h1, h2, c, hc, h3, h4⟩ := h
  have hin : ¬ i < 0 → i < I 30 49 → vp_in i 700 := by
    intro g1 g2
    rw [h3] at g2
    obtain ⟨j, hj, rfl⟩ := nI_of g1
    have := (nI_ltI hj (by omega)).mp g2
    exact vp_in_nI (by omega) (by omega)
  unfold traceF mtraceF
  rcases h4 with ⟨a1, a2, a3⟩ | ⟨a1, a2, a3, a4⟩
  · rw [a1, a2, a3]
    refine ⟨rfl, ?_, h2, hin⟩
    rw [if_pos rfl]
    by_cases g : i < 0
    · rw [if_pos g]
    · rw [if_neg g, if_neg g]
  · rw [a1, a2, a3, h3]
    refine ⟨by simp only [if_neg i_ne10], ?_, h2, by rw [h3] at hin; exact hin⟩
    simp only [if_neg i_ne10]
    by_cases g1 : i < 0
    · rw [if_pos g1, if_pos g1]
    · rw [if_neg g1, if_neg g1]
      by_cases g2 : i < nI c
      · rw [if_pos g2, if_pos g2]
        obtain ⟨j, hj, rfl⟩ := nI_of g1
        have hjl := (nI_ltI hj (by omega)).mp g2
        rw [if_pos (show nI j < 120 from nI_lt (a := j) (b := 120) (by omega) (by omega)), nI_clamp hj]
        exact a4 j hjl
      · rw [if_neg g2, if_neg g2]
