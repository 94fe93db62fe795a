/-! ===== a TABLE or a LOOK-UP ===== -/
def kwid (t : Kt) : Int64 := 4 + ((t.getD (t.length - 1) (0, 0, 0)).1.toInt64 - (t.getD 0 (0, 0, 0)).1.toInt64 + 1) + 9
def frmV (t : Kt) : Int32 := if t.length = 0 then 2 else if lN (3 + 5 * t.length) < kwid t then 2 else 1
theorem KR.key {a b d : Nat} {t : Kt} {I : Nat → Nat → Int32} (h : KR a b d t I) {j : Nat} (hj : j < t.length) : I a j = (t.getD j (0, 0, 0)).1 := by
  have hx : t[j]? = some t[j] := List.getElem?_eq_getElem hj
  rw [List.getD_eq_getElem?_getD, hx]
  exact (h.2 j _ hx).1
theorem c_isDense {XL : Nat} {XS : Nat → Int32} {n : Nat} {C : mC} {I : Nat → Nat → Int32} {L : Nat → Nat → Int64} {K : mK} {t : Kt} (hC : m_Ge XL XS (n + 1) C) (hR : KR 24 25 26 t I) (hc : I 23 3 = nI t.length) (hK : K (some (.int (if frmV t = 1 then 1 else 0))) (m_SH, I, L)) : C 60 [.ref 23] (m_SH, I, L) K := by
  have hl := hR.1
  refine e_X5_isDense hC (Nat.le_of_ble_eq_true rfl) ?_
  intro C' hC' P hP
  repeat (refine hP _ ?_; conv => whnf)
  rw [hc]
  refine ⟨fun z => ?_, fun z => ?_⟩
  · have hpos := (nI_ltI (a := 0) (b := t.length) (by omega) (by omega)).mp z
    repeat (refine hP _ ?_; conv => whnf)
    rw [hc]
    refine ⟨fun w => absurd ((nI_ltI (a := 32) (b := t.length) (by omega) (by omega)).mp w) (by omega), fun _ => ?_⟩
    repeat (refine hP _ ?_; conv => whnf)
    rw [hc, show nI t.length - 1 = nI (t.length - 1) by rw [show (1 : Int32) = nI 1 from rfl, sub_nI (by omega)]]
    refine ⟨vp_in_nI (by omega) (by omega), ?_⟩
    rw [nI_clamp (by omega), hR.key (j := t.length - 1) (by omega)]
    repeat (refine hP _ ?_; conv => whnf)
    refine ⟨vp_in_nI (n := 0) (by decide) (by decide), ?_⟩
    rw [show (Int32.toNatClampNeg 0) = 0 from rfl, hR.key (j := 0) hpos]
    have hsum : (3 : Int64) + 2 * (I 23 3).toInt64 + 3 * (I 23 3).toInt64 = lN (3 + 5 * t.length) := by
      rw [hc, nI_l (by omega), show (3 : Int64) = lN 3 from rfl, show (2 : Int64) = lN 2 from rfl, lN_mul, lN_mul, lN_add, lN_add]
      congr 1
      omega
    have hz : ¬ t.length = 0 := by omega
    repeat (refine hP _ ?_; conv => whnf)
    rw [lg_cmp_gt, hsum]
    refine ⟨fun w => ?_, fun w => ?_⟩
    · have : ¬ frmV t = 1 := by unfold frmV kwid; rw [if_neg hz, if_pos w]; decide
      rw [if_neg this] at hK
      repeat (refine hP _ ?_; conv => whnf)
      exact ⟨rfl, hK⟩
    · have : frmV t = 1 := by unfold frmV kwid; rw [if_neg hz, if_neg w]
      rw [if_pos this] at hK
      repeat (refine hP _ ?_; conv => whnf)
      exact ⟨rfl, hK⟩
  · have h0 : t.length = 0 := by
      by_cases q : t.length = 0
      · exact q
      · exact absurd (show nI 0 < nI t.length from nI_lt (by omega) (by omega)) z
    have : ¬ frmV t = 1 := by unfold frmV; rw [if_pos h0]; decide
    rw [if_neg this] at hK
    repeat (refine hP _ ?_; conv => whnf)
    exact ⟨rfl, hK⟩
theorem r_form {XL : Nat} {XS : Nat → Int32} {n : Nat} {C : mC} {I : Nat → Nat → Int32} {L : Nat → Nat → Int64} {K : mK} {t : Kt} (hC : m_Ge XL XS (n + 1) C) (h0 : I 30 11 = 1) (hR : KR 54 55 56 t I) (hc : I 30 52 = nI t.length) (hK : K (some (.int (frmV t))) (m_SH, I, L)) : C 157 [.ref 30] (m_SH, I, L) K := by
  have hl := hR.1
  refine e_X9_form hC (Nat.le_of_ble_eq_true rfl) ?_
  intro C' hC' P hP
  repeat (refine hP _ ?_; conv => whnf)
  rw [h0]
  refine ⟨fun z => absurd z (by decide), fun _ => ?_⟩
  repeat (refine hP _ ?_; conv => whnf)
  rw [hc]
  have e0 := nI_eq (a := t.length) (b := 0) (by omega) (by omega)
  refine ⟨fun z => ?_, fun z => ?_⟩
  · have hz : t.length = 0 := e0.mp z
    have : frmV t = 2 := by unfold frmV; rw [if_pos hz]
    rw [this] at hK
    repeat (refine hP _ ?_; conv => whnf)
    exact hK
  · have hz : ¬ t.length = 0 := fun q => z (e0.mpr q)
    repeat (refine hP _ ?_; conv => whnf)
    rw [hc, show nI t.length - 1 = nI (t.length - 1) by rw [show (1 : Int32) = nI 1 from rfl, sub_nI (by omega)]]
    refine ⟨vp_in_nI (by omega) (by omega), ?_⟩
    rw [nI_clamp (by omega), hR.key (j := t.length - 1) (by omega)]
    repeat (refine hP _ ?_; conv => whnf)
    refine ⟨vp_in_nI (n := 0) (by decide) (by decide), ?_⟩
    rw [show (Int32.toNatClampNeg 0) = 0 from rfl, hR.key (j := 0) (by omega)]
    have hsum : (3 : Int64) + 5 * (I 30 52).toInt64 = lN (3 + 5 * t.length) := by
      rw [hc, nI_l (by omega), show (3 : Int64) = lN 3 from rfl, show (5 : Int64) = lN 5 from rfl, lN_mul, lN_add]
    repeat (refine hP _ ?_; conv => whnf)
    rw [lg_cmp_gt, hsum]
    refine ⟨fun w => ?_, fun w => ?_⟩
    · have : frmV t = 2 := by unfold frmV kwid; rw [if_neg hz, if_pos w]
      rw [this] at hK
      repeat (refine hP _ ?_; conv => whnf)
      exact hK
    · have : frmV t = 1 := by unfold frmV kwid; rw [if_neg hz, if_neg w]
      rw [this] at hK
      repeat (refine hP _ ?_; conv => whnf)
      exact hK
theorem frmV_12 {t : Kt} : frmV t = 1 ∨ frmV t = 2 := by
  unfold frmV
  split
  · exact Or.inr rfl
  · split
    · exact Or.inr rfl
    · exact Or.inl rfl
theorem c_form {XL : Nat} {XS : Nat → Int32} {n : Nat} {C : mC} {I : Nat → Nat → Int32} {L : Nat → Nat → Int64} {K : mK} {t : Kt} (hC : m_Ge XL XS (n + 2) C) (h0 : I 8 0 = 1) (hR : KR 24 25 26 t I) (hc : I 23 3 = nI t.length) (hK : K (some (.int (frmV t))) (m_SH, I, L)) : C 96 [.ref 0] (m_SH, I, L) K := by
  refine e_X8_form hC (Nat.le_of_ble_eq_true rfl) ?_
  intro C' hC' P hP
  repeat (refine hP _ ?_; conv => whnf)
  rw [h0]
  refine ⟨fun z => absurd z (by decide), fun _ => ?_⟩
  repeat (refine hP _ ?_; conv => whnf)
  refine c_isDense (n := n) hC' hR hc ?_
  rcases frmV_12 (t := t) with h | h
  · rw [h] at hK ⊢
    rw [if_pos rfl]
    repeat (refine hP _ ?_; conv => whnf)
    refine ⟨fun z => absurd z (by decide), fun _ => ?_⟩
    repeat (refine hP _ ?_; conv => whnf)
    exact hK
  · rw [h] at hK ⊢
    rw [if_neg (by decide)]
    repeat (refine hP _ ?_; conv => whnf)
    refine ⟨fun _ => ?_, fun z => absurd rfl z⟩
    repeat (refine hP _ ?_; conv => whnf)
    exact hK
theorem c_formN {XL : Nat} {XS : Nat → Int32} {n : Nat} {C : mC} {I : Nat → Nat → Int32} {L : Nat → Nat → Int64} {K : mK} (hC : m_Ge XL XS (n + 2) C) (h0 : I 8 0 = 0) (hK : K (some (.int (-3))) (m_SH, I, L)) : C 96 [.ref 0] (m_SH, I, L) K := by
  refine e_X8_form hC (Nat.le_of_ble_eq_true rfl) ?_
  intro C' hC' P hP
  repeat (refine hP _ ?_; conv => whnf)
  rw [h0]
  refine ⟨fun _ => ?_, fun z => absurd rfl z⟩
  repeat (refine hP _ ?_; conv => whnf)
  exact hK
theorem r_formN {XL : Nat} {XS : Nat → Int32} {n : Nat} {C : mC} {I : Nat → Nat → Int32} {L : Nat → Nat → Int64} {K : mK} (hC : m_Ge XL XS (n + 1) C) (h0 : I 30 11 = 0) (hK : K (some (.int (-3))) (m_SH, I, L)) : C 157 [.ref 30] (m_SH, I, L) K := by
  refine e_X9_form hC (Nat.le_of_ble_eq_true rfl) ?_
  intro C' hC' P hP
  repeat (refine hP _ ?_; conv => whnf)
  rw [h0]
  refine ⟨fun _ => ?_, fun z => absurd rfl z⟩
  repeat (refine hP _ ?_; conv => whnf)
  exact hK
theorem r_labelN {XL : Nat} {XS : Nat → Int32} {n : Nat} {C : mC} {I : Nat → Nat → Int32} {L : Nat → Nat → Int64} {K : mK} {i a : Int32} (hC : m_Ge XL XS (n + 1) C) (h0 : I 30 11 = 0) (hK : K (some (.int (-3))) (m_SH, I, L)) : C 148 [.ref 30, .int i, .int a] (m_SH, I, L) K := by
  refine e_X9_label hC (Nat.le_of_ble_eq_true rfl) ?_
  intro C' hC' P hP
  repeat (refine hP _ ?_; conv => whnf)
  rw [h0]
  refine ⟨fun _ => ?_, fun z => absurd rfl z⟩
  repeat (refine hP _ ?_; conv => whnf)
  exact hK
