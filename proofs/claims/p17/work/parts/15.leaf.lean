/-! ===== the class's leaves ===== -/
theorem m_vin {x : Int32} {n : Nat} (h0 : ¬ x < 0) (h1 : x < Int32.ofNat n) (hn : n < 2 ^ 31) : vp_in x n := by
  rw [vp_in_iff]
  have h2 : (Int32.ofNat n).toInt = (n : Int) := nI_toInt hn
  rw [Int32.lt_iff_toInt_lt] at h0 h1
  rw [h2] at h1
  have h3 : (0 : Int32).toInt = 0 := rfl
  rw [h3] at h0
  omega
theorem m_upr {I : Nat → Nat → Int32} {k j k' j' : Nat} {x : Int32} : m_up I k j x k' j' = if k' = k then (if j' = j then x else I k' j') else I k' j' := by
  unfold m_up va_up upd
  by_cases h : k' = k
  · subst h; simp
  · simp [h]
theorem m_uprL {L : Nat → Nat → Int64} {k j k' j' : Nat} {x : Int64} : m_upL L k j x k' j' = if k' = k then (if j' = j then x else L k' j') else L k' j' := by
  unfold m_upL va_up vp_updL
  by_cases h : k' = k
  · subst h; simp
  · simp [h]
def oAt (I : Nat → Nat → Int32) (i : Int32) : Int32 := if i < 0 then -1 else if i < I 1 1 then (if i < 3000 then I 2 i.toNatClampNeg else -1) else -1
theorem c_at {XL : Nat} {XS : Nat → Int32} {n : Nat} {C : mC} {I : Nat → Nat → Int32} {L : Nat → Nat → Int64} {K : mK} {i : Int32} (hC : m_Ge XL XS (n + 1) C) (hK : K (some (.int (oAt I i))) (m_SH, I, L)) : C 38 [.ref 1, .int i] (m_SH, I, L) K := by
  refine e_X2_at hC (Nat.le_of_ble_eq_true rfl) ?_
  intro C' hC' P hP
  repeat' (first | (refine hP _ ?_; conv => whnf) | (refine And.intro (m_vin (by assumption) (by assumption) (by decide)) ?_) | (refine And.intro (fun _ => ?_) (fun _ => ?_)))
  all_goals (clear hP; try simp only [show Int32.ofNat 3000 = (3000 : Int32) from rfl] at *)
  all_goals (simpa [oAt, *] using hK)
def isSm (x : Int32) : Int32 := if x < 97 then 0 else if 122 < x then 0 else 1
def isFg (x : Int32) : Int32 := if x < 48 then 0 else if 57 < x then 0 else 1
def isTs (x : Int32) : Int32 := if isSm x = 0 then (if isFg x = 0 then (if x < 65 then 0 else if 90 < x then 0 else 1) else 1) else 1
theorem c_isSmall {XL : Nat} {XS : Nat → Int32} {n : Nat} {C : mC} {I : Nat → Nat → Int32} {L : Nat → Nat → Int64} {K : mK} {x : Int32} (hC : m_Ge XL XS (n + 1) C) (hK : K (some (.int (isSm x))) (m_SH, I, L)) : C 70 [.int x] (m_SH, I, L) K := by
  refine e_X6_isSmall hC (Nat.le_of_ble_eq_true rfl) ?_
  intro C' hC' P hP
  repeat' (first | (refine hP _ ?_; conv => whnf) | (refine And.intro rfl ?_) | (refine And.intro (Or.inl rfl) ?_) | (refine And.intro (Or.inr rfl) ?_) | (refine And.intro (m_vin (by assumption) (by assumption) (by decide)) ?_) | (refine And.intro (by assumption) ?_) | (refine And.intro (fun _ => ?_) (fun _ => ?_)))
  all_goals (clear hP; first | (simpa [m_upr, m_uprL, isSm, *] using hK) | (clear hC hC'; simp_all [m_upr, m_uprL, isSm]; done))
theorem c_isFigure {XL : Nat} {XS : Nat → Int32} {n : Nat} {C : mC} {I : Nat → Nat → Int32} {L : Nat → Nat → Int64} {K : mK} {x : Int32} (hC : m_Ge XL XS (n + 1) C) (hK : K (some (.int (isFg x))) (m_SH, I, L)) : C 71 [.int x] (m_SH, I, L) K := by
  refine e_X6_isFigure hC (Nat.le_of_ble_eq_true rfl) ?_
  intro C' hC' P hP
  repeat' (first | (refine hP _ ?_; conv => whnf) | (refine And.intro rfl ?_) | (refine And.intro (Or.inl rfl) ?_) | (refine And.intro (Or.inr rfl) ?_) | (refine And.intro (m_vin (by assumption) (by assumption) (by decide)) ?_) | (refine And.intro (by assumption) ?_) | (refine And.intro (fun _ => ?_) (fun _ => ?_)))
  all_goals (clear hP; first | (simpa [m_upr, m_uprL, isFg, *] using hK) | (clear hC hC'; simp_all [m_upr, m_uprL, isFg]; done))
theorem c_isTextSign {XL : Nat} {XS : Nat → Int32} {n : Nat} {C : mC} {I : Nat → Nat → Int32} {L : Nat → Nat → Int64} {K : mK} {x : Int32} (hC : m_Ge XL XS (n + 2) C) (hK : K (some (.int (isTs x))) (m_SH, I, L)) : C 72 [.int x] (m_SH, I, L) K := by
  refine e_X6_isTextSign hC (Nat.le_of_ble_eq_true rfl) ?_
  intro C' hC' P hP
  repeat' (first | (refine hP _ ?_; conv => whnf) | (refine And.intro rfl ?_) | (refine And.intro (Or.inl rfl) ?_) | (refine And.intro (Or.inr rfl) ?_) | (refine And.intro (m_vin (by assumption) (by assumption) (by decide)) ?_) | (refine And.intro (by assumption) ?_) | (refine c_isSmall hC' ?_) | (refine c_isFigure hC' ?_) | (refine And.intro (fun _ => ?_) (fun _ => ?_)))
  all_goals (clear hP; first | (simpa [m_upr, m_uprL, isTs, *] using hK) | (clear hC hC'; simp_all [m_upr, m_uprL, isTs]; done))
def sgK (x : Int32) : Int32 := if x = 44 then 23 else if x = 45 then 25 else if x = 58 then 21 else if x = 59 then 22 else if x = 61 then 24 else if x = 123 then 19 else if x = 125 then 20 else 28
theorem c_signKind {XL : Nat} {XS : Nat → Int32} {n : Nat} {C : mC} {I : Nat → Nat → Int32} {L : Nat → Nat → Int64} {K : mK} {x : Int32} (hC : m_Ge XL XS (n + 1) C) (hK : K (some (.int (sgK x))) (m_SH, I, L)) : C 73 [.int x] (m_SH, I, L) K := by
  refine e_X6_signKind hC (Nat.le_of_ble_eq_true rfl) ?_
  intro C' hC' P hP
  repeat' (first | (refine hP _ ?_; conv => whnf) | (refine And.intro rfl ?_) | (refine And.intro (Or.inl rfl) ?_) | (refine And.intro (Or.inr rfl) ?_) | (refine And.intro (m_vin (by assumption) (by assumption) (by decide)) ?_) | (refine And.intro (by assumption) ?_) | (refine And.intro (fun _ => ?_) (fun _ => ?_)))
  all_goals (clear hP; first | (simpa [m_upr, m_uprL, sgK, *] using hK) | (clear hC hC'; simp_all [m_upr, m_uprL, sgK]; done))
def kindF (I : Nat → Nat → Int32) : Int32 := if I 17 9 = 0 then (if I 17 8 < 0 then 0 else if I 17 8 < I 3 4 then (if I 17 8 < 3001 then I 4 (I 17 8).toNatClampNeg else 0) else 0) else 0
theorem c_kind {XL : Nat} {XS : Nat → Int32} {n : Nat} {C : mC} {I : Nat → Nat → Int32} {L : Nat → Nat → Int64} {K : mK} (hC : m_Ge XL XS (n + 1) C) (hK : K (some (.int (kindF I))) (m_SH, I, L)) : C 5 [.ref 17] (m_SH, I, L) K := by
  refine e_X1_kind hC (Nat.le_of_ble_eq_true rfl) ?_
  intro C' hC' P hP
  repeat' (first | (refine hP _ ?_; conv => whnf) | (refine And.intro rfl ?_) | (refine And.intro (Or.inl rfl) ?_) | (refine And.intro (Or.inr rfl) ?_) | (refine And.intro (m_vin (by assumption) (by assumption) (by decide)) ?_) | (refine And.intro (by assumption) ?_) | (refine And.intro (fun _ => ?_) (fun _ => ?_)))
  all_goals (clear hP; first | (simpa [m_upr, m_uprL, kindF, *] using hK) | (clear hC hC'; simp_all [m_upr, m_uprL, kindF]; done))
def tvF (I : Nat → Nat → Int32) (L : Nat → Nat → Int64) : Int64 := if I 17 8 < 0 then 0 else if I 17 8 < 3001 then L 6 (I 17 8).toNatClampNeg else 0
theorem c_tokenValue {XL : Nat} {XS : Nat → Int32} {n : Nat} {C : mC} {I : Nat → Nat → Int32} {L : Nat → Nat → Int64} {K : mK} (hC : m_Ge XL XS (n + 1) C) (hK : K (some (.long (tvF I L))) (m_SH, I, L)) : C 6 [.ref 17] (m_SH, I, L) K := by
  refine e_X1_tokenValue hC (Nat.le_of_ble_eq_true rfl) ?_
  intro C' hC' P hP
  repeat' (first | (refine hP _ ?_; conv => whnf) | (refine And.intro rfl ?_) | (refine And.intro (Or.inl rfl) ?_) | (refine And.intro (Or.inr rfl) ?_) | (refine And.intro (m_vin (by assumption) (by assumption) (by decide)) ?_) | (refine And.intro (by assumption) ?_) | (refine And.intro (fun _ => ?_) (fun _ => ?_)))
  all_goals (clear hP; first | (simpa [m_upr, m_uprL, tvF, *] using hK) | (clear hC hC'; simp_all [m_upr, m_uprL, tvF]; done))
def failF (a t : Int32) (I : Nat → Nat → Int32) : Nat → Nat → Int32 := if I 17 9 = 0 then (if t < 0 then I else if t < 3001 then m_up (m_up I 17 9 (if a = 2 then (if I 4 t.toNatClampNeg = 28 then 1 else a) else a)) 17 10 (I 5 t.toNatClampNeg) else I) else I
theorem c_fail {XL : Nat} {XS : Nat → Int32} {n : Nat} {C : mC} {I : Nat → Nat → Int32} {L : Nat → Nat → Int64} {K : mK} {a t : Int32} (hC : m_Ge XL XS (n + 1) C) (hK : K none (m_SH, failF a t I, L)) : C 7 [.ref 17, .int a, .int t] (m_SH, I, L) K := by
  refine e_X1_fail hC (Nat.le_of_ble_eq_true rfl) ?_
  intro C' hC' P hP
  repeat' (first | (refine hP _ ?_; conv => whnf) | (refine And.intro rfl ?_) | (refine And.intro (Or.inl rfl) ?_) | (refine And.intro (Or.inr rfl) ?_) | (refine And.intro (m_vin (by assumption) (by assumption) (by decide)) ?_) | (refine And.intro (by assumption) ?_) | (refine And.intro (fun _ => ?_) (fun _ => ?_)))
  all_goals (clear hP; first | (simpa [m_upr, m_uprL, failF, *] using hK) | (clear hC hC'; simp_all [m_upr, m_uprL, failF]; done))
def expF (k : Int32) (I : Nat → Nat → Int32) : Nat → Nat → Int32 := if kindF I = k then m_up I 17 8 (I 17 8 + 1) else failF 2 (I 17 8) I
theorem c_expect {XL : Nat} {XS : Nat → Int32} {n : Nat} {C : mC} {I : Nat → Nat → Int32} {L : Nat → Nat → Int64} {K : mK} {k : Int32} (hC : m_Ge XL XS (n + 2) C) (hK : K none (m_SH, expF k I, L)) : C 8 [.ref 17, .int k] (m_SH, I, L) K := by
  refine e_X1_expect hC (Nat.le_of_ble_eq_true rfl) ?_
  intro C' hC' P hP
  repeat' (first | (refine hP _ ?_; conv => whnf) | (refine And.intro rfl ?_) | (refine And.intro (Or.inl rfl) ?_) | (refine And.intro (Or.inr rfl) ?_) | (refine And.intro (m_vin (by assumption) (by assumption) (by decide)) ?_) | (refine And.intro (by assumption) ?_) | (refine c_kind hC' ?_) | (refine c_fail hC' ?_) | (refine And.intro (fun _ => ?_) (fun _ => ?_)))
  all_goals (clear hP; first | (simpa [m_upr, m_uprL, expF, *] using hK) | (clear hC hC'; simp_all [m_upr, m_uprL, expF]; done))
