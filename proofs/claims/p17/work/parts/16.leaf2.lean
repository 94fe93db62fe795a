def bgF (k : Int32) : Int32 := if k = 19 then 1 else if k = 16 then 1 else if k < 8 then 0 else if 14 < k then 0 else 1
theorem c_beginsStmt {XL : Nat} {XS : Nat → Int32} {n : Nat} {C : mC} {I : Nat → Nat → Int32} {L : Nat → Nat → Int64} {K : mK} {k : Int32} (hC : m_Ge XL XS (n + 1) C) (hK : K (some (.int (bgF k))) (m_SH, I, L)) : C 24 [.int k] (m_SH, I, L) K := by
  refine e_X1_beginsStmt hC (Nat.le_of_ble_eq_true rfl) ?_
  intro C' hC' P hP
  repeat' (first | (refine hP _ ?_; conv => whnf) | (refine And.intro rfl ?_) | (refine And.intro (Or.inl rfl) ?_) | (refine And.intro (Or.inr rfl) ?_) | (refine And.intro (m_vin (by assumption) (by assumption) (by decide)) ?_) | (refine And.intro (by assumption) ?_) | (refine And.intro (fun _ => ?_) (fun _ => ?_)))
  all_goals (clear hP; first | (simpa [m_upr, m_uprL, bgF, *] using hK) | (clear hC hC'; simp_all [m_upr, m_uprL, bgF]; done))
def ccF (e : Int32) (I : Nat → Nat → Int32) : Int32 := if e < 0 then 0 else if e < 4 then I 21 e.toNatClampNeg else 0
theorem c_constantCount {XL : Nat} {XS : Nat → Int32} {n : Nat} {C : mC} {I : Nat → Nat → Int32} {L : Nat → Nat → Int64} {K : mK} {a : Int32} (hC : m_Ge XL XS (n + 1) C) (hK : K (some (.int (ccF a I))) (m_SH, I, L)) : C 14 [.ref 17, .int a] (m_SH, I, L) K := by
  refine e_X1_constantCount hC (Nat.le_of_ble_eq_true rfl) ?_
  intro C' hC' P hP
  repeat' (first | (refine hP _ ?_; conv => whnf) | (refine And.intro rfl ?_) | (refine And.intro (Or.inl rfl) ?_) | (refine And.intro (Or.inr rfl) ?_) | (refine And.intro (m_vin (by assumption) (by assumption) (by decide)) ?_) | (refine And.intro (by assumption) ?_) | (refine And.intro (fun _ => ?_) (fun _ => ?_)))
  all_goals (clear hP; first | (simpa [m_upr, m_uprL, ccF, *] using hK) | (clear hC hC'; simp_all [m_upr, m_uprL, ccF]; done))
def stepF (k a b : Int32) (I : Nat → Nat → Int32) : Nat → Nat → Int32 := if I 13 3 < 260 then m_up (m_up (m_up (m_up I 14 (I 13 3).toNatClampNeg (vp_nar .byte k.toInt8.toInt32)) 15 (I 13 3).toNatClampNeg a) 16 (I 13 3).toNatClampNeg b) 13 3 (I 13 3 + 1) else I
theorem c_step {XL : Nat} {XS : Nat → Int32} {n : Nat} {C : mC} {I : Nat → Nat → Int32} {L : Nat → Nat → Int64} {K : mK} {k a b : Int32} (hC : m_Ge XL XS (n + 1) C) (h0 : ¬ I 13 3 < 0) (hK : K none (m_SH, stepF k a b I, L)) : C 1 [.ref 13, .int k, .int a, .int b] (m_SH, I, L) K := by
  refine e_X0_step hC (Nat.le_of_ble_eq_true rfl) ?_
  intro C' hC' P hP
  repeat' (first | (refine hP _ ?_; conv => whnf) | (refine And.intro rfl ?_) | (refine And.intro (Or.inl rfl) ?_) | (refine And.intro (Or.inr rfl) ?_) | (refine And.intro (m_vin (by assumption) (by assumption) (by decide)) ?_) | (refine And.intro (by assumption) ?_) | (refine And.intro (fun _ => ?_) (fun _ => ?_)))
  all_goals (clear hP; first | (simpa [m_upr, m_uprL, stepF, *] using hK) | (clear hC hC'; simp_all [m_upr, m_uprL, stepF]; done))
def leadF (a : Int32) (I : Nat → Nat → Int32) : Nat → Nat → Int32 := if a < 0 then I else if a < I 13 3 then m_up I 15 a.toNatClampNeg (I 13 3) else I
theorem c_leadHere {XL : Nat} {XS : Nat → Int32} {n : Nat} {C : mC} {I : Nat → Nat → Int32} {L : Nat → Nat → Int64} {K : mK} {a : Int32} (hC : m_Ge XL XS (n + 1) C) (h0 : ¬ a < 0 → a < I 13 3 → vp_in a 260) (hK : K none (m_SH, leadF a I, L)) : C 2 [.ref 13, .int a] (m_SH, I, L) K := by
  refine e_X0_leadHere hC (Nat.le_of_ble_eq_true rfl) ?_
  intro C' hC' P hP
  repeat' (first | (refine hP _ ?_; conv => whnf) | (refine And.intro (h0 (by assumption) (by assumption)) ?_) | (refine And.intro (fun _ => ?_) (fun _ => ?_)))
  all_goals (clear hP; simpa [leadF, *] using hK)
theorem c_makeSet {XL : Nat} {XS : Nat → Int32} {n : Nat} {C : mC} {I : Nat → Nat → Int32} {L : Nat → Nat → Int64} {K : mK} {a : Int32} (hC : m_Ge XL XS (n + 1) C) (hK : K none (m_SH, if a < 0 then I else m_up I 18 2 (I 18 2 ||| (1 <<< (a &&& 31))), L)) : C 54 [.ref 18, .int a] (m_SH, I, L) K := by
  refine e_X4_makeSet hC (Nat.le_of_ble_eq_true rfl) ?_
  intro C' hC' P hP
  repeat' (first | (refine hP _ ?_; conv => whnf) | (refine And.intro rfl ?_) | (refine And.intro (Or.inl rfl) ?_) | (refine And.intro (Or.inr rfl) ?_) | (refine And.intro (m_vin (by assumption) (by assumption) (by decide)) ?_) | (refine And.intro (by assumption) ?_) | (refine And.intro (fun _ => ?_) (fun _ => ?_)))
  all_goals (clear hP; first | (simpa [m_upr, m_uprL, *] using hK) | (clear hC hC'; simp_all [m_upr, m_uprL]; done))
def isSetF (a : Int32) (I : Nat → Nat → Int32) : Int32 := if a < 0 then 0 else if (((I 18 2).toUInt32 >>> (a.toUInt32 &&& Int32.toUInt32 31)).toInt32 &&& 1) = 1 then 1 else 0
theorem c_isSet {XL : Nat} {XS : Nat → Int32} {n : Nat} {C : mC} {I : Nat → Nat → Int32} {L : Nat → Nat → Int64} {K : mK} {a : Int32} (hC : m_Ge XL XS (n + 1) C) (hK : K (some (.int (isSetF a I))) (m_SH, I, L)) : C 53 [.ref 18, .int a] (m_SH, I, L) K := by
  refine e_X4_isSet hC (Nat.le_of_ble_eq_true rfl) ?_
  intro C' hC' P hP
  repeat' (first | (refine hP _ ?_; conv => whnf) | (refine And.intro rfl ?_) | (refine And.intro (Or.inl rfl) ?_) | (refine And.intro (Or.inr rfl) ?_) | (refine And.intro (m_vin (by assumption) (by assumption) (by decide)) ?_) | (refine And.intro (by assumption) ?_) | (refine And.intro (fun _ => ?_) (fun _ => ?_)))
  all_goals (clear hP; first | (simpa [m_upr, m_uprL, isSetF, *] using hK) | (clear hC hC'; simp_all [m_upr, m_uprL, isSetF]; done))
theorem c_isReached {XL : Nat} {XS : Nat → Int32} {n : Nat} {C : mC} {I : Nat → Nat → Int32} {L : Nat → Nat → Int64} {K : mK} (hC : m_Ge XL XS (n + 1) C) (hK : K (some (.int (if I 18 2 = -1 then 0 else 1))) (m_SH, I, L)) : C 55 [.ref 18] (m_SH, I, L) K := by
  refine e_X4_isReached hC (Nat.le_of_ble_eq_true rfl) ?_
  intro C' hC' P hP
  repeat' (first | (refine hP _ ?_; conv => whnf) | (refine And.intro rfl ?_) | (refine And.intro (Or.inl rfl) ?_) | (refine And.intro (Or.inr rfl) ?_) | (refine And.intro (m_vin (by assumption) (by assumption) (by decide)) ?_) | (refine And.intro (by assumption) ?_) | (refine And.intro (fun _ => ?_) (fun _ => ?_)))
  all_goals (clear hP; first | (simpa [m_upr, m_uprL, *] using hK) | (clear hC hC'; simp_all [m_upr, m_uprL]; done))
def shrinkF (a : Int32) (I : Nat → Nat → Int32) : Nat → Nat → Int32 := if I 18 2 = -1 then m_up I 18 1 a else m_up (m_up I 18 1 a) 18 2 (I 18 2 &&& ((1 <<< (a &&& 31)) - 1))
theorem c_shrink {XL : Nat} {XS : Nat → Int32} {n : Nat} {C : mC} {I : Nat → Nat → Int32} {L : Nat → Nat → Int64} {K : mK} {a : Int32} (hC : m_Ge XL XS (n + 1) C) (hK : K none (m_SH, shrinkF a I, L)) : C 52 [.ref 18, .int a] (m_SH, I, L) K := by
  refine e_X4_shrink hC (Nat.le_of_ble_eq_true rfl) ?_
  intro C' hC' P hP
  repeat' (first | (refine hP _ ?_; conv => whnf) | (refine And.intro rfl ?_) | (refine And.intro (Or.inl rfl) ?_) | (refine And.intro (Or.inr rfl) ?_) | (refine And.intro (m_vin (by assumption) (by assumption) (by decide)) ?_) | (refine And.intro (by assumption) ?_) | (refine And.intro (fun _ => ?_) (fun _ => ?_)))
  all_goals (clear hP; first | (simpa [m_upr, m_uprL, shrinkF, *] using hK) | (clear hC hC'; simp_all [m_upr, m_uprL, shrinkF]; done))
theorem c_number {XL : Nat} {XS : Nat → Int32} {n : Nat} {C : mC} {I : Nat → Nat → Int32} {L : Nat → Nat → Int64} {K : mK} (hC : m_Ge XL XS (n + 2) C) (hK : K (some (.int (if kindF I = 17 then (tvF I L).toInt32 else 0))) (m_SH, if kindF I = 17 then m_up I 17 8 (I 17 8 + 1) else failF 2 (I 17 8) I, L)) : C 35 [.ref 17] (m_SH, I, L) K := by
  refine e_X1_number hC (Nat.le_of_ble_eq_true rfl) ?_
  intro C' hC' P hP
  repeat' (first | (refine hP _ ?_; conv => whnf) | (refine And.intro rfl ?_) | (refine And.intro (Or.inl rfl) ?_) | (refine And.intro (Or.inr rfl) ?_) | (refine And.intro (m_vin (by assumption) (by assumption) (by decide)) ?_) | (refine And.intro (by assumption) ?_) | (refine c_kind hC' ?_) | (refine c_fail hC' ?_) | (refine c_tokenValue hC' ?_) | (refine And.intro (fun _ => ?_) (fun _ => ?_)))
  all_goals (clear hP; first | (simpa [m_upr, m_uprL, *] using hK) | (clear hC hC'; simp_all [m_upr, m_uprL]; done))
theorem c_add {XL : Nat} {XS : Nat → Int32} {n : Nat} {C : mC} {I : Nat → Nat → Int32} {L : Nat → Nat → Int64} {K : mK} {a : Int64} (hC : m_Ge XL XS (n + 1) C) (h0 : ¬ I 18 1 < 0) (h1 : I 18 1 < 20) (hK : K (some (.int (I 18 1 + 1 - 1))) (m_SH, m_up I 18 1 (I 18 1 + 1), m_upL L 19 (I 18 1).toNatClampNeg a)) : C 51 [.ref 18, .long a] (m_SH, I, L) K := by
  refine e_X4_add hC (Nat.le_of_ble_eq_true rfl) ?_
  intro C' hC' P hP
  repeat' (first | (refine hP _ ?_; conv => whnf) | (refine And.intro rfl ?_) | (refine And.intro (Or.inl rfl) ?_) | (refine And.intro (Or.inr rfl) ?_) | (refine And.intro (m_vin (by assumption) (by assumption) (by decide)) ?_) | (refine And.intro (by assumption) ?_) | (refine And.intro (fun _ => ?_) (fun _ => ?_)))
  all_goals (clear hP; first | (simpa [m_upr, m_uprL, *] using hK) | (clear hC hC'; simp_all [m_upr, m_uprL]; done))
theorem c_leave {XL : Nat} {XS : Nat → Int32} {n : Nat} {C : mC} {I : Nat → Nat → Int32} {L : Nat → Nat → Int64} {K : mK} {a b : Int32} (hC : m_Ge XL XS (n + 2) C) (h0 : ¬ I 13 3 < 0) (hK : K none (m_SH, m_up (stepF 5 a b I) 18 2 (-1), L)) : C 34 [.ref 17, .int a, .int b] (m_SH, I, L) K := by
  refine e_X1_leave hC (Nat.le_of_ble_eq_true rfl) ?_
  intro C' hC' P hP
  repeat (refine hP _ ?_; conv => whnf)
  refine c_step hC' h0 ?_
  repeat' (first | (refine hP _ ?_; conv => whnf) | (refine And.intro rfl ?_) | (refine And.intro (Or.inl rfl) ?_) | (refine And.intro (Or.inr rfl) ?_) | (refine And.intro (m_vin (by assumption) (by assumption) (by decide)) ?_) | (refine And.intro (by assumption) ?_) | (refine And.intro (fun _ => ?_) (fun _ => ?_)))
  all_goals (clear hP; first | (simpa [m_upr, m_uprL, *] using hK) | (clear hC hC'; simp_all [m_upr, m_uprL]; done))
theorem c_setName {XL : Nat} {XS : Nat → Int32} {n : Nat} {C : mC} {I : Nat → Nat → Int32} {L : Nat → Nat → Int64} {K : mK} {a b : Int32} (hC : m_Ge XL XS (n + 2) C) (h0 : ¬ I 13 3 < 0) (hK : K none (m_SH, if a < 0 then stepF 2 a b I else m_up (stepF 2 a b I) 18 2 (stepF 2 a b I 18 2 ||| (1 <<< (a &&& 31))), L)) : C 30 [.ref 17, .int a, .int b] (m_SH, I, L) K := by
  refine e_X1_setName hC (Nat.le_of_ble_eq_true rfl) ?_
  intro C' hC' P hP
  repeat (refine hP _ ?_; conv => whnf)
  refine c_step hC' h0 ?_
  repeat' (first | (refine hP _ ?_; conv => whnf) | (refine And.intro rfl ?_) | (refine And.intro (Or.inl rfl) ?_) | (refine And.intro (Or.inr rfl) ?_) | (refine And.intro (m_vin (by assumption) (by assumption) (by decide)) ?_) | (refine And.intro (by assumption) ?_) | (refine c_makeSet hC' ?_) | (refine And.intro (fun _ => ?_) (fun _ => ?_)))
  all_goals (clear hP; first | (simpa [m_upr, m_uprL, *] using hK) | (clear hC hC'; simp_all [m_upr, m_uprL]; done))
/-! the answers that are read off the class's fields -/
theorem c_place {XL : Nat} {XS : Nat → Int32} {n : Nat} {C : mC} {I : Nat → Nat → Int32} {L : Nat → Nat → Int64} {K : mK} (hC : m_Ge XL XS (n + 1) C) (hK : K (some (.int (I 17 10))) (m_SH, I, L)) : C 88 [.ref 0] (m_SH, I, L) K := by
  refine e_X8_place hC (Nat.le_of_ble_eq_true rfl) ?_
  intro C' hC' P hP
  repeat' (first | (refine hP _ ?_; conv => whnf) | (refine And.intro rfl ?_) | (refine And.intro (Or.inl rfl) ?_) | (refine And.intro (Or.inr rfl) ?_) | (refine And.intro (m_vin (by assumption) (by assumption) (by decide)) ?_) | (refine And.intro (by assumption) ?_) | (refine And.intro (fun _ => ?_) (fun _ => ?_)))
  all_goals (clear hP; first | (simpa [m_upr, m_uprL, *] using hK) | (clear hC hC'; simp_all [m_upr, m_uprL]; done))
def toldF (a : Int32) (I : Nat → Nat → Int32) : Int32 := if a < 0 then -2 else if 7 < a then -2 else if I 8 0 = 0 then -3 else if a = 0 then (if I 8 1 = 0 then 0 else 1) else if a = 1 then I 8 2 else if a = 2 then I 8 4 else if a = 3 then I 8 5 else if a = 4 then I 8 6 else if a = 5 then I 8 7 else if a = 6 then (if I 8 8 = 0 then 0 else 1) else I 8 3
theorem c_told {XL : Nat} {XS : Nat → Int32} {n : Nat} {C : mC} {I : Nat → Nat → Int32} {L : Nat → Nat → Int64} {K : mK} {a : Int32} (hC : m_Ge XL XS (n + 1) C) (hK : K (some (.int (toldF a I))) (m_SH, I, L)) : C 89 [.ref 0, .int a] (m_SH, I, L) K := by
  refine e_X8_told hC (Nat.le_of_ble_eq_true rfl) ?_
  intro C' hC' P hP
  repeat' (first | (refine hP _ ?_; conv => whnf) | (refine And.intro rfl ?_) | (refine And.intro (Or.inl rfl) ?_) | (refine And.intro (Or.inr rfl) ?_) | (refine And.intro (m_vin (by assumption) (by assumption) (by decide)) ?_) | (refine And.intro (by assumption) ?_) | (refine And.intro (fun _ => ?_) (fun _ => ?_)))
  all_goals (clear hP; first | (simpa [m_upr, m_uprL, toldF, *] using hK) | (clear hC hC'; simp_all [m_upr, m_uprL, toldF]; done))
def labelF (i a : Int32) (I : Nat → Nat → Int32) : Int32 := if I 8 0 = 0 then -3 else if i < 0 then -1 else if i < I 8 5 then (if i < 32 then (if a < 0 then -2 else if 1 < a then -2 else if a = 0 then I 10 i.toNatClampNeg else I 11 i.toNatClampNeg) else -1) else -1
theorem c_label {XL : Nat} {XS : Nat → Int32} {n : Nat} {C : mC} {I : Nat → Nat → Int32} {L : Nat → Nat → Int64} {K : mK} {i a : Int32} (hC : m_Ge XL XS (n + 1) C) (hK : K (some (.int (labelF i a I))) (m_SH, I, L)) : C 90 [.ref 0, .int i, .int a] (m_SH, I, L) K := by
  refine e_X8_label hC (Nat.le_of_ble_eq_true rfl) ?_
  intro C' hC' P hP
  repeat' (first | (refine hP _ ?_; conv => whnf) | (refine And.intro rfl ?_) | (refine And.intro (Or.inl rfl) ?_) | (refine And.intro (Or.inr rfl) ?_) | (refine And.intro (m_vin (by assumption) (by assumption) (by decide)) ?_) | (refine And.intro (by assumption) ?_) | (refine And.intro (fun _ => ?_) (fun _ => ?_)))
  all_goals (clear hP; first | (simpa [m_upr, m_uprL, labelF, *] using hK) | (clear hC hC'; simp_all [m_upr, m_uprL, labelF]; done))
def rbF (I : Nat → Nat → Int32) : Nat → Nat → Int32 := m_up (m_up (m_up I 27 2 0) 27 3 0) 27 4 1
theorem c_rbegin {XL : Nat} {XS : Nat → Int32} {n : Nat} {C : mC} {I : Nat → Nat → Int32} {L : Nat → Nat → Int64} {K : mK} (hC : m_Ge XL XS (n + 1) C) (hK : K none (m_SH, rbF I, L)) : C 45 [.ref 27] (m_SH, I, L) K := by
  refine e_X3_begin hC (Nat.le_of_ble_eq_true rfl) ?_
  intro C' hC' P hP
  repeat' (first | (refine hP _ ?_; conv => whnf) | (refine And.intro rfl ?_) | (refine And.intro (Or.inl rfl) ?_) | (refine And.intro (Or.inr rfl) ?_) | (refine And.intro (m_vin (by assumption) (by assumption) (by decide)) ?_) | (refine And.intro (by assumption) ?_) | (refine And.intro (fun _ => ?_) (fun _ => ?_)))
  all_goals (clear hP; first | (simpa [m_upr, m_uprL, rbF, *] using hK) | (clear hC hC'; simp_all [m_upr, m_uprL, rbF]; done))
theorem c_forget {XL : Nat} {XS : Nat → Int32} {n : Nat} {C : mC} {I : Nat → Nat → Int32} {L : Nat → Nat → Int64} {K : mK} (hC : m_Ge XL XS (n + 2) C) (hK : K none (m_SH, m_up (rbF I) 27 4 0, L)) : C 44 [.ref 27] (m_SH, I, L) K := by
  refine e_X3_forget hC (Nat.le_of_ble_eq_true rfl) ?_
  intro C' hC' P hP
  repeat' (first | (refine hP _ ?_; conv => whnf) | (refine And.intro rfl ?_) | (refine And.intro (Or.inl rfl) ?_) | (refine And.intro (Or.inr rfl) ?_) | (refine And.intro (m_vin (by assumption) (by assumption) (by decide)) ?_) | (refine And.intro (by assumption) ?_) | (refine c_rbegin hC' ?_) | (refine And.intro (fun _ => ?_) (fun _ => ?_)))
  all_goals (clear hP; first | (simpa [m_upr, m_uprL, *] using hK) | (clear hC hC'; simp_all [m_upr, m_uprL]; done))
theorem c_runNone {XL : Nat} {XS : Nat → Int32} {n : Nat} {C : mC} {I : Nat → Nat → Int32} {L : Nat → Nat → Int64} {K : mK} (hC : m_Ge XL XS (n + 2) C) (hK : K (some (.int (if I 8 0 = 0 then -3 else 4))) (m_SH, if I 8 0 = 0 then I else rbF I, L)) : C 92 [.ref 0] (m_SH, I, L) K := by
  refine e_X8_runNone hC (Nat.le_of_ble_eq_true rfl) ?_
  intro C' hC' P hP
  repeat' (first | (refine hP _ ?_; conv => whnf) | (refine And.intro rfl ?_) | (refine And.intro (Or.inl rfl) ?_) | (refine And.intro (Or.inr rfl) ?_) | (refine And.intro (m_vin (by assumption) (by assumption) (by decide)) ?_) | (refine And.intro (by assumption) ?_) | (refine c_rbegin hC' ?_) | (refine And.intro (fun _ => ?_) (fun _ => ?_)))
  all_goals (clear hP; first | (simpa [m_upr, m_uprL, *] using hK) | (clear hC hC'; simp_all [m_upr, m_uprL]; done))
theorem c_traced {XL : Nat} {XS : Nat → Int32} {n : Nat} {C : mC} {I : Nat → Nat → Int32} {L : Nat → Nat → Int64} {K : mK} (hC : m_Ge XL XS (n + 1) C) (hK : K (some (.int (if I 27 4 = 0 then -3 else I 27 2))) (m_SH, I, L)) : C 93 [.ref 0] (m_SH, I, L) K := by
  refine e_X8_traced hC (Nat.le_of_ble_eq_true rfl) ?_
  intro C' hC' P hP
  repeat' (first | (refine hP _ ?_; conv => whnf) | (refine And.intro rfl ?_) | (refine And.intro (Or.inl rfl) ?_) | (refine And.intro (Or.inr rfl) ?_) | (refine And.intro (m_vin (by assumption) (by assumption) (by decide)) ?_) | (refine And.intro (by assumption) ?_) | (refine And.intro (fun _ => ?_) (fun _ => ?_)))
  all_goals (clear hP; first | (simpa [m_upr, m_uprL, *] using hK) | (clear hC hC'; simp_all [m_upr, m_uprL]; done))
def traceF (i : Int32) (I : Nat → Nat → Int32) : Int32 := if i < 0 then 0 else if i < I 27 2 then (if i < 120 then I 28 i.toNatClampNeg else 0) else 0
theorem c_trace {XL : Nat} {XS : Nat → Int32} {n : Nat} {C : mC} {I : Nat → Nat → Int32} {L : Nat → Nat → Int64} {K : mK} {i : Int32} (hC : m_Ge XL XS (n + 1) C) (hK : K (some (.int (traceF i I))) (m_SH, I, L)) : C 94 [.ref 0, .int i] (m_SH, I, L) K := by
  refine e_X8_trace hC (Nat.le_of_ble_eq_true rfl) ?_
  intro C' hC' P hP
  repeat' (first | (refine hP _ ?_; conv => whnf) | (refine And.intro rfl ?_) | (refine And.intro (Or.inl rfl) ?_) | (refine And.intro (Or.inr rfl) ?_) | (refine And.intro (m_vin (by assumption) (by assumption) (by decide)) ?_) | (refine And.intro (by assumption) ?_) | (refine And.intro (fun _ => ?_) (fun _ => ?_)))
  all_goals (clear hP; first | (simpa [m_upr, m_uprL, traceF, *] using hK) | (clear hC hC'; simp_all [m_upr, m_uprL, traceF]; done))
theorem c_value {XL : Nat} {XS : Nat → Int32} {n : Nat} {C : mC} {I : Nat → Nat → Int32} {L : Nat → Nat → Int64} {K : mK} (hC : m_Ge XL XS (n + 1) C) (hK : K (some (.int (I 27 3))) (m_SH, I, L)) : C 95 [.ref 0] (m_SH, I, L) K := by
  refine e_X8_value hC (Nat.le_of_ble_eq_true rfl) ?_
  intro C' hC' P hP
  repeat' (first | (refine hP _ ?_; conv => whnf) | (refine And.intro rfl ?_) | (refine And.intro (Or.inl rfl) ?_) | (refine And.intro (Or.inr rfl) ?_) | (refine And.intro (m_vin (by assumption) (by assumption) (by decide)) ?_) | (refine And.intro (by assumption) ?_) | (refine And.intro (fun _ => ?_) (fun _ => ?_)))
  all_goals (clear hP; first | (simpa [m_upr, m_uprL, *] using hK) | (clear hC hC'; simp_all [m_upr, m_uprL]; done))
def hasF (i : Int32) (I : Nat → Nat → Int32) : Int32 := if i < 0 then 0 else if i < I 23 3 then (if i < 32 then 1 else 0) else 0
theorem c_has {XL : Nat} {XS : Nat → Int32} {n : Nat} {C : mC} {I : Nat → Nat → Int32} {L : Nat → Nat → Int64} {K : mK} {i : Int32} (hC : m_Ge XL XS (n + 1) C) (hK : K (some (.int (hasF i I))) (m_SH, I, L)) : C 59 [.ref 23, .int i] (m_SH, I, L) K := by
  refine e_X5_has hC (Nat.le_of_ble_eq_true rfl) ?_
  intro C' hC' P hP
  repeat' (first | (refine hP _ ?_; conv => whnf) | (refine And.intro rfl ?_) | (refine And.intro (Or.inl rfl) ?_) | (refine And.intro (Or.inr rfl) ?_) | (refine And.intro (m_vin (by assumption) (by assumption) (by decide)) ?_) | (refine And.intro (by assumption) ?_) | (refine And.intro (fun _ => ?_) (fun _ => ?_)))
  all_goals (clear hP; first | (simpa [m_upr, m_uprL, hasF, *] using hK) | (clear hC hC'; simp_all [m_upr, m_uprL, hasF]; done))
theorem hasF_in {i : Int32} {I : Nat → Nat → Int32} (h : ¬ hasF i I = 0) : vp_in i 32 := by
  unfold hasF at h
  split at h
  · exact absurd rfl h
  · split at h
    · split at h
      · exact m_vin (by assumption) (by assumption) (by decide)
      · exact absurd rfl h
    · exact absurd rfl h
theorem c_keys {XL : Nat} {XS : Nat → Int32} {n : Nat} {C : mC} {I : Nat → Nat → Int32} {L : Nat → Nat → Int64} {K : mK} (hC : m_Ge XL XS (n + 1) C) (hK : K (some (.int (if I 8 0 = 0 then -3 else I 23 3))) (m_SH, I, L)) : C 97 [.ref 0] (m_SH, I, L) K := by
  refine e_X8_keys hC (Nat.le_of_ble_eq_true rfl) ?_
  intro C' hC' P hP
  repeat' (first | (refine hP _ ?_; conv => whnf) | (refine And.intro rfl ?_) | (refine And.intro (Or.inl rfl) ?_) | (refine And.intro (Or.inr rfl) ?_) | (refine And.intro (m_vin (by assumption) (by assumption) (by decide)) ?_) | (refine And.intro (by assumption) ?_) | (refine And.intro (fun _ => ?_) (fun _ => ?_)))
  all_goals (clear hP; first | (simpa [m_upr, m_uprL, *] using hK) | (clear hC hC'; simp_all [m_upr, m_uprL]; done))
theorem c_key {XL : Nat} {XS : Nat → Int32} {n : Nat} {C : mC} {I : Nat → Nat → Int32} {L : Nat → Nat → Int64} {K : mK} {i : Int32} (hC : m_Ge XL XS (n + 2) C) (hK : K (some (.int (if hasF i I = 0 then 0 else I 24 i.toNatClampNeg))) (m_SH, I, L)) : C 98 [.ref 0, .int i] (m_SH, I, L) K := by
  refine e_X8_key hC (Nat.le_of_ble_eq_true rfl) ?_
  intro C' hC' P hP
  repeat' (first | (refine hP _ ?_; conv => whnf) | (refine c_has hC' ?_) | (refine And.intro (hasF_in (by assumption)) ?_) | (refine And.intro (fun _ => ?_) (fun _ => ?_)))
  all_goals (clear hP; simpa [*] using hK)
theorem c_target {XL : Nat} {XS : Nat → Int32} {n : Nat} {C : mC} {I : Nat → Nat → Int32} {L : Nat → Nat → Int64} {K : mK} {i : Int32} (hC : m_Ge XL XS (n + 2) C) (hK : K (some (.int (if I 8 0 = 0 then -3 else if hasF i I = 0 then -1 else I 25 i.toNatClampNeg))) (m_SH, I, L)) : C 99 [.ref 0, .int i] (m_SH, I, L) K := by
  refine e_X8_target hC (Nat.le_of_ble_eq_true rfl) ?_
  intro C' hC' P hP
  repeat' (first | (refine hP _ ?_; conv => whnf) | (refine c_has hC' ?_) | (refine And.intro (hasF_in (by assumption)) ?_) | (refine And.intro (fun _ => ?_) (fun _ => ?_)))
  all_goals (clear hP; simpa [*] using hK)
theorem c_alike {XL : Nat} {XS : Nat → Int32} {n : Nat} {C : mC} {I : Nat → Nat → Int32} {L : Nat → Nat → Int64} {K : mK} {i : Int32} (hC : m_Ge XL XS (n + 2) C) (hK : K (some (.int (if I 8 0 = 0 then -3 else if hasF i I = 0 then -1 else I 26 i.toNatClampNeg))) (m_SH, I, L)) : C 100 [.ref 0, .int i] (m_SH, I, L) K := by
  refine e_X8_alike hC (Nat.le_of_ble_eq_true rfl) ?_
  intro C' hC' P hP
  repeat' (first | (refine hP _ ?_; conv => whnf) | (refine c_has hC' ?_) | (refine And.intro (hasF_in (by assumption)) ?_) | (refine And.intro (fun _ => ?_) (fun _ => ?_)))
  all_goals (clear hP; simpa [*] using hK)
