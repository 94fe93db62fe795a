/-! ===== the reference's leaves ===== -/
def mOct (I : Nat → Nat → Int32) (i : Int32) : Int32 := if i < I 30 2 then I 32 i.toNatClampNeg &&& 255 else -1
theorem r_octet {XL : Nat} {XS : Nat → Int32} {n : Nat} {C : mC} {I : Nat → Nat → Int32} {L : Nat → Nat → Int64} {K : mK} {i : Int32} (hC : m_Ge XL XS (n + 1) C) (h0 : i < I 30 2 → vp_in i 3000) (hK : K (some (.int (mOct I i))) (m_SH, I, L)) : C 104 [.ref 30, .int i] (m_SH, I, L) K := by
  refine e_X9_octet hC (Nat.le_of_ble_eq_true rfl) ?_
  intro C' hC' P hP
  repeat' (first | (refine hP _ ?_; conv => whnf) | (refine And.intro rfl ?_) | (refine And.intro (Or.inl rfl) ?_) | (refine And.intro (Or.inr rfl) ?_) | (refine And.intro (m_vin (by assumption) (by assumption) (by decide)) ?_) | (refine And.intro (by assumption) ?_) | (refine And.intro (h0 (by assumption)) ?_) | (refine And.intro (fun _ => ?_) (fun _ => ?_)))
  all_goals (clear hP; first | (simpa [m_upr, m_uprL, mOct, *] using hK) | (clear hC hC'; simp_all [m_upr, m_uprL, mOct]; done))
theorem r_isSmall {XL : Nat} {XS : Nat → Int32} {n : Nat} {C : mC} {I : Nat → Nat → Int32} {L : Nat → Nat → Int64} {K : mK} {x : Int32} (hC : m_Ge XL XS (n + 1) C) (hK : K (some (.int (isSm x))) (m_SH, I, L)) : C 105 [.int x] (m_SH, I, L) K := by
  refine e_X9_isSmall hC (Nat.le_of_ble_eq_true rfl) ?_
  intro C' hC' P hP
  repeat' (first | (refine hP _ ?_; conv => whnf) | (refine And.intro rfl ?_) | (refine And.intro (Or.inl rfl) ?_) | (refine And.intro (Or.inr rfl) ?_) | (refine And.intro (m_vin (by assumption) (by assumption) (by decide)) ?_) | (refine And.intro (by assumption) ?_) | (refine And.intro (fun _ => ?_) (fun _ => ?_)))
  all_goals (clear hP; first | (simpa [m_upr, m_uprL, isSm, *] using hK) | (clear hC hC'; simp_all [m_upr, m_uprL, isSm]; done))
theorem r_isFigure {XL : Nat} {XS : Nat → Int32} {n : Nat} {C : mC} {I : Nat → Nat → Int32} {L : Nat → Nat → Int64} {K : mK} {x : Int32} (hC : m_Ge XL XS (n + 1) C) (hK : K (some (.int (isFg x))) (m_SH, I, L)) : C 106 [.int x] (m_SH, I, L) K := by
  refine e_X9_isFigure hC (Nat.le_of_ble_eq_true rfl) ?_
  intro C' hC' P hP
  repeat' (first | (refine hP _ ?_; conv => whnf) | (refine And.intro rfl ?_) | (refine And.intro (Or.inl rfl) ?_) | (refine And.intro (Or.inr rfl) ?_) | (refine And.intro (m_vin (by assumption) (by assumption) (by decide)) ?_) | (refine And.intro (by assumption) ?_) | (refine And.intro (fun _ => ?_) (fun _ => ?_)))
  all_goals (clear hP; first | (simpa [m_upr, m_uprL, isFg, *] using hK) | (clear hC hC'; simp_all [m_upr, m_uprL, isFg]; done))
def wrF (k p : Int32) (I : Nat → Nat → Int32) : Nat → Nat → Int32 := if I 30 8 = 0 then m_up (m_up I 30 8 k) 30 9 p else I
theorem r_wrong {XL : Nat} {XS : Nat → Int32} {n : Nat} {C : mC} {I : Nat → Nat → Int32} {L : Nat → Nat → Int64} {K : mK} {k : Int32} (hC : m_Ge XL XS (n + 1) C) (hK : K none (m_SH, wrF k (I 30 5) I, L)) : C 111 [.ref 30, .int k] (m_SH, I, L) K := by
  refine e_X9_wrong hC (Nat.le_of_ble_eq_true rfl) ?_
  intro C' hC' P hP
  repeat' (first | (refine hP _ ?_; conv => whnf) | (refine And.intro rfl ?_) | (refine And.intro (Or.inl rfl) ?_) | (refine And.intro (Or.inr rfl) ?_) | (refine And.intro (m_vin (by assumption) (by assumption) (by decide)) ?_) | (refine And.intro (by assumption) ?_) | (refine And.intro (fun _ => ?_) (fun _ => ?_)))
  all_goals (clear hP; first | (simpa [m_upr, m_uprL, wrF, *] using hK) | (clear hC hC'; simp_all [m_upr, m_uprL, wrF]; done))
theorem r_wrongAt {XL : Nat} {XS : Nat → Int32} {n : Nat} {C : mC} {I : Nat → Nat → Int32} {L : Nat → Nat → Int64} {K : mK} {k p : Int32} (hC : m_Ge XL XS (n + 1) C) (hK : K none (m_SH, wrF k p I, L)) : C 112 [.ref 30, .int k, .int p] (m_SH, I, L) K := by
  refine e_X9_wrongAt hC (Nat.le_of_ble_eq_true rfl) ?_
  intro C' hC' P hP
  repeat' (first | (refine hP _ ?_; conv => whnf) | (refine And.intro rfl ?_) | (refine And.intro (Or.inl rfl) ?_) | (refine And.intro (Or.inr rfl) ?_) | (refine And.intro (m_vin (by assumption) (by assumption) (by decide)) ?_) | (refine And.intro (by assumption) ?_) | (refine And.intro (fun _ => ?_) (fun _ => ?_)))
  all_goals (clear hP; first | (simpa [m_upr, m_uprL, wrF, *] using hK) | (clear hC hC'; simp_all [m_upr, m_uprL, wrF]; done))
def canF (I : Nat → Nat → Int32) : Nat → Nat → Int32 := wrF (if I 30 4 = 6 then 1 else 2) (I 30 5) I
theorem r_cannot {XL : Nat} {XS : Nat → Int32} {n : Nat} {C : mC} {I : Nat → Nat → Int32} {L : Nat → Nat → Int64} {K : mK} (hC : m_Ge XL XS (n + 2) C) (hK : K none (m_SH, canF I, L)) : C 113 [.ref 30] (m_SH, I, L) K := by
  refine e_X9_cannot hC (Nat.le_of_ble_eq_true rfl) ?_
  intro C' hC' P hP
  repeat' (first | (refine hP _ ?_; conv => whnf) | (refine And.intro rfl ?_) | (refine And.intro (Or.inl rfl) ?_) | (refine And.intro (Or.inr rfl) ?_) | (refine And.intro (m_vin (by assumption) (by assumption) (by decide)) ?_) | (refine And.intro (by assumption) ?_) | (refine r_wrong hC' ?_) | (refine And.intro (fun _ => ?_) (fun _ => ?_)))
  all_goals (clear hP; first | (simpa [m_upr, m_uprL, canF, *] using hK) | (clear hC hC'; simp_all [m_upr, m_uprL, canF]; done))
def isSgF (a : Int32) (I : Nat → Nat → Int32) : Int32 := if I 30 4 = 4 then (if I 30 7 = a then 1 else 0) else 0
theorem r_isSign {XL : Nat} {XS : Nat → Int32} {n : Nat} {C : mC} {I : Nat → Nat → Int32} {L : Nat → Nat → Int64} {K : mK} {a : Int32} (hC : m_Ge XL XS (n + 1) C) (hK : K (some (.int (isSgF a I))) (m_SH, I, L)) : C 114 [.ref 30, .int a] (m_SH, I, L) K := by
  refine e_X9_isSign hC (Nat.le_of_ble_eq_true rfl) ?_
  intro C' hC' P hP
  repeat' (first | (refine hP _ ?_; conv => whnf) | (refine And.intro rfl ?_) | (refine And.intro (Or.inl rfl) ?_) | (refine And.intro (Or.inr rfl) ?_) | (refine And.intro (m_vin (by assumption) (by assumption) (by decide)) ?_) | (refine And.intro (by assumption) ?_) | (refine And.intro (fun _ => ?_) (fun _ => ?_)))
  all_goals (clear hP; first | (simpa [m_upr, m_uprL, isSgF, *] using hK) | (clear hC hC'; simp_all [m_upr, m_uprL, isSgF]; done))
def isWdF (a : Int32) (I : Nat → Nat → Int32) : Int32 := if I 30 4 = 5 then (if I 30 7 = a then 1 else 0) else 0
theorem r_isWord {XL : Nat} {XS : Nat → Int32} {n : Nat} {C : mC} {I : Nat → Nat → Int32} {L : Nat → Nat → Int64} {K : mK} {a : Int32} (hC : m_Ge XL XS (n + 1) C) (hK : K (some (.int (isWdF a I))) (m_SH, I, L)) : C 115 [.ref 30, .int a] (m_SH, I, L) K := by
  refine e_X9_isWord hC (Nat.le_of_ble_eq_true rfl) ?_
  intro C' hC' P hP
  repeat' (first | (refine hP _ ?_; conv => whnf) | (refine And.intro rfl ?_) | (refine And.intro (Or.inl rfl) ?_) | (refine And.intro (Or.inr rfl) ?_) | (refine And.intro (m_vin (by assumption) (by assumption) (by decide)) ?_) | (refine And.intro (by assumption) ?_) | (refine And.intro (fun _ => ?_) (fun _ => ?_)))
  all_goals (clear hP; first | (simpa [m_upr, m_uprL, isWdF, *] using hK) | (clear hC hC'; simp_all [m_upr, m_uprL, isWdF]; done))
theorem r_dead {XL : Nat} {XS : Nat → Int32} {n : Nat} {C : mC} {I : Nat → Nat → Int32} {L : Nat → Nat → Int64} {K : mK} (hC : m_Ge XL XS (n + 1) C) (hK : K none (m_SH, m_up I 30 36 (-1), L)) : C 132 [.ref 30] (m_SH, I, L) K := by
  refine e_X9_dead hC (Nat.le_of_ble_eq_true rfl) ?_
  intro C' hC' P hP
  repeat' (first | (refine hP _ ?_; conv => whnf) | (refine And.intro rfl ?_) | (refine And.intro (Or.inl rfl) ?_) | (refine And.intro (Or.inr rfl) ?_) | (refine And.intro (m_vin (by assumption) (by assumption) (by decide)) ?_) | (refine And.intro (by assumption) ?_) | (refine And.intro (fun _ => ?_) (fun _ => ?_)))
  all_goals (clear hP; first | (simpa [m_upr, m_uprL, *] using hK) | (clear hC hC'; simp_all [m_upr, m_uprL]; done))
def isSiF (I : Nat → Nat → Int32) : Int32 := if I 30 4 = 1 then 1 else if I 30 4 = 5 then (if I 30 7 = 7 then 1 else if I 30 7 = 9 then 1 else if I 30 7 = 10 then 1 else if I 30 7 = 12 then 1 else 0) else 0
theorem r_isSimple {XL : Nat} {XS : Nat → Int32} {n : Nat} {C : mC} {I : Nat → Nat → Int32} {L : Nat → Nat → Int64} {K : mK} (hC : m_Ge XL XS (n + 1) C) (hK : K (some (.int (isSiF I))) (m_SH, I, L)) : C 137 [.ref 30] (m_SH, I, L) K := by
  refine e_X9_isSimple hC (Nat.le_of_ble_eq_true rfl) ?_
  intro C' hC' P hP
  repeat' (first | (refine hP _ ?_; conv => whnf) | (refine And.intro rfl ?_) | (refine And.intro (Or.inl rfl) ?_) | (refine And.intro (Or.inr rfl) ?_) | (refine And.intro (m_vin (by assumption) (by assumption) (by decide)) ?_) | (refine And.intro (by assumption) ?_) | (refine And.intro (fun _ => ?_) (fun _ => ?_)))
  all_goals (clear hP; first | (simpa [m_upr, m_uprL, isSiF, *] using hK) | (clear hC hC'; simp_all [m_upr, m_uprL, isSiF]; done))
def isLiF (I : Nat → Nat → Int32) : Int32 := if I 45 (I 30 44 - 1).toNatClampNeg = 0 then 1 else if I 45 (I 30 44 - 1).toNatClampNeg = 1 then 1 else 0
theorem r_isList {XL : Nat} {XS : Nat → Int32} {n : Nat} {C : mC} {I : Nat → Nat → Int32} {L : Nat → Nat → Int64} {K : mK} (hC : m_Ge XL XS (n + 1) C) (h0 : vp_in (I 30 44 - 1) 200) (hK : K (some (.int (isLiF I))) (m_SH, I, L)) : C 130 [.ref 30] (m_SH, I, L) K := by
  refine e_X9_isList hC (Nat.le_of_ble_eq_true rfl) ?_
  intro C' hC' P hP
  repeat' (first | (refine hP _ ?_; conv => whnf) | (refine And.intro rfl ?_) | (refine And.intro (Or.inl rfl) ?_) | (refine And.intro (Or.inr rfl) ?_) | (refine And.intro (m_vin (by assumption) (by assumption) (by decide)) ?_) | (refine And.intro (by assumption) ?_) | (refine And.intro (fun _ => ?_) (fun _ => ?_)))
  all_goals (clear hP; first | (simpa [m_upr, m_uprL, isLiF, *] using hK) | (clear hC hC'; simp_all [m_upr, m_uprL, isLiF]; done))
def emF (k a b : Int32) (I : Nat → Nat → Int32) : Nat → Nat → Int32 := m_up (m_up (m_up (m_up I 41 (I 30 33).toNatClampNeg k) 42 (I 30 33).toNatClampNeg a) 43 (I 30 33).toNatClampNeg b) 30 33 (I 30 33 + 1)
theorem r_emit {XL : Nat} {XS : Nat → Int32} {n : Nat} {C : mC} {I : Nat → Nat → Int32} {L : Nat → Nat → Int64} {K : mK} {k a b : Int32} (hC : m_Ge XL XS (n + 1) C) (h0 : vp_in (I 30 33) 700) (hK : K (some (.int (I 30 33 + 1 - 1))) (m_SH, emF k a b I, L)) : C 125 [.ref 30, .int k, .int a, .int b] (m_SH, I, L) K := by
  refine e_X9_emit hC (Nat.le_of_ble_eq_true rfl) ?_
  intro C' hC' P hP
  repeat' (first | (refine hP _ ?_; conv => whnf) | (refine And.intro rfl ?_) | (refine And.intro (Or.inl rfl) ?_) | (refine And.intro (Or.inr rfl) ?_) | (refine And.intro (m_vin (by assumption) (by assumption) (by decide)) ?_) | (refine And.intro (by assumption) ?_) | (refine And.intro (fun _ => ?_) (fun _ => ?_)))
  all_goals (clear hP; first | (simpa [m_upr, m_uprL, emF, *] using hK) | (clear hC hC'; simp_all [m_upr, m_uprL, emF]; done))
theorem r_emitEnd {XL : Nat} {XS : Nat → Int32} {n : Nat} {C : mC} {I : Nat → Nat → Int32} {L : Nat → Nat → Int64} {K : mK} (hC : m_Ge XL XS (n + 2) C) (h0 : vp_in (I 30 33) 700) (hK : K none (m_SH, emF 3 0 0 I, L)) : C 145 [.ref 30] (m_SH, I, L) K := by
  refine e_X9_emitEnd hC (Nat.le_of_ble_eq_true rfl) ?_
  intro C' hC' P hP
  repeat (refine hP _ ?_; conv => whnf)
  refine r_emit hC' h0 ?_
  repeat' (first | (refine hP _ ?_; conv => whnf) | (refine And.intro rfl ?_) | (refine And.intro (Or.inl rfl) ?_) | (refine And.intro (Or.inr rfl) ?_) | (refine And.intro (m_vin (by assumption) (by assumption) (by decide)) ?_) | (refine And.intro (by assumption) ?_) | (refine And.intro (fun _ => ?_) (fun _ => ?_)))
  all_goals (clear hP; first | (simpa [m_upr, m_uprL, *] using hK) | (clear hC hC'; simp_all [m_upr, m_uprL]; done))
def pushF (k : Int32) (I : Nat → Nat → Int32) : Nat → Nat → Int32 := m_up (m_up (m_up (m_up (m_up I 45 (I 30 44).toNatClampNeg k) 46 (I 30 44).toNatClampNeg 1) 47 (I 30 44).toNatClampNeg (I 30 35)) 30 44 (I 30 44 + 1)) 30 45 (I 30 45 + (if k = 1 then 1 else if k = 2 then 1 else 0))
theorem r_push {XL : Nat} {XS : Nat → Int32} {n : Nat} {C : mC} {I : Nat → Nat → Int32} {L : Nat → Nat → Int64} {K : mK} {k : Int32} (hC : m_Ge XL XS (n + 1) C) (h0 : vp_in (I 30 44) 200) (hK : K none (m_SH, pushF k I, L)) : C 127 [.ref 30, .int k] (m_SH, I, L) K := by
  refine e_X9_push hC (Nat.le_of_ble_eq_true rfl) ?_
  intro C' hC' P hP
  repeat' (first | (refine hP _ ?_; conv => whnf) | (refine And.intro rfl ?_) | (refine And.intro (Or.inl rfl) ?_) | (refine And.intro (Or.inr rfl) ?_) | (refine And.intro (m_vin (by assumption) (by assumption) (by decide)) ?_) | (refine And.intro (by assumption) ?_) | (refine And.intro (fun _ => ?_) (fun _ => ?_)))
  all_goals (clear hP; first | (simpa [m_upr, m_uprL, pushF, show vp_nar .boolean 1 = 1 from rfl, *] using hK) | (clear hC hC'; simp_all [m_upr, m_uprL, pushF, show vp_nar .boolean 1 = 1 from rfl]; done))
def popF (I : Nat → Nat → Int32) : Nat → Nat → Int32 := m_up (m_up I 30 44 (I 30 44 - 1)) 30 45 (I 30 45 - (if I 45 (I 30 44 - 1).toNatClampNeg = 1 then 1 else if I 45 (I 30 44 - 1).toNatClampNeg = 2 then 1 else if I 45 (I 30 44 - 1).toNatClampNeg = 3 then 1 else 0))
theorem r_pop {XL : Nat} {XS : Nat → Int32} {n : Nat} {C : mC} {I : Nat → Nat → Int32} {L : Nat → Nat → Int64} {K : mK} (hC : m_Ge XL XS (n + 1) C) (h0 : vp_in (I 30 44 - 1) 200) (hK : K none (m_SH, popF I, L)) : C 128 [.ref 30] (m_SH, I, L) K := by
  refine e_X9_pop hC (Nat.le_of_ble_eq_true rfl) ?_
  intro C' hC' P hP
  repeat' (first | (refine hP _ ?_; conv => whnf) | (refine And.intro rfl ?_) | (refine And.intro (Or.inl rfl) ?_) | (refine And.intro (Or.inr rfl) ?_) | (refine And.intro (m_vin (by assumption) (by assumption) (by decide)) ?_) | (refine And.intro (by assumption) ?_) | (refine And.intro (fun _ => ?_) (fun _ => ?_)))
  all_goals (clear hP; first | (simpa [m_upr, m_uprL, popF, *] using hK) | (clear hC hC'; simp_all [m_upr, m_uprL, popF]; done))
/-! the answers that are read off the reference's fields -/
theorem r_place {XL : Nat} {XS : Nat → Int32} {n : Nat} {C : mC} {I : Nat → Nat → Int32} {L : Nat → Nat → Int64} {K : mK} (hC : m_Ge XL XS (n + 1) C) (hK : K (some (.int (I 30 10))) (m_SH, I, L)) : C 146 [.ref 30] (m_SH, I, L) K := by
  refine e_X9_place hC (Nat.le_of_ble_eq_true rfl) ?_
  intro C' hC' P hP
  repeat' (first | (refine hP _ ?_; conv => whnf) | (refine And.intro rfl ?_) | (refine And.intro (Or.inl rfl) ?_) | (refine And.intro (Or.inr rfl) ?_) | (refine And.intro (m_vin (by assumption) (by assumption) (by decide)) ?_) | (refine And.intro (by assumption) ?_) | (refine And.intro (fun _ => ?_) (fun _ => ?_)))
  all_goals (clear hP; first | (simpa [m_upr, m_uprL, *] using hK) | (clear hC hC'; simp_all [m_upr, m_uprL]; done))
def mtoldF (a : Int32) (I : Nat → Nat → Int32) : Int32 := if a < 0 then -2 else if 7 < a then -2 else if I 30 11 = 0 then -3 else if a = 0 then (if I 30 16 = 0 then 0 else 1) else if a = 1 then I 30 17 else if a = 2 then I 30 19 else if a = 3 then I 30 21 else if a = 4 then I 30 26 else if a = 5 then I 30 27 else if a = 6 then (if I 30 28 = 0 then 0 else 1) else (if I 30 17 = 2 then I 34 (I 30 18).toNatClampNeg else 0)
theorem r_told {XL : Nat} {XS : Nat → Int32} {n : Nat} {C : mC} {I : Nat → Nat → Int32} {L : Nat → Nat → Int64} {K : mK} {a : Int32} (hC : m_Ge XL XS (n + 1) C) (h0 : ¬ I 30 11 = 0 → I 30 17 = 2 → vp_in (I 30 18) 4) (hK : K (some (.int (mtoldF a I))) (m_SH, I, L)) : C 147 [.ref 30, .int a] (m_SH, I, L) K := by
  refine e_X9_told hC (Nat.le_of_ble_eq_true rfl) ?_
  intro C' hC' P hP
  repeat' (first | (refine hP _ ?_; conv => whnf) | (refine And.intro rfl ?_) | (refine And.intro (Or.inl rfl) ?_) | (refine And.intro (Or.inr rfl) ?_) | (refine And.intro (m_vin (by assumption) (by assumption) (by decide)) ?_) | (refine And.intro (by assumption) ?_) | (refine And.intro (h0 (by assumption) (by assumption)) ?_) | (refine And.intro (fun _ => ?_) (fun _ => ?_)))
  all_goals (clear hP; first | (simpa [m_upr, m_uprL, mtoldF, *] using hK) | (clear hC hC'; simp_all [m_upr, m_uprL, mtoldF]; done))
def mlabelF (i a : Int32) (I : Nat → Nat → Int32) : Int32 := if I 30 11 = 0 then -3 else if i < 0 then -1 else if i < I 30 21 then (if a = 0 then I 37 i.toNatClampNeg else if a = 1 then I 38 i.toNatClampNeg else -2) else -1
theorem r_label {XL : Nat} {XS : Nat → Int32} {n : Nat} {C : mC} {I : Nat → Nat → Int32} {L : Nat → Nat → Int64} {K : mK} {i a : Int32} (hC : m_Ge XL XS (n + 1) C) (h0 : ¬ i < 0 → i < I 30 21 → vp_in i 32) (hK : K (some (.int (mlabelF i a I))) (m_SH, I, L)) : C 148 [.ref 30, .int i, .int a] (m_SH, I, L) K := by
  refine e_X9_label hC (Nat.le_of_ble_eq_true rfl) ?_
  intro C' hC' P hP
  repeat' (first | (refine hP _ ?_; conv => whnf) | (refine And.intro rfl ?_) | (refine And.intro (Or.inl rfl) ?_) | (refine And.intro (Or.inr rfl) ?_) | (refine And.intro (m_vin (by assumption) (by assumption) (by decide)) ?_) | (refine And.intro (by assumption) ?_) | (refine And.intro (h0 (by assumption) (by assumption)) ?_) | (refine And.intro (fun _ => ?_) (fun _ => ?_)))
  all_goals (clear hP; first | (simpa [m_upr, m_uprL, mlabelF, *] using hK) | (clear hC hC'; simp_all [m_upr, m_uprL, mlabelF]; done))
def mrbF (I : Nat → Nat → Int32) : Nat → Nat → Int32 := m_up (m_up (m_up I 30 47 1) 30 49 0) 30 48 0
theorem r_runNone {XL : Nat} {XS : Nat → Int32} {n : Nat} {C : mC} {I : Nat → Nat → Int32} {L : Nat → Nat → Int64} {K : mK} (hC : m_Ge XL XS (n + 1) C) (hK : K (some (.int (if I 30 11 = 0 then -3 else 4))) (m_SH, if I 30 11 = 0 then I else mrbF I, L)) : C 152 [.ref 30] (m_SH, I, L) K := by
  refine e_X9_runNone hC (Nat.le_of_ble_eq_true rfl) ?_
  intro C' hC' P hP
  repeat' (first | (refine hP _ ?_; conv => whnf) | (refine And.intro rfl ?_) | (refine And.intro (Or.inl rfl) ?_) | (refine And.intro (Or.inr rfl) ?_) | (refine And.intro (m_vin (by assumption) (by assumption) (by decide)) ?_) | (refine And.intro (by assumption) ?_) | (refine And.intro (fun _ => ?_) (fun _ => ?_)))
  all_goals (clear hP; first | (simpa [m_upr, m_uprL, mrbF, *] using hK) | (clear hC hC'; simp_all [m_upr, m_uprL, mrbF]; done))
theorem r_traced {XL : Nat} {XS : Nat → Int32} {n : Nat} {C : mC} {I : Nat → Nat → Int32} {L : Nat → Nat → Int64} {K : mK} (hC : m_Ge XL XS (n + 1) C) (hK : K (some (.int (if I 30 47 = 0 then -3 else I 30 49))) (m_SH, I, L)) : C 153 [.ref 30] (m_SH, I, L) K := by
  refine e_X9_traced hC (Nat.le_of_ble_eq_true rfl) ?_
  intro C' hC' P hP
  repeat' (first | (refine hP _ ?_; conv => whnf) | (refine And.intro rfl ?_) | (refine And.intro (Or.inl rfl) ?_) | (refine And.intro (Or.inr rfl) ?_) | (refine And.intro (m_vin (by assumption) (by assumption) (by decide)) ?_) | (refine And.intro (by assumption) ?_) | (refine And.intro (fun _ => ?_) (fun _ => ?_)))
  all_goals (clear hP; first | (simpa [m_upr, m_uprL, *] using hK) | (clear hC hC'; simp_all [m_upr, m_uprL]; done))
def mtraceF (i : Int32) (I : Nat → Nat → Int32) : Int32 := if I 30 47 = 0 then 0 else if i < 0 then 0 else if i < I 30 49 then I 52 i.toNatClampNeg else 0
theorem r_trace {XL : Nat} {XS : Nat → Int32} {n : Nat} {C : mC} {I : Nat → Nat → Int32} {L : Nat → Nat → Int64} {K : mK} {i : Int32} (hC : m_Ge XL XS (n + 1) C) (h0 : ¬ i < 0 → i < I 30 49 → vp_in i 700) (hK : K (some (.int (mtraceF i I))) (m_SH, I, L)) : C 154 [.ref 30, .int i] (m_SH, I, L) K := by
  refine e_X9_trace hC (Nat.le_of_ble_eq_true rfl) ?_
  intro C' hC' P hP
  repeat' (first | (refine hP _ ?_; conv => whnf) | (refine And.intro rfl ?_) | (refine And.intro (Or.inl rfl) ?_) | (refine And.intro (Or.inr rfl) ?_) | (refine And.intro (m_vin (by assumption) (by assumption) (by decide)) ?_) | (refine And.intro (by assumption) ?_) | (refine And.intro (h0 (by assumption) (by assumption)) ?_) | (refine And.intro (fun _ => ?_) (fun _ => ?_)))
  all_goals (clear hP; first | (simpa [m_upr, m_uprL, mtraceF, *] using hK) | (clear hC hC'; simp_all [m_upr, m_uprL, mtraceF]; done))
theorem r_value {XL : Nat} {XS : Nat → Int32} {n : Nat} {C : mC} {I : Nat → Nat → Int32} {L : Nat → Nat → Int64} {K : mK} (hC : m_Ge XL XS (n + 1) C) (hK : K (some (.int (I 30 48))) (m_SH, I, L)) : C 155 [.ref 30] (m_SH, I, L) K := by
  refine e_X9_value hC (Nat.le_of_ble_eq_true rfl) ?_
  intro C' hC' P hP
  repeat' (first | (refine hP _ ?_; conv => whnf) | (refine And.intro rfl ?_) | (refine And.intro (Or.inl rfl) ?_) | (refine And.intro (Or.inr rfl) ?_) | (refine And.intro (m_vin (by assumption) (by assumption) (by decide)) ?_) | (refine And.intro (by assumption) ?_) | (refine And.intro (fun _ => ?_) (fun _ => ?_)))
  all_goals (clear hP; first | (simpa [m_upr, m_uprL, *] using hK) | (clear hC hC'; simp_all [m_upr, m_uprL]; done))
theorem r_keys {XL : Nat} {XS : Nat → Int32} {n : Nat} {C : mC} {I : Nat → Nat → Int32} {L : Nat → Nat → Int64} {K : mK} (hC : m_Ge XL XS (n + 1) C) (hK : K (some (.int (if I 30 11 = 0 then -3 else I 30 52))) (m_SH, I, L)) : C 158 [.ref 30] (m_SH, I, L) K := by
  refine e_X9_keys hC (Nat.le_of_ble_eq_true rfl) ?_
  intro C' hC' P hP
  repeat' (first | (refine hP _ ?_; conv => whnf) | (refine And.intro rfl ?_) | (refine And.intro (Or.inl rfl) ?_) | (refine And.intro (Or.inr rfl) ?_) | (refine And.intro (m_vin (by assumption) (by assumption) (by decide)) ?_) | (refine And.intro (by assumption) ?_) | (refine And.intro (fun _ => ?_) (fun _ => ?_)))
  all_goals (clear hP; first | (simpa [m_upr, m_uprL, *] using hK) | (clear hC hC'; simp_all [m_upr, m_uprL]; done))
theorem r_key {XL : Nat} {XS : Nat → Int32} {n : Nat} {C : mC} {I : Nat → Nat → Int32} {L : Nat → Nat → Int64} {K : mK} {i : Int32} (hC : m_Ge XL XS (n + 1) C) (h0 : ¬ i < 0 → i < I 30 52 → vp_in i 32) (hK : K (some (.int (if I 30 11 = 0 then 0 else if i < 0 then 0 else if i < I 30 52 then I 54 i.toNatClampNeg else 0))) (m_SH, I, L)) : C 159 [.ref 30, .int i] (m_SH, I, L) K := by
  refine e_X9_key hC (Nat.le_of_ble_eq_true rfl) ?_
  intro C' hC' P hP
  repeat' (first | (refine hP _ ?_; conv => whnf) | (refine And.intro rfl ?_) | (refine And.intro (Or.inl rfl) ?_) | (refine And.intro (Or.inr rfl) ?_) | (refine And.intro (m_vin (by assumption) (by assumption) (by decide)) ?_) | (refine And.intro (by assumption) ?_) | (refine And.intro (h0 (by assumption) (by assumption)) ?_) | (refine And.intro (fun _ => ?_) (fun _ => ?_)))
  all_goals (clear hP; first | (simpa [m_upr, m_uprL, *] using hK) | (clear hC hC'; simp_all [m_upr, m_uprL]; done))
theorem r_target {XL : Nat} {XS : Nat → Int32} {n : Nat} {C : mC} {I : Nat → Nat → Int32} {L : Nat → Nat → Int64} {K : mK} {i : Int32} (hC : m_Ge XL XS (n + 1) C) (h0 : ¬ i < 0 → i < I 30 52 → vp_in i 32) (hK : K (some (.int (if I 30 11 = 0 then -3 else if i < 0 then -1 else if i < I 30 52 then I 55 i.toNatClampNeg else -1))) (m_SH, I, L)) : C 160 [.ref 30, .int i] (m_SH, I, L) K := by
  refine e_X9_target hC (Nat.le_of_ble_eq_true rfl) ?_
  intro C' hC' P hP
  repeat' (first | (refine hP _ ?_; conv => whnf) | (refine And.intro rfl ?_) | (refine And.intro (Or.inl rfl) ?_) | (refine And.intro (Or.inr rfl) ?_) | (refine And.intro (m_vin (by assumption) (by assumption) (by decide)) ?_) | (refine And.intro (by assumption) ?_) | (refine And.intro (h0 (by assumption) (by assumption)) ?_) | (refine And.intro (fun _ => ?_) (fun _ => ?_)))
  all_goals (clear hP; first | (simpa [m_upr, m_uprL, *] using hK) | (clear hC hC'; simp_all [m_upr, m_uprL]; done))
theorem r_alike {XL : Nat} {XS : Nat → Int32} {n : Nat} {C : mC} {I : Nat → Nat → Int32} {L : Nat → Nat → Int64} {K : mK} {i : Int32} (hC : m_Ge XL XS (n + 1) C) (h0 : ¬ i < 0 → i < I 30 52 → vp_in i 32) (hK : K (some (.int (if I 30 11 = 0 then -3 else if i < 0 then -1 else if i < I 30 52 then I 56 i.toNatClampNeg else -1))) (m_SH, I, L)) : C 161 [.ref 30, .int i] (m_SH, I, L) K := by
  refine e_X9_alike hC (Nat.le_of_ble_eq_true rfl) ?_
  intro C' hC' P hP
  repeat' (first | (refine hP _ ?_; conv => whnf) | (refine And.intro rfl ?_) | (refine And.intro (Or.inl rfl) ?_) | (refine And.intro (Or.inr rfl) ?_) | (refine And.intro (m_vin (by assumption) (by assumption) (by decide)) ?_) | (refine And.intro (by assumption) ?_) | (refine And.intro (h0 (by assumption) (by assumption)) ?_) | (refine And.intro (fun _ => ?_) (fun _ => ?_)))
  all_goals (clear hP; first | (simpa [m_upr, m_uprL, *] using hK) | (clear hC hC'; simp_all [m_upr, m_uprL]; done))
