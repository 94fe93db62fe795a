/-! ===== THE TEXT: octets, what is packed of them, their hash ===== -/
def toc (tx : List Nat) (j : Nat) : Int32 := if j < tx.length then nI (tx.getD j 0) else -1
def TxOk (tx : List Nat) : Prop := tx.length ≤ 3000 ∧ ∀ c ∈ tx, c < 256
def TxC (tx : List Nat) (I : Nat → Nat → Int32) : Prop := I 1 1 = nI tx.length ∧ ∀ j, j < tx.length → I 2 j = nI (tx.getD j 0)
def TxM (tx : List Nat) (I : Nat → Nat → Int32) : Prop := I 30 2 = nI tx.length ∧ ∀ j, j < tx.length → I 32 j &&& 255 = nI (tx.getD j 0)
theorem oAt_toc {tx : List Nat} {I : Nat → Nat → Int32} (ht : TxOk tx) (h : TxC tx I) {j : Nat} (hj : j < 2 ^ 31) : oAt I (nI j) = toc tx j := by
  unfold oAt toc
  rw [if_neg (nI_pos hj), h.1]
  have hl := ht.1
  by_cases hlt : j < tx.length
  · rw [if_pos (nI_lt hlt (by omega)), if_pos (show nI j < 3000 from nI_lt (a := j) (b := 3000) (by omega) (by omega)), if_pos hlt, nI_clamp hj, h.2 j hlt]
  · rw [if_neg (nI_nlt (by omega) hj), if_neg hlt]
theorem mOct_toc {tx : List Nat} {I : Nat → Nat → Int32} (ht : TxOk tx) (h : TxM tx I) {j : Nat} (hj : j < 2 ^ 31) : mOct I (nI j) = toc tx j := by
  unfold mOct toc
  rw [h.1]
  have hl := ht.1
  by_cases hlt : j < tx.length
  · rw [if_pos (nI_lt hlt (by omega)), if_pos hlt, nI_clamp hj, h.2 j hlt]
  · rw [if_neg (nI_nlt (by omega) hj), if_neg hlt]
theorem c_at' {XL : Nat} {XS : Nat → Int32} {n : Nat} {C : mC} {I : Nat → Nat → Int32} {L : Nat → Nat → Int64} {K : mK} {tx : List Nat} {j : Nat} (hC : m_Ge XL XS (n + 1) C) (ht : TxOk tx) (h : TxC tx I) (hj : j < 2 ^ 31) (hK : K (some (.int (toc tx j))) (m_SH, I, L)) : C 38 [.ref 1, .int (nI j)] (m_SH, I, L) K := by
  refine c_at hC ?_
  rw [oAt_toc ht h hj]
  exact hK
theorem r_octet' {XL : Nat} {XS : Nat → Int32} {n : Nat} {C : mC} {I : Nat → Nat → Int32} {L : Nat → Nat → Int64} {K : mK} {tx : List Nat} {j : Nat} (hC : m_Ge XL XS (n + 1) C) (ht : TxOk tx) (h : TxM tx I) (hj : j < 2 ^ 31) (hK : K (some (.int (toc tx j))) (m_SH, I, L)) : C 104 [.ref 30, .int (nI j)] (m_SH, I, L) K := by
  have hl := ht.1
  refine r_octet hC (fun hlt => ?_) ?_
  · rw [h.1] at hlt
    have := (nI_ltI hj (by omega)).mp hlt
    exact vp_in_nI (by omega) (by omega)
  · rw [mOct_toc ht h hj]
    exact hK
def hshF (tx : List Nat) : Nat → Nat → Int32 → Int32
  | 0, _, h => h
  | m + 1, i, h => hshF tx m (i + 1) (31 * h + toc tx i)
theorem c_wholeHash {XL : Nat} {XS : Nat → Int32} {n : Nat} {C : mC} {I : Nat → Nat → Int32} {L : Nat → Nat → Int64} {K : mK} {tx : List Nat} (hC : m_Ge XL XS (n + 2) C) (ht : TxOk tx) (h : TxC tx I) (hK : K (some (.int (hshF tx tx.length 0 0))) (m_SH, I, L)) : C 42 [.ref 1] (m_SH, I, L) K := by
  have hl := ht.1
  refine e_X2_wholeHash hC (Nat.le_of_ble_eq_true rfl) ?_
  intro C' hC' P hP
  have loop : ∀ (m i : Nat) (x : Int32), i + m = tx.length → K (some (.int (hshF tx m i x))) (m_SH, I, L) → P (4, [some (.ref 1), some (.int x), some (.int (nI i))], [], (m_SH, I, L), 0, 0) := by
    intro m
    induction m with
    | zero =>
      intro i x hi hk
      repeat (refine hP _ ?_; conv => whnf)
      rw [h.1]
      refine ⟨fun h1 => ?_, fun h1 => ?_⟩
      · exact absurd h1 (nI_nlt (by omega) (by omega))
      · repeat (refine hP _ ?_; conv => whnf)
        exact hk
    | succ m ih =>
      intro i x hi hk
      repeat (refine hP _ ?_; conv => whnf)
      rw [h.1]
      refine ⟨fun h1 => ?_, fun h1 => ?_⟩
      · repeat (refine hP _ ?_; conv => whnf)
        refine c_at' hC' ht h (by omega) ?_
        iterate 4 (refine hP _ ?_; conv => whnf)
        have e := ih (i + 1) _ (by omega) hk
        rw [← nI_1] at e
        exact e
      · exact absurd (nI_lt (by omega) (by omega)) h1
  iterate 4 (refine hP _ ?_; conv => whnf)
  exact loop tx.length 0 0 (by omega) hK
theorem r_hash {XL : Nat} {XS : Nat → Int32} {n : Nat} {C : mC} {I : Nat → Nat → Int32} {L : Nat → Nat → Int64} {K : mK} {tx : List Nat} (hC : m_Ge XL XS (n + 2) C) (ht : TxOk tx) (h : TxM tx I) (hK : K (some (.int (hshF tx tx.length 0 0))) (m_SH, I, L)) : C 162 [.ref 30] (m_SH, I, L) K := by
  have hl := ht.1
  refine e_X9_hash hC (Nat.le_of_ble_eq_true rfl) ?_
  intro C' hC' P hP
  have loop : ∀ (m i : Nat) (x : Int32), i + m = tx.length → K (some (.int (hshF tx m i x))) (m_SH, I, L) → P (4, [some (.ref 30), some (.int x), some (.int (nI i))], [], (m_SH, I, L), 0, 0) := by
    intro m
    induction m with
    | zero =>
      intro i x hi hk
      repeat (refine hP _ ?_; conv => whnf)
      rw [h.1]
      refine ⟨fun h1 => ?_, fun h1 => ?_⟩
      · exact absurd h1 (nI_nlt (by omega) (by omega))
      · repeat (refine hP _ ?_; conv => whnf)
        exact hk
    | succ m ih =>
      intro i x hi hk
      repeat (refine hP _ ?_; conv => whnf)
      rw [h.1]
      refine ⟨fun h1 => ?_, fun h1 => ?_⟩
      · repeat (refine hP _ ?_; conv => whnf)
        refine r_octet' hC' ht h (by omega) ?_
        iterate 4 (refine hP _ ?_; conv => whnf)
        have e := ih (i + 1) _ (by omega) hk
        rw [← nI_1] at e
        exact e
      · exact absurd (nI_lt (by omega) (by omega)) h1
  iterate 4 (refine hP _ ?_; conv => whnf)
  exact loop tx.length 0 0 (by omega) hK
theorem c_hash {XL : Nat} {XS : Nat → Int32} {n : Nat} {C : mC} {I : Nat → Nat → Int32} {L : Nat → Nat → Int64} {K : mK} {tx : List Nat} (hC : m_Ge XL XS (n + 3) C) (ht : TxOk tx) (h : TxC tx I) (hK : K (some (.int (hshF tx tx.length 0 0))) (m_SH, I, L)) : C 101 [.ref 0] (m_SH, I, L) K := by
  refine e_X8_hash hC (Nat.le_of_ble_eq_true rfl) ?_
  intro C' hC' P hP
  repeat (refine hP _ ?_; conv => whnf)
  refine c_wholeHash hC' ht h ?_
  repeat (refine hP _ ?_; conv => whnf)
  exact hK
def pkF (tx : List Nat) : Nat → Nat → Int64 → Int64
  | 0, _, a => a
  | m + 1, i, a => pkF tx m (i + 1) ((a <<< ((8 : Int32).toInt64 &&& 63)) ||| (toc tx i).toInt64)
theorem c_packed {XL : Nat} {XS : Nat → Int32} {n : Nat} {C : mC} {I : Nat → Nat → Int32} {L : Nat → Nat → Int64} {K : mK} {tx : List Nat} {i0 e0 : Nat} (hC : m_Ge XL XS (n + 2) C) (ht : TxOk tx) (h : TxC tx I) (h1 : i0 ≤ e0) (h2 : e0 < 2 ^ 31) (hK : K (some (.long (pkF tx (e0 - i0) i0 0))) (m_SH, I, L)) : C 40 [.ref 1, .int (nI i0), .int (nI e0)] (m_SH, I, L) K := by
  refine e_X2_packed hC (Nat.le_of_ble_eq_true rfl) ?_
  intro C' hC' P hP
  have loop : ∀ (m i : Nat) (x : Int64), i + m = e0 → K (some (.long (pkF tx m i x))) (m_SH, I, L) → P (5, [some (.ref 1), some (.int (nI i0)), some (.int (nI e0)), some (.long x), none, some (.int (nI i))], [], (m_SH, I, L), 0, 0) := by
    intro m
    induction m with
    | zero =>
      intro i x hi hk
      repeat (refine hP _ ?_; conv => whnf)
      refine ⟨fun h1 => ?_, fun h1 => ?_⟩
      · exact absurd h1 (nI_nlt (by omega) (by omega))
      · repeat (refine hP _ ?_; conv => whnf)
        exact hk
    | succ m ih =>
      intro i x hi hk
      repeat (refine hP _ ?_; conv => whnf)
      refine ⟨fun h1 => ?_, fun h1 => ?_⟩
      · repeat (refine hP _ ?_; conv => whnf)
        refine c_at' hC' ht h (by omega) ?_
        iterate 5 (refine hP _ ?_; conv => whnf)
        have e := ih (i + 1) _ (by omega) hk
        rw [← nI_1] at e
        exact e
      · exact absurd (nI_lt (by omega) (by omega)) h1
  iterate 4 (refine hP _ ?_; conv => whnf)
  exact loop (e0 - i0) i0 0 (by omega) hK
