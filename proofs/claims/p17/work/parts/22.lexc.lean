/-! ===== tokens: what they are ===== -/
def qB (x : Int32) : Bool := x == 32 || x == 9 || x == 10 || x == 13
def qN (x : Int32) : Bool := isSm x == 1 || isFg x == 1
def qF (x : Int32) : Bool := isFg x == 1
def qT (x : Int32) : Bool := isTs x == 1
def scanF (q : Int32 → Bool) (tx : List Nat) : Nat → Nat → Nat
  | 0, i => i
  | m + 1, i => if q (toc tx i) = true then scanF q tx m (i + 1) else i
def scan (q : Int32 → Bool) (tx : List Nat) (i : Nat) : Nat := scanF q tx (tx.length - i) i
theorem scan_lt {q : Int32 → Bool} {tx : List Nat} {i : Nat} (h : i < tx.length) : scan q tx i = if q (toc tx i) = true then scan q tx (i + 1) else i := by
  unfold scan
  rw [show tx.length - i = (tx.length - (i + 1)) + 1 by omega]
  rfl
theorem scan_ge {q : Int32 → Bool} {tx : List Nat} {i : Nat} (h : tx.length ≤ i) : scan q tx i = i := by
  unfold scan
  rw [show tx.length - i = 0 by omega]
  rfl
theorem scan_bd (q : Int32 → Bool) (tx : List Nat) : ∀ (m i : Nat), i + m = tx.length → i ≤ scan q tx i ∧ scan q tx i ≤ tx.length
  | 0, i, h => by rw [scan_ge (by omega)]; omega
  | m + 1, i, h => by
    rw [scan_lt (by omega)]
    have := scan_bd q tx m (i + 1) (by omega)
    split <;> omega
theorem scan_le {q : Int32 → Bool} {tx : List Nat} {i : Nat} (h : i ≤ tx.length) : i ≤ scan q tx i ∧ scan q tx i ≤ tx.length := scan_bd q tx (tx.length - i) i (by omega)
theorem toc_ge {tx : List Nat} {i : Nat} (h : tx.length ≤ i) : toc tx i = -1 := by unfold toc; rw [if_neg (by omega)]
theorem isSm_01 (x : Int32) : isSm x = 0 ∨ isSm x = 1 := by
  unfold isSm
  split
  · exact Or.inl rfl
  · split
    · exact Or.inl rfl
    · exact Or.inr rfl
theorem isFg_01 (x : Int32) : isFg x = 0 ∨ isFg x = 1 := by
  unfold isFg
  split
  · exact Or.inl rfl
  · split
    · exact Or.inl rfl
    · exact Or.inr rfl
theorem isTs_01 (x : Int32) : isTs x = 0 ∨ isTs x = 1 := by
  unfold isTs
  split
  · split
    · split
      · exact Or.inl rfl
      · split
        · exact Or.inl rfl
        · exact Or.inr rfl
    · exact Or.inr rfl
  · exact Or.inr rfl
theorem c_behindBlanks {XL : Nat} {XS : Nat → Int32} {n : Nat} {C : mC} {I : Nat → Nat → Int32} {L : Nat → Nat → Int64} {K : mK} {tx : List Nat} {i0 : Nat} (hC : m_Ge XL XS (n + 2) C) (ht : TxOk tx) (h : TxC tx I) (hi0 : i0 ≤ tx.length) (hK : K (some (.int (nI (scan qB tx i0)))) (m_SH, I, L)) : C 64 [.ref 1, .int (nI i0)] (m_SH, I, L) K := by
  have hl := ht.1
  refine e_X6_behindBlanks hC (Nat.le_of_ble_eq_true rfl) ?_
  intro C' hC' P hP
  have loop : ∀ (m i : Nat) (d3 : Option Value), i + m = tx.length → K (some (.int (nI (scan qB tx i)))) (m_SH, I, L) → P (2, [some (.ref 1), some (.int (nI i0)), some (.int (nI i)), d3], [], (m_SH, I, L), 0, 0) := by
    intro m
    induction m with
    | zero =>
      intro i d3 hi hk
      repeat (refine hP _ ?_; conv => whnf)
      rw [h.1]
      refine ⟨fun h1 => absurd h1 (nI_nlt (by omega) (by omega)), fun _ => ?_⟩
      repeat (refine hP _ ?_; conv => whnf)
      rw [scan_ge (by omega), show i = tx.length by omega, ← h.1] at hk
      exact hk
    | succ m ih =>
      intro i d3 hi hk
      repeat (refine hP _ ?_; conv => whnf)
      rw [h.1]
      refine ⟨fun _ => ?_, fun h1 => absurd (nI_lt (by omega) (by omega)) h1⟩
      repeat (refine hP _ ?_; conv => whnf)
      refine c_at' hC' ht h (by omega) ?_
      rw [scan_lt (by omega)] at hk
      repeat (refine hP _ ?_; conv => whnf)
      have go : qB (toc tx i) = true → P (42, [some (.ref 1), some (.int (nI i0)), some (.int (nI i)), some (.int (toc tx i))], [], (m_SH, I, L), 0, 0) := by
        intro hq
        rw [if_pos hq] at hk
        iterate 2 (refine hP _ ?_; conv => whnf)
        have e := ih (i + 1) (some (.int (toc tx i))) (by omega) hk
        rw [← nI_1] at e
        exact e
      refine ⟨fun q => go (by simp [qB, q]), fun q1 => ?_⟩
      repeat (refine hP _ ?_; conv => whnf)
      refine ⟨fun q => go (by simp [qB, q]), fun q2 => ?_⟩
      repeat (refine hP _ ?_; conv => whnf)
      refine ⟨fun q => go (by simp [qB, q]), fun q3 => ?_⟩
      repeat (refine hP _ ?_; conv => whnf)
      refine ⟨fun q => go (by simp [qB, q]), fun q4 => ?_⟩
      repeat (refine hP _ ?_; conv => whnf)
      rw [if_neg (by simp [qB, q1, q2, q3, q4])] at hk
      exact hk
  iterate 2 (refine hP _ ?_; conv => whnf)
  exact loop (tx.length - i0) i0 none (by omega) hK
theorem nar_b : ∀ k, k < 128 → vp_nar .byte (nI k).toInt8.toInt32 = nI k := by decide +kernel
theorem nar_s (k : Nat) (hk : k < 3001) : vp_nar .short (nI k).toInt16.toInt32 = nI k := by
  have h : ∀ a b : Fin 55, vp_nar .short (nI (a.val * 55 + b.val)).toInt16.toInt32 = nI (a.val * 55 + b.val) := by decide +kernel
  have := h ⟨k / 55, by omega⟩ ⟨k % 55, by omega⟩
  simp only at this
  rw [show k / 55 * 55 + k % 55 = k by omega] at this
  exact this
def keepI (k p c : Nat) (I : Nat → Nat → Int32) : Nat → Nat → Int32 := m_up (m_up (m_up I 4 c (nI k)) 5 c (nI p)) 3 4 (nI (c + 1))
theorem c_keep {XL : Nat} {XS : Nat → Int32} {n : Nat} {C : mC} {I : Nat → Nat → Int32} {L : Nat → Nat → Int64} {K : mK} {k p c : Nat} {v : Int64} (hC : m_Ge XL XS (n + 1) C) (hk : k < 128) (hp : p < 3001) (hc : I 3 4 = nI c) (hc2 : c < 3001) (hK : K none (m_SH, keepI k p c I, m_upL L 6 c v)) : C 74 [.ref 3, .int (nI k), .int (nI p), .long v] (m_SH, I, L) K := by
  refine e_X6_keep hC (Nat.le_of_ble_eq_true rfl) ?_
  intro C' hC' P hP
  repeat (refine hP _ ?_; conv => whnf)
  rw [hc]
  refine ⟨fun _ => ?_, fun q => absurd (show nI c < 3001 from nI_lt (a := c) (b := 3001) (by omega) (by omega)) q⟩
  repeat (refine hP _ ?_; conv => whnf)
  rw [hc, nar_b k hk]
  refine ⟨vp_in_nI (by omega) (by omega), ?_⟩
  rw [nI_clamp (by omega)]
  repeat (refine hP _ ?_; conv => whnf)
  have e1 : ∀ x, m_up I 4 c x 3 4 = nI c := fun x => by rw [m_upr, if_neg (by decide), hc]
  rw [e1, nar_s p hp]
  refine ⟨vp_in_nI (by omega) (by omega), ?_⟩
  rw [nI_clamp (by omega)]
  repeat (refine hP _ ?_; conv => whnf)
  have e2 : ∀ x y, m_up (m_up I 4 c x) 5 c y 3 4 = nI c := fun x y => by rw [m_upr, if_neg (by decide), e1]
  rw [e2]
  refine ⟨vp_in_nI (by omega) (by omega), ?_⟩
  rw [nI_clamp (by omega)]
  repeat (refine hP _ ?_; conv => whnf)
  unfold keepI at hK
  rw [← nI_1, ← e2 (nI k) (nI p)] at hK
  exact hK
