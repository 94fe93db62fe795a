theorem c_appendNo {XL : Nat} {XS : Nat → Int32} {n : Nat} {C : mC} {I : Nat → Nat → Int32} {L : Nat → Nat → Int64} {K : mK} {tx : List Nat} {v : Int64} {k : Nat} (hC : m_Ge XL XS (n + 1) C) (h : TxC tx I) (hk8 : k ≤ 8) (ht : tx.length ≤ 3000) (hl : 3000 < tx.length + k) (hK : K (some (.int 0)) (m_SH, I, L)) : C 39 [.ref 1, .long v, .int (nI k)] (m_SH, I, L) K := by
  refine e_X2_append hC (Nat.le_of_ble_eq_true rfl) ?_
  intro C' hC' P hP
  repeat (refine hP _ ?_; conv => whnf)
  rw [h.1]
  have hle : Int32.ofNat 3000 - nI tx.length = nI (3000 - tx.length) := pk_sub (a := 3000) (b := tx.length) (by omega)
  rw [hle]
  refine ⟨fun _ => ?_, fun h1 => ?_⟩
  · repeat (refine hP _ ?_; conv => whnf)
    exact ⟨rfl, hK⟩
  · exact absurd (nI_lt (by omega) (by omega)) h1
theorem n_1to8 {z : Int32} (h0 : ¬ z < 0) (h8 : ¬ 8 < z) (hz : ¬ z = 0) : ∃ k : Nat, 1 ≤ k ∧ k ≤ 8 ∧ z = nI k := by
  obtain ⟨k, hk, rfl⟩ := nI_of h0
  refine ⟨k, ?_, ?_, rfl⟩
  · by_cases hk0 : k = 0
    · subst hk0; exact absurd rfl hz
    · omega
  · by_cases hk8 : k ≤ 8
    · exact hk8
    · exact absurd (show (8 : Int32) < nI k from nI_lt (a := 8) (by omega) hk) h8
theorem c_type {XL : Nat} {XS : Nat → Int32} {n : Nat} {C : mC} {I : Nat → Nat → Int32} {L : Nat → Nat → Int64} {K : mK} {tx : List Nat} {v : Int64} {z : Int32} (hC : m_Ge XL XS (n + 2) C) (ht : TxOk tx) (h : TxC tx I)
    (h1 : (z < 0 ∨ 8 < z) → K (some (.int (-2))) (m_SH, I, L)) (h2 : z = 0 → K (some (.int 0)) (m_SH, m_up I 1 1 0, L))
    (h3 : ∀ k, 1 ≤ k → k ≤ 8 → z = nI k → 3000 < tx.length + k → K (some (.int (-4))) (m_SH, I, L))
    (h4 : ∀ k, 1 ≤ k → k ≤ 8 → z = nI k → tx.length + k ≤ 3000 → ∀ I', TxC (tx ++ octs v k) I' → Fr S_tx I I' → K (some (.int (nI (tx.length + k)))) (m_SH, I', L)) : C 86 [.ref 0, .long v, .int z] (m_SH, I, L) K := by
  refine e_X8_type hC (Nat.le_of_ble_eq_true rfl) ?_
  intro C' hC' P hP
  repeat (refine hP _ ?_; conv => whnf)
  refine ⟨fun q => ?_, fun q0 => ?_⟩
  · repeat (refine hP _ ?_; conv => whnf)
    exact h1 (Or.inl q)
  · repeat (refine hP _ ?_; conv => whnf)
    refine ⟨fun q => ?_, fun q8 => ?_⟩
    · repeat (refine hP _ ?_; conv => whnf)
      exact h1 (Or.inr q)
    · repeat (refine hP _ ?_; conv => whnf)
      refine ⟨fun q => ?_, fun qz => ?_⟩
      · repeat (refine hP _ ?_; conv => whnf)
        exact h2 q
      · obtain ⟨k, hk1, hk8, rfl⟩ := n_1to8 q0 q8 qz
        repeat (refine hP _ ?_; conv => whnf)
        by_cases hfit : tx.length + k ≤ 3000
        · refine c_append hC' h hk8 hfit (fun I' hI' hF => ?_)
          repeat (refine hP _ ?_; conv => whnf)
          refine ⟨fun q => absurd q (by decide), fun _ => ?_⟩
          repeat (refine hP _ ?_; conv => whnf)
          have e := h4 k hk1 hk8 rfl hfit I' hI' hF
          have e1 : I' 1 1 = nI (tx.length + k) := by
            have := hI'.1
            rw [List.length_append, octs_len] at this
            exact this
          rw [← e1] at e
          exact e
        · refine c_appendNo hC' h hk8 ht.1 (by omega) ?_
          repeat (refine hP _ ?_; conv => whnf)
          refine ⟨fun _ => ?_, fun q => absurd rfl q⟩
          repeat (refine hP _ ?_; conv => whnf)
          exact h3 k hk1 hk8 rfl (by omega)
set_option maxHeartbeats 1000000 in
theorem r_type {XL : Nat} {XS : Nat → Int32} {n : Nat} {C : mC} {I : Nat → Nat → Int32} {L : Nat → Nat → Int64} {K : mK} {tx : List Nat} {v : Int64} {z : Int32} (hC : m_Ge XL XS (n + 1) C) (ht : TxOk tx) (h : TxM tx I)
    (h1 : (z < 0 ∨ 8 < z) → K (some (.int (-2))) (m_SH, I, L)) (h2 : z = 0 → K (some (.int 0)) (m_SH, m_up I 30 2 0, L))
    (h3 : ∀ k, 1 ≤ k → k ≤ 8 → z = nI k → 3000 < tx.length + k → K (some (.int (-4))) (m_SH, I, L))
    (h4 : ∀ k, 1 ≤ k → k ≤ 8 → z = nI k → tx.length + k ≤ 3000 → ∀ I', TxM (tx ++ octs v k) I' → Fr S_mt I I' → K (some (.int (nI (tx.length + k)))) (m_SH, I', L)) : C 103 [.ref 30, .long v, .int z] (m_SH, I, L) K := by
  have hl := ht.1
  refine e_X9_type hC (Nat.le_of_ble_eq_true rfl) ?_
  intro C' hC' P hP
  have loop : ∀ (k m : Nat) (t : List Nat) (J : Nat → Nat → Int32), TxM t J → t.length + m ≤ 3000 → Fr S_mt I J → (∀ I', TxM (t ++ octs v m) I' → Fr S_mt I I' → K (some (.int (nI (t.length + m)))) (m_SH, I', L)) → P (42, [some (.ref 30), some (.long v), none, some (.int (nI k)), some (.int (nI m - 1))], [], (m_SH, J, L), 0, 0) := by
    intro k m
    induction m with
    | zero =>
      intro t J hJ hm hF hk
      repeat (refine hP _ ?_; conv => whnf)
      refine ⟨fun _ => ?_, fun h1 => absurd (show nI 0 - 1 < 0 by decide) h1⟩
      repeat (refine hP _ ?_; conv => whnf)
      have e := hk J (by simpa [octs] using hJ) hF
      rw [Nat.add_zero, ← hJ.1] at e
      exact e
    | succ m ih =>
      intro t J hJ hm hF hk
      rw [nI_pred]
      repeat (refine hP _ ?_; conv => whnf)
      refine ⟨fun h1 => absurd h1 (nI_pos (by omega)), fun _ => ?_⟩
      repeat (refine hP _ ?_; conv => whnf)
      rw [hJ.1]
      refine ⟨vp_in_nI (by omega) (by omega), ?_⟩
      rw [nI_clamp (by omega)]
      iterate 8 (refine hP _ ?_; conv => whnf)
      have hj2 := TxM_push (o := ov v m) hJ (ov_byte _) (by omega)
      have e := ih (t ++ [ov v m]) _ hj2 (by simp; omega) ((hF.up (by simp [S_mt])).up (by simp [S_mt])) (fun I' h1 h2 => by
        have e := hk I' (by simpa [octs] using h1) h2
        rw [show t.length + (m + 1) = (t ++ [ov v m]).length + m by simp; omega] at e
        exact e)
      have e1 : ∀ x, m_up J 32 t.length x 30 2 + 1 = nI (t.length + 1) := fun x => by rw [m_upr, if_neg (by decide), hJ.1, nI_1]
      rw [← e1] at e
      rw [show nI m - 1 = nI m + -1 from by rw [Int32.sub_eq_add_neg]] at e
      exact e
  repeat (refine hP _ ?_; conv => whnf)
  refine ⟨fun q => ?_, fun q0 => ?_⟩
  · repeat (refine hP _ ?_; conv => whnf)
    exact h1 (Or.inl q)
  · repeat (refine hP _ ?_; conv => whnf)
    refine ⟨fun q => ?_, fun q8 => ?_⟩
    · repeat (refine hP _ ?_; conv => whnf)
      exact h1 (Or.inr q)
    · repeat (refine hP _ ?_; conv => whnf)
      refine ⟨fun q => ?_, fun qz => ?_⟩
      · subst q
        repeat (refine hP _ ?_; conv => whnf)
        refine ⟨fun q => absurd q (by rw [m_upr, if_pos rfl, if_pos rfl]; decide), fun _ => ?_⟩
        repeat (refine hP _ ?_; conv => whnf)
        refine ⟨fun _ => ?_, fun q => absurd (show (0 : Int32) - 1 < 0 by decide) q⟩
        repeat (refine hP _ ?_; conv => whnf)
        exact h2 rfl
      · obtain ⟨k, hk1, hk8, rfl⟩ := n_1to8 q0 q8 qz
        repeat (refine hP _ ?_; conv => whnf)
        rw [h.1, nI_add]
        refine ⟨fun q => ?_, fun q => ?_⟩
        · repeat (refine hP _ ?_; conv => whnf)
          have := (nI_ltI (a := 3000) (by omega) (by omega)).mp q
          exact h3 k hk1 hk8 rfl this
        · have hfit : tx.length + k ≤ 3000 := by
            by_cases hf : tx.length + k ≤ 3000
            · exact hf
            · exact absurd (nI_lt (a := 3000) (b := tx.length + k) (by omega) (by omega)) q
          iterate 4 (refine hP _ ?_; conv => whnf)
          exact loop k k tx I h hfit Fr.rf (h4 k hk1 hk8 rfl hfit)
