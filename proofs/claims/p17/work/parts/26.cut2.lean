theorem fig_slice {tx : List Nat} (ht : TxOk tx) {i : Nat} (hi : i ≤ tx.length) : ∀ c ∈ slice tx i (scan qF tx i), 48 ≤ c ∧ c ≤ 57 := fun c hc => qF_rng c (ht.2 c (slice_mem hc)) (scan_all (q := qF) (tx := tx) (tx.length - i) i (by omega) c hc)
theorem dcF_step {tx : List Nat} : ∀ (m i : Nat) (a : Int64), dcF tx (m + 1) i a = 10 * dcF tx m i a + (toc tx (i + m) - 48).toInt64
  | 0, i, a => rfl
  | m + 1, i, a => by
    have := dcF_step (tx := tx) m (i + 1) (10 * a + (toc tx i - 48).toInt64)
    rw [show i + 1 + m = i + (m + 1) by omega] at this
    exact this
theorem c_cutNumber {XL : Nat} {XS : Nat → Int32} {n : Nat} {C : mC} {I : Nat → Nat → Int32} {L : Nat → Nat → Int64} {K : mK} {tx : List Nat} {i0 c : Nat} (hC : m_Ge XL XS (n + 3) C) (ht : TxOk tx) (h : TxC tx I) (hi0 : i0 < tx.length) (hc : I 3 4 = nI c) (hc2 : c < 3001)
    (hbad : 9 < scan qF tx i0 - i0 → K (some (.int (nI i0))) (m_SH, I, L))
    (hok : ¬ 9 < scan qF tx i0 - i0 → K (some (.int (nI (scan qF tx i0)))) (m_SH, keepI 17 i0 c I, m_upL L 6 c (lN (decV (slice tx i0 (scan qF tx i0)))))) : C 68 [.ref 3, .ref 1, .int (nI i0)] (m_SH, I, L) K := by
  have hl := ht.1
  have hb := scan_le (q := qF) (tx := tx) (i := i0) (by omega)
  refine e_X6_cutNumber hC (Nat.le_of_ble_eq_true rfl) ?_
  intro C' hC' P hP
  have hex : P (48, [some (.ref 3), some (.ref 1), some (.int (nI i0)), some (.int (nI (scan qF tx i0))), some (.long (dcF tx (scan qF tx i0 - i0) i0 0)), none], [], (m_SH, I, L), 0, 0) := by
    repeat (refine hP _ ?_; conv => whnf)
    rw [sub_nI hb.1]
    refine ⟨fun q => ?_, fun q => ?_⟩
    · repeat (refine hP _ ?_; conv => whnf)
      exact hbad ((nI_ltI (a := 9) (by omega) (by omega)).mp q)
    · have h8 : ¬ 9 < scan qF tx i0 - i0 := fun z => q (nI_lt (a := 9) z (by omega))
      repeat (refine hP _ ?_; conv => whnf)
      refine c_keep (k := 17) hC' (by omega) (by omega) hc hc2 ?_
      repeat (refine hP _ ?_; conv => whnf)
      have e := hok h8
      have e1 := dcF_eq (tx := tx) (scan qF tx i0 - i0) i0 0 (by omega) (by rw [show i0 + (scan qF tx i0 - i0) = scan qF tx i0 by omega]; exact fig_slice ht (by omega))
      rw [Nat.zero_mul, Nat.zero_add, show i0 + (scan qF tx i0 - i0) = scan qF tx i0 by omega] at e1
      rw [← e1] at e
      exact e
  have loop : ∀ (m j : Nat), i0 ≤ j → j + m = tx.length → scan qF tx j = scan qF tx i0 → P (5, [some (.ref 3), some (.ref 1), some (.int (nI i0)), some (.int (nI j)), some (.long (dcF tx (j - i0) i0 0)), none], [], (m_SH, I, L), 0, 0) := by
    intro m
    induction m with
    | zero =>
      intro j hij hj hs
      repeat (refine hP _ ?_; conv => whnf)
      rw [h.1]
      refine ⟨fun h1 => absurd h1 (nI_nlt (by omega) (by omega)), fun _ => ?_⟩
      rw [scan_ge (by omega)] at hs
      rw [← hs] at hex
      exact hex
    | succ m ih =>
      intro j hij hj hs
      repeat (refine hP _ ?_; conv => whnf)
      rw [h.1]
      refine ⟨fun _ => ?_, fun h1 => absurd (nI_lt (by omega) (by omega)) h1⟩
      repeat (refine hP _ ?_; conv => whnf)
      refine c_at' hC' ht h (by omega) ?_
      repeat (refine hP _ ?_; conv => whnf)
      refine c_isFigure hC' ?_
      rw [scan_lt (by omega)] at hs
      repeat (refine hP _ ?_; conv => whnf)
      refine ⟨fun q => ?_, fun q => ?_⟩
      · rw [if_neg (fun z => qF_iff.mp z q)] at hs
        rw [← hs] at hex
        exact hex
      · rw [if_pos (qF_iff.mpr q)] at hs
        repeat (refine hP _ ?_; conv => whnf)
        refine c_at' hC' ht h (by omega) ?_
        iterate 7 (refine hP _ ?_; conv => whnf)
        have e := ih (j + 1) (by omega) (by omega) hs
        rw [← nI_1, show j + 1 - i0 = (j - i0) + 1 by omega, dcF_step, show i0 + (j - i0) = j by omega] at e
        exact e
  iterate 4 (refine hP _ ?_; conv => whnf)
  have e := loop (tx.length - i0) i0 (Nat.le_refl _) (by omega) rfl
  rw [Nat.sub_self] at e
  exact e
/-- the world with one token more -/
def keepT (t : Tok) (c : Nat) (I : Nat → Nat → Int32) : Nat → Nat → Int32 := keepI t.1 t.2.1 c I
theorem sgN_rng (x : Int32) : sgN x < 128 := by
  unfold sgN
  repeat' split
  all_goals decide
theorem tokAt_end {tx : List Nat} {i : Nat} (h : i < tx.length) (hk : ¬ (tokAt tx i).1 = 28) : i < (tokAt tx i).2.2.2.2 ∧ (tokAt tx i).2.2.2.2 ≤ tx.length ∧ (tokAt tx i).1 < 128 ∧ ¬ (tokAt tx i).1 = 27 ∧ (tokAt tx i).2.1 = i := by
  unfold tokAt at hk ⊢
  rw [if_neg (by omega)] at hk ⊢
  by_cases h1 : isSm (toc tx i) = 1
  · rw [if_pos h1] at hk ⊢
    by_cases h8 : 8 < scan qN tx i - i
    · rw [if_pos h8] at hk; exact absurd rfl hk
    · rw [if_neg h8] at hk ⊢
      have hb := scan_le (q := qN) (tx := tx) (i := i) (by omega)
      have hq : qN (toc tx i) = true := by unfold qN; rw [h1]; rfl
      have hs := scan_lt (q := qN) h
      rw [if_pos hq] at hs
      have hb2 := scan_le (q := qN) (tx := tx) (i := i + 1) (by omega)
      have hw : wordIx (slice tx i (scan qN tx i)) ≤ 15 := by
        by_cases hm : slice tx i (scan qN tx i) ∈ wordL
        · have := wordIx_in hm; omega
        · rw [wordIx_out hm]; omega
      refine ⟨?_, hb.2, ?_, ?_, rfl⟩ <;> simp only <;> omega
  · rw [if_neg h1] at hk ⊢
    by_cases h2 : isFg (toc tx i) = 1
    · rw [if_pos h2] at hk ⊢
      by_cases h9 : 9 < scan qF tx i - i
      · rw [if_pos h9] at hk; exact absurd rfl hk
      · rw [if_neg h9] at hk ⊢
        have hb := scan_le (q := qF) (tx := tx) (i := i) (by omega)
        have hq : qF (toc tx i) = true := by unfold qF; rw [h2]; rfl
        have hs := scan_lt (q := qF) h
        rw [if_pos hq] at hs
        have hb2 := scan_le (q := qF) (tx := tx) (i := i + 1) (by omega)
        refine ⟨?_, hb.2, ?_, ?_, rfl⟩ <;> simp only <;> omega
    · rw [if_neg h2] at hk ⊢
      by_cases h3 : toc tx i = 34
      · rw [if_pos h3] at hk ⊢
        by_cases h4 : toc tx (scan qT tx (i + 1)) = 34 ∧ scan qT tx (i + 1) - (i + 1) ≤ 8
        · rw [if_pos h4] at hk ⊢
          have hb2 := scan_le (q := qT) (tx := tx) (i := i + 1) (by omega)
          have hlt : scan qT tx (i + 1) < tx.length := by
            by_cases hz : scan qT tx (i + 1) < tx.length
            · exact hz
            · have := h4.1
              rw [toc_ge (by omega)] at this
              exact absurd this (by decide)
          refine ⟨?_, ?_, ?_, ?_, rfl⟩ <;> simp only <;> omega
        · rw [if_neg h4] at hk; exact absurd rfl hk
      · rw [if_neg h3] at hk ⊢
        by_cases h5 : toc tx i = 45 ∧ toc tx (i + 1) = 62
        · rw [if_pos h5]
          have hlt : i + 1 < tx.length := by
            by_cases hz : i + 1 < tx.length
            · exact hz
            · have := h5.2
              rw [toc_ge (by omega)] at this
              exact absurd this (by decide)
          refine ⟨?_, ?_, ?_, ?_, rfl⟩ <;> simp only <;> omega
        · rw [if_neg h5] at hk ⊢
          by_cases h6 : sgN (toc tx i) = 28
          · rw [if_pos h6] at hk; exact absurd rfl hk
          · rw [if_neg h6] at hk ⊢
            have := sgN_rng (toc tx i)
            refine ⟨?_, ?_, ?_, ?_, rfl⟩ <;> simp only
            · omega
            · omega
            · omega
            · unfold sgN
              repeat' split
              all_goals decide
theorem c_cutOne {XL : Nat} {XS : Nat → Int32} {n : Nat} {C : mC} {I : Nat → Nat → Int32} {L : Nat → Nat → Int64} {K : mK} {tx : List Nat} {i0 c : Nat} (hC : m_Ge XL XS (n + 4) C) (ht : TxOk tx) (h : TxC tx I) (hw : WdC L) (hi0 : i0 < tx.length) (hc : I 3 4 = nI c) (hc2 : c < 3001)
    (hbad : (tokAt tx i0).1 = 28 → K (some (.int (nI i0))) (m_SH, I, L))
    (hok : ¬ (tokAt tx i0).1 = 28 → K (some (.int (nI (tokAt tx i0).2.2.2.2))) (m_SH, keepI (tokAt tx i0).1 i0 c I, m_upL L 6 c (cval (tokAt tx i0)))) : C 65 [.ref 3, .ref 1, .int (nI i0), .int (toc tx i0)] (m_SH, I, L) K := by
  have hl := ht.1
  unfold tokAt at hbad hok
  rw [if_neg (by omega)] at hbad hok
  refine e_X6_cutOne hC (Nat.le_of_ble_eq_true rfl) ?_
  intro C' hC' P hP
  repeat (refine hP _ ?_; conv => whnf)
  refine c_isSmall hC' ?_
  repeat (refine hP _ ?_; conv => whnf)
  refine ⟨fun q => ?_, fun q => ?_⟩
  · have h1 : ¬ isSm (toc tx i0) = 1 := by rw [q]; decide
    rw [if_neg h1] at hbad hok
    repeat (refine hP _ ?_; conv => whnf)
    refine c_isFigure hC' ?_
    repeat (refine hP _ ?_; conv => whnf)
    refine ⟨fun q => ?_, fun q => ?_⟩
    · have h1 : ¬ isFg (toc tx i0) = 1 := by rw [q]; decide
      rw [if_neg h1] at hbad hok
      repeat (refine hP _ ?_; conv => whnf)
      refine ⟨fun q => ?_, fun q => ?_⟩
      · rw [if_pos q] at hbad hok
        repeat (refine hP _ ?_; conv => whnf)
        refine c_cutText hC' ht h hi0 hc hc2 (fun z => ?_) (fun z => ?_)
        · rw [if_neg z] at hbad
          repeat (refine hP _ ?_; conv => whnf)
          exact hbad rfl
        · rw [if_pos z] at hok
          repeat (refine hP _ ?_; conv => whnf)
          exact hok (by simp)
      · rw [if_neg q] at hbad hok
        have rest : ¬ (toc tx i0 = 45 ∧ toc tx (i0 + 1) = 62) → P (71, [some (.ref 3), some (.ref 1), some (.int (nI i0)), some (.int (toc tx i0)), none], [], (m_SH, I, L), 0, 0) := by
          intro h5
          rw [if_neg h5] at hbad hok
          repeat (refine hP _ ?_; conv => whnf)
          refine c_signKind hC' ?_
          rw [sgK_N]
          repeat (refine hP _ ?_; conv => whnf)
          refine ⟨fun q => ?_, fun q => ?_⟩
          · have hs : sgN (toc tx i0) = 28 := (nI_eq (a := sgN (toc tx i0)) (b := 28) (by have := sgN_rng (toc tx i0); omega) (by omega)).mp q
            rw [if_pos hs] at hbad
            repeat (refine hP _ ?_; conv => whnf)
            exact hbad rfl
          · have hs : ¬ sgN (toc tx i0) = 28 := fun z => q (by rw [z]; rfl)
            rw [if_neg hs] at hok
            repeat (refine hP _ ?_; conv => whnf)
            refine c_keep hC' (sgN_rng _) (by omega) hc hc2 ?_
            repeat (refine hP _ ?_; conv => whnf)
            have e := hok hs
            rw [← nI_1] at e
            have e2 : cval (sgN (toc tx i0), i0, [], 0, i0 + 1) = 0 := by
              unfold cval
              simp only
              split
              · rfl
              · rfl
            rw [e2] at e
            exact e
        repeat (refine hP _ ?_; conv => whnf)
        refine ⟨fun q => ?_, fun q => ?_⟩
        · repeat (refine hP _ ?_; conv => whnf)
          rw [nI_1]
          refine c_at' hC' ht h (by omega) ?_
          repeat (refine hP _ ?_; conv => whnf)
          refine ⟨fun q2 => ?_, fun q2 => ?_⟩
          · rw [if_pos ⟨q, q2⟩] at hok
            repeat (refine hP _ ?_; conv => whnf)
            refine c_keep (k := 26) hC' (by omega) (by omega) hc hc2 ?_
            repeat (refine hP _ ?_; conv => whnf)
            have e := hok (by simp)
            rw [← nI_add i0 2] at e
            exact e
          · exact rest (fun z => q2 z.2)
        · exact rest (fun z => q z.1)
    · have h1 : isFg (toc tx i0) = 1 := (isFg_01 _).resolve_left q
      rw [if_pos h1] at hbad hok
      repeat (refine hP _ ?_; conv => whnf)
      refine c_cutNumber hC' ht h hi0 hc hc2 (fun z => ?_) (fun z => ?_)
      · rw [if_pos z] at hbad
        repeat (refine hP _ ?_; conv => whnf)
        exact hbad rfl
      · rw [if_neg z] at hok
        repeat (refine hP _ ?_; conv => whnf)
        exact hok (by simp)
  · have h1 : isSm (toc tx i0) = 1 := (isSm_01 _).resolve_left q
    rw [if_pos h1] at hbad hok
    repeat (refine hP _ ?_; conv => whnf)
    refine c_cutName hC' ht h hw hi0 hc hc2 (fun z => ?_) (fun z => ?_)
    · rw [if_pos z] at hbad
      repeat (refine hP _ ?_; conv => whnf)
      exact hbad rfl
    · rw [if_neg z] at hok
      repeat (refine hP _ ?_; conv => whnf)
      have hwx : wordIx (slice tx i0 (scan qN tx i0)) ≤ 15 := by
        by_cases hm : slice tx i0 (scan qN tx i0) ∈ wordL
        · have := wordIx_in hm; omega
        · rw [wordIx_out hm]; omega
      have e := hok (by simp only; omega)
      have e2 : cval (wordIx (slice tx i0 (scan qN tx i0)) + 1, i0, slice tx i0 (scan qN tx i0), 0, scan qN tx i0) = lN (pkB 256 (slice tx i0 (scan qN tx i0))) := by
        unfold cval
        rw [if_neg (by simp only; omega)]
      rw [e2] at e
      exact e
