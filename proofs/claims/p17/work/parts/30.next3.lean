theorem decV_snoc (l : List Nat) (c : Nat) : decV (l ++ [c]) = decV l * 10 + (c - 48) := by
  unfold decV
  rw [List.foldl_append]
  rfl
set_option maxHeartbeats 1000000 in
theorem r_nextNumber {XL : Nat} {XS : Nat → Int32} {n : Nat} {C : mC} {I : Nat → Nat → Int32} {L : Nat → Nat → Int64} {K : mK} {tx : List Nat} {p : Nat} (hC : m_Ge XL XS (n + 2) C) (ht : TxOk tx) (h : TxM tx I) (hp : p < tx.length) (hpos : I 30 3 = nI p)
    (hK : ∀ I', (9 < scan qF tx p - p → I' 30 4 = 6) → (¬ 9 < scan qF tx p - p → I' 30 3 = nI (scan qF tx p) ∧ I' 30 4 = 2 ∧ I' 30 7 = nI (decV (slice tx p (scan qF tx p)))) → Fr S_nx I I' → I' 30 5 = I 30 5 → K none (m_SH, I', L)) : C 109 [.ref 30] (m_SH, I, L) K := by
  have hl := ht.1
  have hb := scan_le (q := qF) (tx := tx) (i := p) (by omega)
  refine e_X9_nextNumber hC (Nat.le_of_ble_eq_true rfl) ?_
  intro C' hC' P hP
  have hex : ∀ (J : Nat → Nat → Int32), J 30 3 = nI (scan qF tx p) → (scan qF tx p - p ≤ 9 → J 30 7 = nI (decV (slice tx p (scan qF tx p)))) → Fr S_nx I J → J 30 5 = I 30 5 → P (66, [some (.ref 30), some (.int (nI (scan qF tx p - p)))], [], (m_SH, J, L), 0, 0) := by
    intro J h3 h7 hFI hF5
    repeat (refine hP _ ?_; conv => whnf)
    refine ⟨fun q => ?_, fun q => ?_⟩
    · have h8 := (nI_ltI (a := 9) (by omega) (by omega)).mp q
      repeat (refine hP _ ?_; conv => whnf)
      exact hK _ (fun _ => by simp [m_upr]) (fun z => absurd h8 z) (hFI.up rfl) (by simp [m_upr, hF5])
    · have h8 : ¬ 9 < scan qF tx p - p := fun z => q (nI_lt (a := 9) z (by omega))
      repeat (refine hP _ ?_; conv => whnf)
      exact hK _ (fun z => absurd z h8) (fun _ => ⟨by simp [m_upr, h3], by simp [m_upr], by simp [m_upr, h7 (by omega)]⟩) (hFI.up rfl) (by simp [m_upr, hF5])
  have loop : ∀ (m j : Nat) (J : Nat → Nat → Int32), p ≤ j → j + m = tx.length → scan qF tx j = scan qF tx p → J 30 3 = nI j → (j - p ≤ 9 → J 30 7 = nI (decV (slice tx p j))) → Fr S_nx I J → J 30 5 = I 30 5 → P (7, [some (.ref 30), some (.int (nI (j - p)))], [], (m_SH, J, L), 0, 0) := by
    intro m
    induction m with
    | zero =>
      intro j J hpj hj hs h3 h7 hFI hF5
      have hJ := h.fr hFI rfl (fun _ => rfl)
      have hqe := (q_end (tx := tx) (j := j) (by omega)).2.1
      rw [scan_ge (by omega)] at hs
      repeat (refine hP _ ?_; conv => whnf)
      refine r_octetJ hC' ht hJ h3 (by omega) ?_
      repeat (refine hP _ ?_; conv => whnf)
      refine r_isFigure hC' ?_
      repeat (refine hP _ ?_; conv => whnf)
      refine ⟨fun q => ?_, fun q => absurd (qF_iff.mpr q) hqe⟩
      have e := hex J (by rw [← hs]; exact h3) (by rw [← hs]; exact h7) hFI hF5
      rw [← hs] at e
      exact e
    | succ m ih =>
      intro j J hpj hj hs h3 h7 hFI hF5
      have hJ := h.fr hFI rfl (fun _ => rfl)
      repeat (refine hP _ ?_; conv => whnf)
      refine r_octetJ hC' ht hJ h3 (by omega) ?_
      repeat (refine hP _ ?_; conv => whnf)
      refine r_isFigure hC' ?_
      repeat (refine hP _ ?_; conv => whnf)
      refine ⟨fun q => ?_, fun q => ?_⟩
      · rcases scan_at (q := qF) (by omega) hs with ⟨hq, -, -⟩ | ⟨-, hs2⟩
        · exact absurd q (qF_iff.mp hq)
        · have e := hex J (by rw [hs2]; exact h3) (by rw [hs2]; exact h7) hFI hF5
          rw [hs2] at e
          exact e
      · rcases scan_at (q := qF) (by omega) hs with ⟨hq, hs2, hlt⟩ | ⟨hn, -⟩
        · repeat (refine hP _ ?_; conv => whnf)
          refine ⟨fun q => ?_, fun q => ?_⟩
          · have h8 := (nI_ltI (b := 9) (by omega) (by omega)).mp q
            repeat (refine hP _ ?_; conv => whnf)
            refine r_octetJ hC' ht hJ h3 (by omega) ?_
            have hfg := qF_rng (tx.getD j 0) (tx_lt ht j) (by rw [← toc_lt (by omega)]; exact hq)
            have hst : J 30 7 * 10 + toc tx j - 48 = nI (decV (slice tx p (j + 1))) := by
              rw [h7 (by omega), slice_snoc hpj (by omega), decV_snoc, toc_lt (by omega), show (10 : Int32) = nI 10 from rfl, pk_mul, nI_add, show (48 : Int32) = nI 48 from rfl, sub_nI (by omega)]
              congr 1
              omega
            iterate 12 (refine hP _ ?_; conv => whnf)
            have e := ih (j + 1) (m_up (m_up J 30 7 (nI (decV (slice tx p (j + 1))))) 30 3 (nI (j + 1))) (by omega) (by omega) hs2 (by simp [m_upr]) (fun _ => by simp [m_upr]) ((hFI.up rfl).up rfl) (by simp [m_upr, hF5])
            have e3 : m_up J 30 7 (nI (decV (slice tx p (j + 1)))) 30 3 = nI j := by simp [m_upr, h3]
            rw [show j + 1 - p = (j - p) + 1 by omega, ← nI_1, ← nI_1, ← e3, ← hst] at e
            exact e
          · have h8 : ¬ j - p < 9 := fun z => q (nI_lt (b := 9) z (by omega))
            iterate 8 (refine hP _ ?_; conv => whnf)
            have e := ih (j + 1) (m_up J 30 3 (nI (j + 1))) (by omega) (by omega) hs2 (by simp [m_upr]) (fun z => by omega) (hFI.up rfl) (by simp [m_upr, hF5])
            rw [show j + 1 - p = (j - p) + 1 by omega, ← nI_1, ← nI_1, ← h3] at e
            exact e
        · exact absurd (qF_iff.mpr q) hn
  iterate 5 (refine hP _ ?_; conv => whnf)
  have e := loop (tx.length - p) p (m_up I 30 7 0) (Nat.le_refl _) (by omega) rfl (by simp [m_upr, hpos]) (fun _ => by simp [m_upr, slice_nil, decV]; rfl) (Fr.rf.up rfl) (by simp [m_upr])
  rw [Nat.sub_self] at e
  exact e
theorem qT_iff2 {x : Int32} : qT x = true ↔ (¬ isSm x = 0 ∨ ¬ isFg x = 0 ∨ (¬ x < 65 ∧ ¬ 90 < x)) := by
  rw [qT_iff]
  unfold isTs
  by_cases h1 : isSm x = 0
  · by_cases h2 : isFg x = 0
    · by_cases h3 : x < 65
      · simp [h1, h2, h3]
      · by_cases h4 : 90 < x
        · simp [h1, h2, h3, h4]
        · simp [h1, h2, h3, h4]
    · simp [h1, h2]
  · simp [h1]
set_option maxHeartbeats 2000000 in
theorem r_nextText {XL : Nat} {XS : Nat → Int32} {n : Nat} {C : mC} {I : Nat → Nat → Int32} {L : Nat → Nat → Int64} {K : mK} {tx : List Nat} {p : Nat} (hC : m_Ge XL XS (n + 2) C) (ht : TxOk tx) (h : TxM tx I) (hp : p < tx.length) (hpos : I 30 3 = nI p)
    (hK : ∀ I' L', (¬ (toc tx (scan qT tx (p + 1)) = 34 ∧ scan qT tx (p + 1) - (p + 1) ≤ 8) → I' 30 4 = 6) → ((toc tx (scan qT tx (p + 1)) = 34 ∧ scan qT tx (p + 1) - (p + 1) ≤ 8) → I' 30 3 = nI (scan qT tx (p + 1) + 1) ∧ I' 30 4 = 3 ∧ I' 30 7 = nI (scan qT tx (p + 1) - (p + 1)) ∧ L' 30 6 = lN (pkB 256 (slice tx (p + 1) (scan qT tx (p + 1))))) → Fr S_nx I I' → I' 30 5 = I 30 5 → Fr S_nxL L L' → K none (m_SH, I', L')) : C 110 [.ref 30] (m_SH, I, L) K := by
  have hl := ht.1
  have hb := scan_le (q := qT) (tx := tx) (i := p + 1) (by omega)
  refine e_X9_nextText hC (Nat.le_of_ble_eq_true rfl) ?_
  intro C' hC' P hP
  have hex : ∀ (J : Nat → Nat → Int32) (M : Nat → Nat → Int64), J 30 3 = nI (scan qT tx (p + 1)) → (scan qT tx (p + 1) - (p + 1) ≤ 8 → M 30 6 = lN (pkB 256 (slice tx (p + 1) (scan qT tx (p + 1))))) → Fr S_nx I J → J 30 5 = I 30 5 → Fr S_nxL L M → P (114, [some (.ref 30), some (.int (nI (scan qT tx (p + 1) - (p + 1))))], [], (m_SH, J, M), 0, 0) := by
    intro J M h3 h6 hFI hF5 hFL
    have hJ2 : ∀ x, TxM tx (m_up J 30 7 x) := fun x => h.fr (hFI.up rfl) rfl (fun _ => rfl)
    repeat (refine hP _ ?_; conv => whnf)
    refine r_octetJ hC' ht (hJ2 _) (show m_up J 30 7 _ 30 3 = nI (scan qT tx (p + 1)) by simp [m_upr, h3]) (by omega) ?_
    repeat (refine hP _ ?_; conv => whnf)
    refine ⟨fun q => ?_, fun q => ?_⟩
    · repeat (refine hP _ ?_; conv => whnf)
      refine ⟨fun q2 => ?_, fun q2 => ?_⟩
      · have h8 := (nI_ltI (a := 8) (by omega) (by omega)).mp q2
        repeat (refine hP _ ?_; conv => whnf)
        exact hK _ M (fun _ => by simp [m_upr]) (fun z => by omega) (((hFI.up rfl).up rfl).up rfl) (by simp [m_upr, hF5]) hFL
      · have h8 : ¬ 8 < scan qT tx (p + 1) - (p + 1) := fun z => q2 (nI_lt (a := 8) z (by omega))
        repeat (refine hP _ ?_; conv => whnf)
        exact hK _ M (fun z => absurd ⟨q, by omega⟩ z) (fun _ => ⟨by simp [m_upr, h3, nI_1], by simp [m_upr], by simp [m_upr], h6 (by omega)⟩) (((hFI.up rfl).up rfl).up rfl) (by simp [m_upr, hF5]) hFL
    · repeat (refine hP _ ?_; conv => whnf)
      exact hK _ M (fun _ => by simp [m_upr]) (fun z => absurd z.1 q) (((hFI.up rfl).up rfl).up rfl) (by simp [m_upr, hF5]) hFL
  have loop : ∀ (m j : Nat) (J : Nat → Nat → Int32) (M : Nat → Nat → Int64), p + 1 ≤ j → j + m = tx.length → scan qT tx j = scan qT tx (p + 1) → J 30 3 = nI j → (j - (p + 1) ≤ 8 → M 30 6 = lN (pkB 256 (slice tx (p + 1) j))) → Fr S_nx I J → J 30 5 = I 30 5 → Fr S_nxL L M → P (17, [some (.ref 30), some (.int (nI (j - (p + 1))))], [], (m_SH, J, M), 0, 0) := by
    intro m
    induction m with
    | zero =>
      intro j J M hpj hj hs h3 h6 hFI hF5 hFL
      have hJ := h.fr hFI rfl (fun _ => rfl)
      have hqe := (q_end (tx := tx) (j := j) (by omega)).2.2.1
      rw [scan_ge (by omega)] at hs
      have out : P (114, [some (.ref 30), some (.int (nI (j - (p + 1))))], [], (m_SH, J, M), 0, 0) := by
        have e := hex J M (by rw [← hs]; exact h3) (by rw [← hs]; exact h6) hFI hF5 hFL
        rw [← hs] at e
        exact e
      repeat (refine hP _ ?_; conv => whnf)
      refine r_octetJ hC' ht hJ h3 (by omega) ?_
      repeat (refine hP _ ?_; conv => whnf)
      refine r_isSmall hC' ?_
      repeat (refine hP _ ?_; conv => whnf)
      refine ⟨fun q => ?_, fun q => absurd (qT_iff2.mpr (Or.inl q)) hqe⟩
      repeat (refine hP _ ?_; conv => whnf)
      refine r_octetJ hC' ht hJ h3 (by omega) ?_
      repeat (refine hP _ ?_; conv => whnf)
      refine r_isFigure hC' ?_
      repeat (refine hP _ ?_; conv => whnf)
      refine ⟨fun q => ?_, fun q => absurd (qT_iff2.mpr (Or.inr (Or.inl q))) hqe⟩
      repeat (refine hP _ ?_; conv => whnf)
      refine r_octetJ hC' ht hJ h3 (by omega) ?_
      repeat (refine hP _ ?_; conv => whnf)
      refine ⟨fun q => out, fun q => ?_⟩
      repeat (refine hP _ ?_; conv => whnf)
      refine r_octetJ hC' ht hJ h3 (by omega) ?_
      repeat (refine hP _ ?_; conv => whnf)
      refine ⟨fun q2 => out, fun q2 => absurd (qT_iff2.mpr (Or.inr (Or.inr ⟨q, q2⟩))) hqe⟩
    | succ m ih =>
      intro j J M hpj hj hs h3 h6 hFI hF5 hFL
      have hJ := h.fr hFI rfl (fun _ => rfl)
      have out : ¬ qT (toc tx j) = true → P (114, [some (.ref 30), some (.int (nI (j - (p + 1))))], [], (m_SH, J, M), 0, 0) := by
        intro hn
        rcases scan_at (q := qT) (by omega) hs with ⟨hq, -, -⟩ | ⟨-, hs2⟩
        · exact absurd hq hn
        · have e := hex J M (by rw [hs2]; exact h3) (by rw [hs2]; exact h6) hFI hF5 hFL
          rw [hs2] at e
          exact e
      have go : qT (toc tx j) = true → P (71, [some (.ref 30), some (.int (nI (j - (p + 1))))], [], (m_SH, J, M), 0, 0) := by
        intro hq
        rcases scan_at (q := qT) (by omega) hs with ⟨-, hs2, hlt⟩ | ⟨hn, -⟩
        · repeat (refine hP _ ?_; conv => whnf)
          refine ⟨fun q => ?_, fun q => ?_⟩
          · have h8 := (nI_ltI (b := 8) (by omega) (by omega)).mp q
            repeat (refine hP _ ?_; conv => whnf)
            refine r_octetJ hC' ht hJ h3 (by omega) ?_
            rw [h6 (by omega)]
            have hst := pk8_step (tx := tx) (i := p + 1) (j := j) hpj (by omega) h8 (fun c hc => by
              have h1 := slice_q (q := qT) (tx := tx) (i := p + 1) (by omega) (j := j + 1) (by omega) c hc
              rcases qT_rng c (ht.2 c (slice_mem hc)) h1 with h | h | h <;> omega)
            iterate 11 (refine hP _ ?_; conv => whnf)
            have e := ih (j + 1) (m_up J 30 3 (nI (j + 1))) (m_upL M 30 6 (lN (pkB 256 (slice tx (p + 1) (j + 1))))) (by omega) (by omega) hs2 (by simp [m_upr]) (fun _ => by simp [m_uprL]) (hFI.up rfl) (by simp [m_upr, hF5]) (hFL.upL rfl)
            rw [show j + 1 - (p + 1) = (j - (p + 1)) + 1 by omega, ← nI_1 (j - (p + 1)), ← nI_1 j, ← h3, ← hst] at e
            exact e
          · have h8 : ¬ j - (p + 1) < 8 := fun z => q (nI_lt (b := 8) z (by omega))
            iterate 8 (refine hP _ ?_; conv => whnf)
            have e := ih (j + 1) (m_up J 30 3 (nI (j + 1))) M (by omega) (by omega) hs2 (by simp [m_upr]) (fun z => by omega) (hFI.up rfl) (by simp [m_upr, hF5]) hFL
            rw [show j + 1 - (p + 1) = (j - (p + 1)) + 1 by omega, ← nI_1 (j - (p + 1)), ← nI_1 j, ← h3] at e
            exact e
        · exact absurd hq hn
      repeat (refine hP _ ?_; conv => whnf)
      refine r_octetJ hC' ht hJ h3 (by omega) ?_
      repeat (refine hP _ ?_; conv => whnf)
      refine r_isSmall hC' ?_
      repeat (refine hP _ ?_; conv => whnf)
      refine ⟨fun q1 => ?_, fun q => go (qT_iff2.mpr (Or.inl q))⟩
      repeat (refine hP _ ?_; conv => whnf)
      refine r_octetJ hC' ht hJ h3 (by omega) ?_
      repeat (refine hP _ ?_; conv => whnf)
      refine r_isFigure hC' ?_
      repeat (refine hP _ ?_; conv => whnf)
      refine ⟨fun q2 => ?_, fun q => go (qT_iff2.mpr (Or.inr (Or.inl q)))⟩
      repeat (refine hP _ ?_; conv => whnf)
      refine r_octetJ hC' ht hJ h3 (by omega) ?_
      repeat (refine hP _ ?_; conv => whnf)
      refine ⟨fun q3 => out (fun z => ?_), fun q3 => ?_⟩
      · rcases qT_iff2.mp z with z | z | z
        · exact z q1
        · exact z q2
        · exact z.1 q3
      · repeat (refine hP _ ?_; conv => whnf)
        refine r_octetJ hC' ht hJ h3 (by omega) ?_
        repeat (refine hP _ ?_; conv => whnf)
        refine ⟨fun q4 => out (fun z => ?_), fun q4 => go (qT_iff2.mpr (Or.inr (Or.inr ⟨q3, q4⟩)))⟩
        rcases qT_iff2.mp z with z | z | z
        · exact z q1
        · exact z q2
        · exact z.2 q4
  iterate 11 (refine hP _ ?_; conv => whnf)
  have e := loop (tx.length - (p + 1)) (p + 1) (m_up I 30 3 (nI (p + 1))) (m_upL L 30 6 0) (Nat.le_refl _) (by omega) rfl (by simp [m_upr]) (fun _ => by simp [m_uprL, slice_nil, pkB]; rfl) (Fr.rf.up rfl) (by simp [m_upr]) (Fr.rf.upL rfl)
  rw [Nat.sub_self, ← nI_1 p, ← hpos] at e
  exact e
