theorem r_octetJ {XL : Nat} {XS : Nat → Int32} {n : Nat} {C : mC} {I : Nat → Nat → Int32} {L : Nat → Nat → Int64} {K : mK} {tx : List Nat} {j : Nat} {x : Int32} (hC : m_Ge XL XS (n + 1) C) (ht : TxOk tx) (h : TxM tx I) (hx : x = nI j) (hj : j < 2 ^ 31) (hK : K (some (.int (toc tx j))) (m_SH, I, L)) : C 104 [.ref 30, .int x] (m_SH, I, L) K := by
  subst hx
  exact r_octet' hC ht h hj hK
set_option maxHeartbeats 1000000 in
theorem r_nextName {XL : Nat} {XS : Nat → Int32} {n : Nat} {C : mC} {I : Nat → Nat → Int32} {L : Nat → Nat → Int64} {K : mK} {tx : List Nat} {p : Nat} (hC : m_Ge XL XS (n + 2) C) (ht : TxOk tx) (h : TxM tx I) (hw : WdM L) (hp : p < tx.length) (hpos : I 30 3 = nI p)
    (hK : ∀ I' L', (8 < scan qN tx p - p → I' 30 4 = 6) → (¬ 8 < scan qN tx p - p → I' 30 3 = nI (scan qN tx p) ∧ (wordIx (slice tx p (scan qN tx p)) < 15 → I' 30 4 = 5 ∧ I' 30 7 = nI (wordIx (slice tx p (scan qN tx p)))) ∧ (wordIx (slice tx p (scan qN tx p)) = 15 → I' 30 4 = 1 ∧ L' 30 6 = lN (pkB 128 (slice tx p (scan qN tx p))))) → Fr S_nx I I' → I' 30 5 = I 30 5 → Fr S_nxL L L' → K none (m_SH, I', L')) : C 108 [.ref 30] (m_SH, I, L) K := by
  have hl := ht.1
  have hb := scan_le (q := qN) (tx := tx) (i := p) (by omega)
  refine e_X9_nextName hC (Nat.le_of_ble_eq_true rfl) ?_
  intro C' hC' P hP
  -- the words
  have wl : ∀ (m k : Nat) (J : Nat → Nat → Int32) (M : Nat → Nat → Int64), ¬ 8 < scan qN tx p - p → k + m = 15 → J 30 4 = 1 → (∀ i, i < k → ¬ wordL.getD i [] = slice tx p (scan qN tx p)) → J 30 3 = nI (scan qN tx p) → M 30 6 = lN (pkB 128 (slice tx p (scan qN tx p))) → Fr S_nx I J → J 30 5 = I 30 5 → Fr S_nxL L M → P (101, [some (.ref 30), some (.int (nI (scan qN tx p - p))), some (.int (nI k))], [], (m_SH, J, M), 0, 0) := by
    intro m
    induction m with
    | zero =>
      intro k J M h8 hk h4 hno h3 h6 hFI hF5 hFL
      have hk15 : k = 15 := by omega
      subst hk15
      repeat (refine hP _ ?_; conv => whnf)
      refine ⟨fun q => absurd q (by decide), fun _ => ?_⟩
      repeat (refine hP _ ?_; conv => whnf)
      have hwx := wordIx_none hno
      exact hK J M (fun z => absurd z h8) (fun _ => ⟨h3, fun z => by omega, fun _ => ⟨h4, h6⟩⟩) hFI hF5 hFL
    | succ m ih =>
      intro k J M h8 hk h4 hno h3 h6 hFI hF5 hFL
      have hcs := nm_slice ht (i := p) (by omega) (by omega)
      have hwM := hw.fr hFL (fun _ => rfl)
      repeat (refine hP _ ?_; conv => whnf)
      refine ⟨fun _ => ?_, fun q => absurd (show nI k < 15 from nI_lt (a := k) (b := 15) (by omega) (by omega)) q⟩
      repeat (refine hP _ ?_; conv => whnf)
      rw [h4]
      refine ⟨fun _ => ?_, fun q => absurd rfl q⟩
      repeat (refine hP _ ?_; conv => whnf)
      refine ⟨vp_in_nI (by omega) (by omega), ?_⟩
      repeat (refine hP _ ?_; conv => whnf)
      rw [nI_clamp (by omega), lg_cmp_eq, h6, word_srch7 hwM hcs k (by omega)]
      refine ⟨fun q => ?_, fun q => ?_⟩
      · have hwx := wordIx_at (by omega) q hno
        iterate 8 (refine hP _ ?_; conv => whnf)
        -- the next turn ends it
        repeat (refine hP _ ?_; conv => whnf)
        refine ⟨fun _ => ?_, fun _ => ?_⟩
        · repeat (refine hP _ ?_; conv => whnf)
          rw [m_upr, if_pos rfl, if_neg (by decide), m_upr, if_pos rfl, if_pos rfl]
          refine ⟨fun z => absurd z (by decide), fun _ => ?_⟩
          repeat (refine hP _ ?_; conv => whnf)
          exact hK _ M (fun z => absurd z h8) (fun _ => ⟨by simp [m_upr, h3], fun _ => by simp [m_upr, hwx], fun z => by omega⟩) ((hFI.up rfl).up rfl) (by simp [m_upr, hF5]) hFL
        · repeat (refine hP _ ?_; conv => whnf)
          exact hK _ M (fun z => absurd z h8) (fun _ => ⟨by simp [m_upr, h3], fun _ => by simp [m_upr, hwx], fun z => by omega⟩) ((hFI.up rfl).up rfl) (by simp [m_upr, hF5]) hFL
      · iterate 2 (refine hP _ ?_; conv => whnf)
        have e := ih (k + 1) J M h8 (by omega) h4 (fun i hi => by
          by_cases hik : i = k
          · subst hik; exact q
          · exact hno i (by omega)) h3 h6 hFI hF5 hFL
        rw [← nI_1] at e
        exact e
  -- behind the signs
  have hex : ∀ (J : Nat → Nat → Int32) (M : Nat → Nat → Int64), J 30 3 = nI (scan qN tx p) → (scan qN tx p - p ≤ 8 → M 30 6 = lN (pkB 128 (slice tx p (scan qN tx p)))) → Fr S_nx I J → J 30 5 = I 30 5 → Fr S_nxL L M → P (83, [some (.ref 30), some (.int (nI (scan qN tx p - p))), none], [], (m_SH, J, M), 0, 0) := by
    intro J M h3 h6 hFI hF5 hFL
    repeat (refine hP _ ?_; conv => whnf)
    refine ⟨fun q => ?_, fun q => ?_⟩
    · have h8 := (nI_ltI (a := 8) (by omega) (by omega)).mp q
      repeat (refine hP _ ?_; conv => whnf)
      refine ⟨fun _ => ?_, fun z => absurd (by decide) z⟩
      repeat (refine hP _ ?_; conv => whnf)
      rw [m_upr, if_pos rfl, if_pos rfl]
      refine ⟨fun z => absurd z (by decide), fun _ => ?_⟩
      repeat (refine hP _ ?_; conv => whnf)
      exact hK _ M (fun _ => by simp [m_upr]) (fun z => absurd h8 z) (hFI.up rfl) (by simp [m_upr, hF5]) hFL
    · have h8 : ¬ 8 < scan qN tx p - p := fun z => q (nI_lt (a := 8) z (by omega))
      iterate 4 (refine hP _ ?_; conv => whnf)
      exact wl 15 0 _ M h8 (by omega) (by simp [m_upr]) (fun i hi => by omega) (by simp [m_upr, h3]) (h6 (by omega)) (hFI.up rfl) (by simp [m_upr, hF5]) hFL
  have loop : ∀ (m j : Nat) (J : Nat → Nat → Int32) (M : Nat → Nat → Int64), p ≤ j → j + m = tx.length → scan qN tx j = scan qN tx p → J 30 3 = nI j → (j - p ≤ 8 → M 30 6 = lN (pkB 128 (slice tx p j))) → Fr S_nx I J → J 30 5 = I 30 5 → Fr S_nxL L M → P (12, [some (.ref 30), some (.int (nI (j - p))), none], [], (m_SH, J, M), 0, 0) := by
    intro m
    induction m with
    | zero =>
      intro j J M hpj hj hs h3 h6 hFI hF5 hFL
      have hJ := h.fr hFI rfl (fun _ => rfl)
      have hqe := (q_end (tx := tx) (j := j) (by omega)).1
      rw [scan_ge (by omega)] at hs
      repeat (refine hP _ ?_; conv => whnf)
      refine r_octetJ hC' ht hJ h3 (by omega) ?_
      repeat (refine hP _ ?_; conv => whnf)
      refine r_isSmall hC' ?_
      repeat (refine hP _ ?_; conv => whnf)
      refine ⟨fun q => ?_, fun q => absurd (qN_iff.mpr (Or.inl q)) hqe⟩
      repeat (refine hP _ ?_; conv => whnf)
      refine r_octetJ hC' ht hJ h3 (by omega) ?_
      repeat (refine hP _ ?_; conv => whnf)
      refine r_isFigure hC' ?_
      repeat (refine hP _ ?_; conv => whnf)
      refine ⟨fun q => ?_, fun q => absurd (qN_iff.mpr (Or.inr q)) hqe⟩
      have e := hex J M (by rw [← hs]; exact h3) (by rw [← hs]; exact h6) hFI hF5 hFL
      rw [← hs] at e
      exact e
    | succ m ih =>
      intro j J M hpj hj hs h3 h6 hFI hF5 hFL
      have hJ := h.fr hFI rfl (fun _ => rfl)
      have go : qN (toc tx j) = true → P (40, [some (.ref 30), some (.int (nI (j - p))), none], [], (m_SH, J, M), 0, 0) := by
        intro hq
        rcases scan_at (q := qN) (by omega) hs with ⟨-, hs2, hlt⟩ | ⟨hn, -⟩
        · repeat (refine hP _ ?_; conv => whnf)
          refine ⟨fun q => ?_, fun q => ?_⟩
          · have h8 := (nI_ltI (b := 8) (by omega) (by omega)).mp q
            repeat (refine hP _ ?_; conv => whnf)
            refine r_octetJ hC' ht hJ h3 (by omega) ?_
            rw [h6 (by omega)]
            have hst := pk7_step (tx := tx) (i := p) (j := j) hpj (by omega) h8 (fun c hc => by
              have h1 := slice_q (q := qN) (tx := tx) (i := p) (by omega) (j := j + 1) (by omega) c hc
              rcases qN_rng c (ht.2 c (slice_mem hc)) h1 with h | h <;> omega)
            iterate 11 (refine hP _ ?_; conv => whnf)
            have e := ih (j + 1) (m_up J 30 3 (nI (j + 1))) (m_upL M 30 6 (lN (pkB 128 (slice tx p (j + 1))))) (by omega) (by omega) hs2 (by simp [m_upr]) (fun _ => by simp [m_uprL]) (hFI.up rfl) (by simp [m_upr, hF5]) (hFL.upL rfl)
            rw [show j + 1 - p = (j - p) + 1 by omega, ← nI_1, ← nI_1, ← h3, ← hst] at e
            exact e
          · have h8 : ¬ j - p < 8 := fun z => q (nI_lt (b := 8) z (by omega))
            iterate 8 (refine hP _ ?_; conv => whnf)
            have e := ih (j + 1) (m_up J 30 3 (nI (j + 1))) M (by omega) (by omega) hs2 (by simp [m_upr]) (fun z => by omega) (hFI.up rfl) (by simp [m_upr, hF5]) hFL
            rw [show j + 1 - p = (j - p) + 1 by omega, ← nI_1, ← nI_1, ← h3] at e
            exact e
        · exact absurd hq hn
      repeat (refine hP _ ?_; conv => whnf)
      refine r_octetJ hC' ht hJ h3 (by omega) ?_
      repeat (refine hP _ ?_; conv => whnf)
      refine r_isSmall hC' ?_
      repeat (refine hP _ ?_; conv => whnf)
      refine ⟨fun q => ?_, fun q => go (qN_iff.mpr (Or.inl q))⟩
      repeat (refine hP _ ?_; conv => whnf)
      refine r_octetJ hC' ht hJ h3 (by omega) ?_
      repeat (refine hP _ ?_; conv => whnf)
      refine r_isFigure hC' ?_
      repeat (refine hP _ ?_; conv => whnf)
      refine ⟨fun q2 => ?_, fun q2 => go (qN_iff.mpr (Or.inr q2))⟩
      have hn : ¬ qN (toc tx j) = true := fun z => by rcases qN_iff.mp z with z | z; exact z q; exact z q2
      rcases scan_at (q := qN) (by omega) hs with ⟨hq, -, -⟩ | ⟨-, hs2⟩
      · exact absurd hq hn
      · have e := hex J M (by rw [hs2]; exact h3) (by rw [hs2]; exact h6) hFI hF5 hFL
        rw [hs2] at e
        exact e
  iterate 8 (refine hP _ ?_; conv => whnf)
  have e := loop (tx.length - p) p (m_up I 30 4 1) (m_upL L 30 6 0) (Nat.le_refl _) (by omega) rfl (by simp [m_upr, hpos]) (fun _ => by simp [m_uprL, slice_nil, pkB]; rfl) (Fr.rf.up rfl) (by simp [m_upr]) (Fr.rf.upL rfl)
  rw [Nat.sub_self] at e
  exact e
