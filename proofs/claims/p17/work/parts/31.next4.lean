theorem MT_27 {t : Tok} {I : Nat → Nat → Int32} {L : Nat → Nat → Int64} (hk : t.1 = 27) (h5 : I 30 5 = nI t.2.1) (h : I 30 4 = 0) : MT t I L := by
  refine ⟨h5, fun _ => h, ?_, ?_, ?_, ?_, ?_, ?_, ?_, ?_, ?_, ?_, ?_, ?_, ?_⟩ <;> intro z <;> omega
theorem MT_28 {t : Tok} {I : Nat → Nat → Int32} {L : Nat → Nat → Int64} (hk : t.1 = 28) (h5 : I 30 5 = nI t.2.1) (h : I 30 4 = 6) : MT t I L := by
  refine ⟨h5, ?_, fun _ => h, ?_, ?_, ?_, ?_, ?_, ?_, ?_, ?_, ?_, ?_, ?_, ?_⟩ <;> intro z <;> omega
theorem MT_w {t : Tok} {I : Nat → Nat → Int32} {L : Nat → Nat → Int64} (hk : t.1 < 16) (h5 : I 30 5 = nI t.2.1) (h : I 30 4 = 5 ∧ I 30 7 = nI (t.1 - 1)) : MT t I L := by
  refine ⟨h5, ?_, ?_, fun _ => h, ?_, ?_, ?_, ?_, ?_, ?_, ?_, ?_, ?_, ?_, ?_⟩ <;> intro z <;> omega
theorem MT_16 {t : Tok} {I : Nat → Nat → Int32} {L : Nat → Nat → Int64} (hk : t.1 = 16) (h5 : I 30 5 = nI t.2.1) (h : I 30 4 = 1 ∧ L 30 6 = lN (pkB 128 t.2.2.1)) : MT t I L := by
  refine ⟨h5, ?_, ?_, ?_, fun _ => h, ?_, ?_, ?_, ?_, ?_, ?_, ?_, ?_, ?_, ?_⟩ <;> intro z <;> omega
theorem MT_17 {t : Tok} {I : Nat → Nat → Int32} {L : Nat → Nat → Int64} (hk : t.1 = 17) (h5 : I 30 5 = nI t.2.1) (h : I 30 4 = 2 ∧ I 30 7 = nI t.2.2.2.1) : MT t I L := by
  refine ⟨h5, ?_, ?_, ?_, ?_, fun _ => h, ?_, ?_, ?_, ?_, ?_, ?_, ?_, ?_, ?_⟩ <;> intro z <;> omega
theorem MT_18 {t : Tok} {I : Nat → Nat → Int32} {L : Nat → Nat → Int64} (hk : t.1 = 18) (h5 : I 30 5 = nI t.2.1) (h : I 30 4 = 3 ∧ L 30 6 = lN (pkB 256 t.2.2.1) ∧ I 30 7 = nI t.2.2.1.length) : MT t I L := by
  refine ⟨h5, ?_, ?_, ?_, ?_, ?_, fun _ => h, ?_, ?_, ?_, ?_, ?_, ?_, ?_, ?_⟩ <;> intro z <;> omega
/-- a sign's own number -/
def sgC (k : Nat) : Int32 := if k = 19 then 123 else if k = 20 then 125 else if k = 21 then 58 else if k = 22 then 59 else if k = 23 then 44 else if k = 24 then 61 else if k = 25 then 45 else 62
theorem MT_s {t : Tok} {I : Nat → Nat → Int32} {L : Nat → Nat → Int64} (hk : 19 ≤ t.1) (hk2 : t.1 ≤ 26) (h5 : I 30 5 = nI t.2.1) (h : I 30 4 = 4 ∧ I 30 7 = sgC t.1) : MT t I L := by
  refine ⟨h5, ?_, ?_, ?_, ?_, ?_, ?_, ?_, ?_, ?_, ?_, ?_, ?_, ?_, ?_⟩ <;> intro z <;> first | omega | (refine ⟨h.1, ?_⟩; rw [h.2, z]; rfl)
theorem sgN_C {x : Int32} (h : ¬ sgN x = 28) : sgC (sgN x) = x ∧ 19 ≤ sgN x ∧ sgN x ≤ 25 := by
  unfold sgN at h ⊢
  repeat' split
  all_goals first | (refine ⟨?_, by decide, by decide⟩; symm; assumption) | (exfalso; simp_all)
theorem slice_len2 {tx : List Nat} {i : Nat} (hi : i ≤ tx.length) {q : Int32 → Bool} : (slice tx i (scan q tx i)).length = scan q tx i - i := slice_len (scan_le hi).2
set_option maxHeartbeats 2000000 in
theorem r_next {XL : Nat} {XS : Nat → Int32} {n : Nat} {C : mC} {I : Nat → Nat → Int32} {L : Nat → Nat → Int64} {K : mK} {tx : List Nat} {f : Nat} (hC : m_Ge XL XS (n + 3) C) (ht : TxOk tx) (h : TxM tx I) (hw : WdM L) (hf : f ≤ tx.length) (hpos : I 30 3 = nI f)
    (hK : ∀ I' L', MT (tokAt tx (scan qB tx f)) I' L' → (¬ (tokAt tx (scan qB tx f)).1 = 28 → I' 30 3 = nI (tokAt tx (scan qB tx f)).2.2.2.2) → Fr S_nx I I' → Fr S_nxL L L' → K none (m_SH, I', L')) : C 107 [.ref 30] (m_SH, I, L) K := by
  have hl := ht.1
  have hb := scan_le (q := qB) (tx := tx) (i := f) hf
  refine e_X9_next hC (Nat.le_of_ble_eq_true rfl) ?_
  intro C' hC' P hP
  have hex : ∀ (J : Nat → Nat → Int32), J 30 3 = nI (scan qB tx f) → Fr S_nx I J → P (65, [some (.ref 30), none], [], (m_SH, J, L), 0, 0) := by
    generalize scan qB tx f = p at hb hK
    intro J h3 hFI
    have hJ2 : ∀ x, TxM tx (m_up J 30 5 x) := fun x => h.fr (hFI.up rfl) rfl (fun _ => rfl)
    have h32 : ∀ x, m_up J 30 5 x 30 3 = nI p := fun x => by simp [m_upr, h3]
    repeat (refine hP _ ?_; conv => whnf)
    refine r_octetJ hC' ht (hJ2 _) (h32 _) (by omega) ?_
    repeat (refine hP _ ?_; conv => whnf)
    refine ⟨fun q => ?_, fun q => ?_⟩
    · -- the end
      have hp : p = tx.length := by
        by_cases hz : p < tx.length
        · rw [toc_lt hz] at q
          exact absurd q (nI_pos (by have := tx_lt ht p; omega))
        · omega
      have htk : tokAt tx p = (27, p, [], 0, p) := by
        unfold tokAt
        rw [if_pos (by omega)]
      rw [htk] at hK
      repeat (refine hP _ ?_; conv => whnf)
      exact hK _ L (MT_27 rfl (by simp [m_upr, h3]) (by simp [m_upr])) (fun _ => by simp [m_upr, h3]) ((hFI.up rfl).up rfl) Fr.rf
    · have hp : p < tx.length := by
        by_cases hz : p < tx.length
        · exact hz
        · exact absurd (by rw [toc_ge (by omega)]; decide) q
      unfold tokAt at hK
      rw [if_neg (by omega)] at hK
      repeat (refine hP _ ?_; conv => whnf)
      refine r_isSmall hC' ?_
      repeat (refine hP _ ?_; conv => whnf)
      refine ⟨fun q1 => ?_, fun q1 => ?_⟩
      · rw [if_neg (by rw [q1]; decide)] at hK
        repeat (refine hP _ ?_; conv => whnf)
        refine r_isFigure hC' ?_
        repeat (refine hP _ ?_; conv => whnf)
        refine ⟨fun q2 => ?_, fun q2 => ?_⟩
        · rw [if_neg (by rw [q2]; decide)] at hK
          repeat (refine hP _ ?_; conv => whnf)
          refine ⟨fun q3 => ?_, fun q3 => ?_⟩
          · rw [if_pos q3] at hK
            repeat (refine hP _ ?_; conv => whnf)
            refine r_nextText hC' ht (hJ2 _) hp (h32 _) (fun I' L' k1 k2 k3 k4 k5 => ?_)
            repeat (refine hP _ ?_; conv => whnf)
            have h5 : I' 30 5 = nI p := by rw [k4]; simp [m_upr, h3]
            by_cases g : toc tx (scan qT tx (p + 1)) = 34 ∧ scan qT tx (p + 1) - (p + 1) ≤ 8
            · rw [if_pos g] at hK
              obtain ⟨a1, a2, a3, a4⟩ := k2 g
              exact hK I' L' (MT_18 rfl h5 ⟨a2, a4, by rw [a3, slice_len2 (by omega)]⟩) (fun _ => a1) ((hFI.up rfl).tr k3) k5
            · rw [if_neg g] at hK
              exact hK I' L' (MT_28 rfl h5 (k1 g)) (fun z => absurd rfl z) ((hFI.up rfl).tr k3) k5
          · rw [if_neg q3] at hK
            -- signs
            have tail : ∀ (b : Int32) (G : Nat → Nat → Int32), G 30 4 = b → G 30 3 = nI p → G 30 5 = nI p → Fr S_nx I G → (b = (if sgN (toc tx p) = 28 then 6 else 4)) → P (187, [some (.ref 30), some (.int (toc tx p))], [], (m_SH, G, L), 0, 0) := by
              intro b G g4 g3 g5 gF hbb
              have hG : ∀ x y, TxM tx (m_up (m_up G 30 7 x) 30 3 y) := fun x y => h.fr ((gF.up rfl).up rfl) rfl (fun _ => rfl)
              have e3 : ∀ x, m_up (m_up G 30 7 x) 30 3 (m_up G 30 7 x 30 3 + 1) 30 3 = nI (p + 1) := fun x => by simp [m_upr, g3, nI_1]
              have fin1 : ¬ (toc tx p = 45 ∧ toc tx (p + 1) = 62) → K none (m_SH, m_up (m_up G 30 7 (toc tx p)) 30 3 (m_up G 30 7 (toc tx p) 30 3 + 1), L) := by
                intro hn
                rw [if_neg hn] at hK
                by_cases g : sgN (toc tx p) = 28
                · rw [if_pos g] at hK hbb
                  exact hK _ L (MT_28 rfl (by simp [m_upr, g5]) (by simp [m_upr, g4, hbb])) (fun z => absurd rfl z) ((gF.up rfl).up rfl) Fr.rf
                · rw [if_neg g] at hK hbb
                  obtain ⟨c1, c2, c3⟩ := sgN_C g
                  exact hK _ L (MT_s c2 (by omega) (by simp [m_upr, g5]) ⟨by simp [m_upr, g4, hbb], by simp only [c1]; simp [m_upr]⟩) (fun _ => e3 _) ((gF.up rfl).up rfl) Fr.rf
              repeat (refine hP _ ?_; conv => whnf)
              refine ⟨fun q4 => ?_, fun q4 => ?_⟩
              · repeat (refine hP _ ?_; conv => whnf)
                refine r_octetJ hC' ht (hG _ _) (e3 _) (by omega) ?_
                repeat (refine hP _ ?_; conv => whnf)
                refine ⟨fun q5 => ?_, fun q5 => ?_⟩
                · rw [if_pos ⟨q4, q5⟩] at hK
                  have g45 : sgN (toc tx p) = 25 := by rw [q4]; decide
                  rw [if_neg (by rw [g45]; decide)] at hbb
                  repeat (refine hP _ ?_; conv => whnf)
                  exact hK _ L (MT_s (by simp) (by simp) (by simp [m_upr, g5]) ⟨by simp [m_upr, g4, hbb], by simp [m_upr]; rfl⟩) (fun _ => by simp [m_upr, g3, show (1 : Int32) = nI 1 from rfl, nI_add]) ((((gF.up rfl).up rfl).up rfl).up rfl) Fr.rf
                · repeat (refine hP _ ?_; conv => whnf)
                  exact fin1 (fun z => q5 z.2)
              · repeat (refine hP _ ?_; conv => whnf)
                exact fin1 (fun z => q4 z.1)
            have t4 : ¬ sgN (toc tx p) = 28 → P (178, [some (.ref 30), some (.int (toc tx p))], [.ref 30], (m_SH, m_up J 30 5 (J 30 3), L), 0, 0) := by
              intro g
              iterate 3 (refine hP _ ?_; conv => whnf)
              exact tail 4 _ (by simp [m_upr]) (by simp [m_upr, h3]) (by simp [m_upr, h3]) ((hFI.up rfl).up rfl) (by rw [if_neg g])
            repeat (refine hP _ ?_; conv => whnf)
            refine ⟨fun z => t4 (by rw [z]; decide), fun z1 => ?_⟩
            repeat (refine hP _ ?_; conv => whnf)
            refine ⟨fun z => t4 (by rw [z]; decide), fun z2 => ?_⟩
            repeat (refine hP _ ?_; conv => whnf)
            refine ⟨fun z => t4 (by rw [z]; decide), fun z3 => ?_⟩
            repeat (refine hP _ ?_; conv => whnf)
            refine ⟨fun z => t4 (by rw [z]; decide), fun z4 => ?_⟩
            repeat (refine hP _ ?_; conv => whnf)
            refine ⟨fun z => t4 (by rw [z]; decide), fun z5 => ?_⟩
            repeat (refine hP _ ?_; conv => whnf)
            refine ⟨fun z => t4 (by rw [z]; decide), fun z6 => ?_⟩
            repeat (refine hP _ ?_; conv => whnf)
            refine ⟨fun z => t4 (by rw [z]; decide), fun z7 => ?_⟩
            iterate 2 (refine hP _ ?_; conv => whnf)
            exact tail 6 _ (by simp [m_upr]) (by simp [m_upr, h3]) (by simp [m_upr, h3]) ((hFI.up rfl).up rfl) (by rw [if_pos (by simp [sgN, z1, z2, z3, z4, z5, z6, z7])])
        · rw [if_pos ((isFg_01 _).resolve_left q2)] at hK
          repeat (refine hP _ ?_; conv => whnf)
          refine r_nextNumber hC' ht (hJ2 _) hp (h32 _) (fun I' k1 k2 k3 k4 => ?_)
          repeat (refine hP _ ?_; conv => whnf)
          have h5 : I' 30 5 = nI p := by rw [k4]; simp [m_upr, h3]
          by_cases g : 9 < scan qF tx p - p
          · rw [if_pos g] at hK
            exact hK I' L (MT_28 rfl h5 (k1 g)) (fun z => absurd rfl z) ((hFI.up rfl).tr k3) Fr.rf
          · rw [if_neg g] at hK
            obtain ⟨a1, a2, a3⟩ := k2 g
            exact hK I' L (MT_17 rfl h5 ⟨a2, a3⟩) (fun _ => a1) ((hFI.up rfl).tr k3) Fr.rf
      · rw [if_pos ((isSm_01 _).resolve_left q1)] at hK
        repeat (refine hP _ ?_; conv => whnf)
        refine r_nextName hC' ht (hJ2 _) hw hp (h32 _) (fun I' L' k1 k2 k3 k4 k5 => ?_)
        repeat (refine hP _ ?_; conv => whnf)
        have h5 : I' 30 5 = nI p := by rw [k4]; simp [m_upr, h3]
        by_cases g : 8 < scan qN tx p - p
        · rw [if_pos g] at hK
          exact hK I' L' (MT_28 rfl h5 (k1 g)) (fun z => absurd rfl z) ((hFI.up rfl).tr k3) k5
        · rw [if_neg g] at hK
          obtain ⟨a1, a2, a3⟩ := k2 g
          have hle := wordIx_le (cs := slice tx p (scan qN tx p))
          by_cases gw : wordIx (slice tx p (scan qN tx p)) < 15
          · exact hK I' L' (MT_w (by simp only; omega) h5 (a2 gw)) (fun _ => a1) ((hFI.up rfl).tr k3) k5
          · have g15 : wordIx (slice tx p (scan qN tx p)) = 15 := by omega
            exact hK I' L' (MT_16 (by simp only; omega) h5 (a3 g15)) (fun _ => a1) ((hFI.up rfl).tr k3) k5
  have loop : ∀ (m j : Nat) (J : Nat → Nat → Int32), j + m = tx.length → scan qB tx j = scan qB tx f → J 30 3 = nI j → Fr S_nx I J → P (0, [some (.ref 30), none], [], (m_SH, J, L), 0, 0) := by
    intro m
    induction m with
    | zero =>
      intro j J hj hs h3 hFI
      have hJ := h.fr hFI rfl (fun _ => rfl)
      rw [scan_ge (by omega)] at hs
      have htc : toc tx j = -1 := toc_ge (by omega)
      repeat (refine hP _ ?_; conv => whnf)
      refine r_octetJ hC' ht hJ h3 (by omega) ?_
      rw [htc]
      repeat (refine hP _ ?_; conv => whnf)
      refine ⟨fun z => absurd z (by decide), fun _ => ?_⟩
      repeat (refine hP _ ?_; conv => whnf)
      refine r_octetJ hC' ht hJ h3 (by omega) ?_
      rw [htc]
      repeat (refine hP _ ?_; conv => whnf)
      refine ⟨fun z => absurd z (by decide), fun _ => ?_⟩
      repeat (refine hP _ ?_; conv => whnf)
      refine r_octetJ hC' ht hJ h3 (by omega) ?_
      rw [htc]
      repeat (refine hP _ ?_; conv => whnf)
      refine ⟨fun z => absurd z (by decide), fun _ => ?_⟩
      repeat (refine hP _ ?_; conv => whnf)
      refine r_octetJ hC' ht hJ h3 (by omega) ?_
      rw [htc]
      repeat (refine hP _ ?_; conv => whnf)
      refine ⟨fun z => absurd z (by decide), fun _ => ?_⟩
      exact hex J (by rw [← hs]; exact h3) hFI
    | succ m ih =>
      intro j J hj hs h3 hFI
      have hJ := h.fr hFI rfl (fun _ => rfl)
      have go : qB (toc tx j) = true → P (52, [some (.ref 30), none], [], (m_SH, J, L), 0, 0) := by
        intro hq
        rcases scan_at (q := qB) (by omega) hs with ⟨-, hs2, -⟩ | ⟨hn, -⟩
        · iterate 7 (refine hP _ ?_; conv => whnf)
          have e := ih (j + 1) (m_up J 30 3 (nI (j + 1))) (by omega) hs2 (by simp [m_upr]) (hFI.up rfl)
          rw [← nI_1, ← h3] at e
          exact e
        · exact absurd hq hn
      repeat (refine hP _ ?_; conv => whnf)
      refine r_octetJ hC' ht hJ h3 (by omega) ?_
      repeat (refine hP _ ?_; conv => whnf)
      refine ⟨fun z => go (by simp [qB, z]), fun z1 => ?_⟩
      repeat (refine hP _ ?_; conv => whnf)
      refine r_octetJ hC' ht hJ h3 (by omega) ?_
      repeat (refine hP _ ?_; conv => whnf)
      refine ⟨fun z => go (by simp [qB, z]), fun z2 => ?_⟩
      repeat (refine hP _ ?_; conv => whnf)
      refine r_octetJ hC' ht hJ h3 (by omega) ?_
      repeat (refine hP _ ?_; conv => whnf)
      refine ⟨fun z => go (by simp [qB, z]), fun z3 => ?_⟩
      repeat (refine hP _ ?_; conv => whnf)
      refine r_octetJ hC' ht hJ h3 (by omega) ?_
      repeat (refine hP _ ?_; conv => whnf)
      refine ⟨fun z => go (by simp [qB, z]), fun z4 => ?_⟩
      rcases scan_at (q := qB) (by omega) hs with ⟨hq, -, -⟩ | ⟨-, hs2⟩
      · exact absurd hq (by simp [qB, z1, z2, z3, z4])
      · exact hex J (by rw [hs2]; exact h3) hFI
  exact loop (tx.length - f) f I (by omega) rfl hpos Fr.rf
