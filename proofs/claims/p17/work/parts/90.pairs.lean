/-! ===== the calls that change something: the class, then the reference ===== -/
def S_ty : Nat → Nat → Bool := fun p q => p == 1 || p == 2 || p == 32 || (p == 30 && q == 2)
theorem RI.ag {I I' : Nat → Nat → Int32} (h : RI I) (hF : Fr S_ty I I') : RI I' := by
  have t : ∀ p q, 27 ≤ p → (p ≤ 29 ∨ p = 52 ∨ p = 53) → I' p q = I p q := fun p q h1 h2 => hF p q (by unfold S_ty; simp; omega)
  have v : ∀ q, ¬ q = 2 → I' 30 q = I 30 q := fun q h1 => hF 30 q (by unfold S_ty; simp; omega)
  obtain ⟨h1, h2, c, hc, h3, h4⟩ := h
  refine ⟨fun i hi => ?_, ?_, c, hc, ?_, ?_⟩
  · rw [t 29 i (by omega) (by omega), t 53 i (by omega) (by omega)]; exact h1 i hi
  · rw [t 27 3 (by omega) (by omega), v 48 (by omega)]; exact h2
  · rw [v 49 (by omega)]; exact h3
  · simp only [t 27 _ (by omega) (by omega), v 47 (by omega), t 28 _ (by omega) (by omega), t 52 _ (by omega) (by omega)]; exact h4
theorem WI.ty {I I' : Nat → Nat → Int32} {L : Nat → Nat → Int64} (h : WI I L) (hF : Fr S_ty I I') (ht : ∃ tx, TxOk tx ∧ TxC tx I' ∧ TxM tx I') : WI I' L := by
  obtain ⟨-, hw, hB, h21, hR, hU⟩ := h
  refine ⟨ht, hw, hB.of (fun j => hF 46 j rfl), fun e he => ?_, hR.ag hF, hU.ag (hF 8 0 rfl) (hF 30 11 rfl) (hF.mono (fun p q h => ?_)) Fr.rf (hF.mono (fun p q h => ?_)) Fr.rf⟩
  · rw [hF 21 e rfl]; exact h21 e he
  · unfold U_c at h; unfold S_ty; simp at *; omega
  · unfold U_r at h; unfold S_ty; simp at *; omega
def Pl (I I' : Nat → Nat → Int32) : Prop := I' 17 10 = I 17 10 ∧ I' 30 10 = I 30 10
/-- between the class's type and the reference's -/
def TyM (v : Int64) (z r : Int32) (I : Nat → Nat → Int32) (L : Nat → Nat → Int64) : Prop := ∃ I0 tx, WI I0 L ∧ TxOk tx ∧ TxM tx I ∧ Fr S_tx I0 I ∧ (((z < 0 ∨ 8 < z) ∧ r = -2 ∧ TxC tx I) ∨ (z = 0 ∧ r = 0 ∧ TxC [] I) ∨ ∃ k, 1 ≤ k ∧ k ≤ 8 ∧ z = nI k ∧ ((3000 < tx.length + k ∧ r = -4 ∧ TxC tx I) ∨ (tx.length + k ≤ 3000 ∧ r = nI (tx.length + k) ∧ TxC (tx ++ octs v k) I)))
theorem c_type2 {XL : Nat} {XS : Nat → Int32} {n : Nat} {C : mC} {I : Nat → Nat → Int32} {L : Nat → Nat → Int64} {K : mK} {v : Int64} {z : Int32} (hC : m_Ge XL XS (n + 2) C) (h : WI I L) (hK : ∀ r I', TyM v z r I' L → Pl I I' → K (some (.int r)) (m_SH, I', L)) : C 86 [.ref 0, .long v, .int z] (m_SH, I, L) K := by
  have h' := h
  obtain ⟨⟨tx, ht, hc, hm⟩, -⟩ := h'
  refine c_type (n := n) hC ht hc (fun q => hK _ _ ⟨I, tx, h, ht, hm, Fr.rf, Or.inl ⟨q, rfl, hc⟩⟩ ⟨rfl, rfl⟩) (fun q => hK _ _ ⟨I, tx, h, ht, ?_, ?_, Or.inr (Or.inl ⟨q, rfl, ?_⟩)⟩ ⟨rfl, rfl⟩) (fun k h1 h2 h3 h4 => hK _ _ ⟨I, tx, h, ht, hm, Fr.rf, Or.inr (Or.inr ⟨k, h1, h2, h3, Or.inl ⟨h4, rfl, hc⟩⟩)⟩ ⟨rfl, rfl⟩) (fun k h1 h2 h3 h4 I' hI' hF => hK _ _ ⟨I, tx, h, ht, hm.fr hF rfl (fun _ => rfl), hF, Or.inr (Or.inr ⟨k, h1, h2, h3, Or.inr ⟨h4, rfl, hI'⟩⟩)⟩ ⟨hF 17 10 rfl, hF 30 10 rfl⟩)
  · exact hm.fr (S := S_tx) (Fr.rf.up rfl) rfl (fun _ => rfl)
  · exact Fr.rf.up rfl
  · exact ⟨by simp [m_upr]; rfl, fun j hj => absurd hj (by simp)⟩
theorem tx_fr {I I' : Nat → Nat → Int32} {S : Nat → Nat → Bool} {tx : List Nat} (h : TxC tx I) (hF : Fr S I I') (hS : ∀ p q, S p q = true → 30 ≤ p) : TxC tx I' := h.fr hF (by
    cases hs : S 1 1 with
    | false => rfl
    | true => exact absurd (hS _ _ hs) (by omega)) (fun j => by
    cases hs : S 2 j with
    | false => rfl
    | true => exact absurd (hS _ _ hs) (by omega))
theorem r_type2 {XL : Nat} {XS : Nat → Int32} {n : Nat} {C : mC} {I : Nat → Nat → Int32} {L : Nat → Nat → Int64} {K : mK} {v : Int64} {z r : Int32} (hC : m_Ge XL XS (n + 1) C) (h : TyM v z r I L) (hK : ∀ I', WI I' L → Pl I I' → K (some (.int r)) (m_SH, I', L)) : C 103 [.ref 30, .long v, .int z] (m_SH, I, L) K := by
  obtain ⟨I0, tx, hW, ht, hm, hF, hcase⟩ := h
  have hF' : Fr S_ty I0 I := hF.mono (fun p q h => by unfold S_ty at h; unfold S_tx; simp at *; omega)
  have hmt : ∀ I', Fr S_mt I I' → Fr S_ty I0 I' := fun I' hx => hF'.tr (hx.mono (fun p q h => by unfold S_ty at h; unfold S_mt; simp at *; omega))
  have hmm : ∀ p q, S_mt p q = true → 30 ≤ p := fun p q h => by unfold S_mt at h; simp at h; omega
  have hz8 : ∀ k, k ≤ 8 → ¬ (nI k < 0 ∨ 8 < nI k) := fun k hk q => by
    rcases q with q | q
    · exact absurd q (nI_pos (by omega))
    · exact absurd ((nI_ltI (a := 8) (b := k) (by omega) (by omega)).mp q) (by omega)
  have hz0 : ∀ k, 1 ≤ k → k ≤ 8 → ¬ nI k = 0 := fun k h1 hk q => absurd ((nI_eq (a := k) (b := 0) (by omega) (by omega)).mp q) (by omega)
  have inj : ∀ j k, j ≤ 8 → k ≤ 8 → nI j = nI k → j = k := fun j k h1 h2 q => (nI_eq (by omega) (by omega)).mp q
  refine r_type (n := n) hC ht hm (fun q => ?_) (fun q => ?_) (fun k h1 h2 h3 h4 => ?_) (fun k h1 h2 h3 h4 I' hI' hFm => ?_)
  · rcases hcase with ⟨-, rfl, hc⟩ | ⟨rfl, -, -⟩ | ⟨k, k1, k8, rfl, -⟩
    · exact hK _ (hW.ty hF' ⟨tx, ht, hc, hm⟩) ⟨rfl, rfl⟩
    · exact absurd q (by decide)
    · exact absurd q (hz8 k k8)
  · subst q
    rcases hcase with ⟨q, -, -⟩ | ⟨-, rfl, hc⟩ | ⟨k, k1, k8, q, -⟩
    · exact absurd q (by decide)
    · have hx : Fr S_mt I (m_up I 30 2 0) := Fr.rf.up rfl
      refine hK _ (hW.ty (hmt _ hx) ⟨[], ⟨by simp, by simp⟩, tx_fr hc hx hmm, ⟨by simp [m_upr]; rfl, fun j hj => absurd hj (by simp)⟩⟩) ⟨rfl, rfl⟩
    · exact absurd q.symm (hz0 k k1 k8)
  · subst h3
    rcases hcase with ⟨q, -, -⟩ | ⟨q, -, -⟩ | ⟨j, j1, j8, q, hj⟩
    · exact absurd q (hz8 k h2)
    · exact absurd q (hz0 k h1 h2)
    · have := inj k j h2 j8 q
      subst this
      rcases hj with ⟨-, rfl, hc⟩ | ⟨q, -⟩
      · exact hK _ (hW.ty hF' ⟨tx, ht, hc, hm⟩) ⟨rfl, rfl⟩
      · omega
  · subst h3
    rcases hcase with ⟨q, -, -⟩ | ⟨q, -, -⟩ | ⟨j, j1, j8, q, hj⟩
    · exact absurd q (hz8 k h2)
    · exact absurd q (hz0 k h1 h2)
    · have := inj k j h2 j8 q
      subst this
      rcases hj with ⟨q, -⟩ | ⟨-, rfl, hc⟩
      · omega
      · refine hK _ (hW.ty (hmt _ hFm) ⟨tx ++ octs v k, ⟨?_, fun c hc => ?_⟩, tx_fr hc hFm hmm, hI'⟩) ⟨hFm 17 10 rfl, hFm 30 10 rfl⟩
        · rw [List.length_append, octs_len]; exact h4
        · rcases List.mem_append.mp hc with hc | hc
          · exact ht.2 c hc
          · exact octs_lt v k c hc
/-! read -/
def RdM (tx : List Nat) (v t : Int32) (I : Nat → Nat → Int32) (L : Nat → Nat → Int64) : Prop := (TxOk tx ∧ TxM tx I ∧ ∃ m, m ≤ tx.length ∧ TkM tx m) ∧ (WdC L ∧ WdM L) ∧ BB I ∧ (∀ e, e < 4 → ∃ c, c ≤ 16 ∧ I 21 e = nI c) ∧ (∀ i, i < 20 → I 29 i = I 53 i) ∧ (∃ c, c ≤ 120 ∧ I 30 49 = nI c) ∧ (I 1 1 = 0 ∧ I 27 2 = 0 ∧ I 27 3 = 0 ∧ I 27 4 = 0) ∧ CDone (jall tx true (js0 v t)) I L
theorem c_read2 {XL : Nat} {XS : Nat → Int32} {n : Nat} {C : mC} {I : Nat → Nat → Int32} {L : Nat → Nat → Int64} {K : mK} (hC : m_Ge XL XS (n + 42) C) (h : WI I L) (hK : ∀ tx v t I' L', TxC tx I → RdM tx v t I' L' → K (some (.int (jret (jall tx true (js0 v t))))) (m_SH, I', L')) : C 87 [.ref 0] (m_SH, I, L) K := by
  obtain ⟨⟨tx, ht, hc, hm⟩, ⟨hw1, hw2⟩, hB, h21, ⟨r1, -, c, hcc, r3, -⟩, -⟩ := h
  have lo : ∀ p q, 27 < p → S_cr p q = false := fun p q h => by unfold S_cr S_jd S_tk S_kc; simp; omega
  have loL : ∀ p q, ¬ (p = 6 ∨ p = 12 ∨ p = 19 ∨ p = 20 ∨ p = 22) → S_crL p q = false := fun p q h => by unfold S_crL S_jdL S_tkL; simp; omega
  refine c_read (n := n) hC ht hc hw1 h21 (fun m I' L' hml hmk hF hL h21' a1 a2 a3 a4 hD => hK _ _ _ _ _ hc ⟨⟨ht, hm.fr hF (lo _ _ (by omega)) (fun _ => lo _ _ (by omega)), m, hml, hmk⟩, ⟨fun j hj => ?_, hw2.fr hL (fun _ => loL _ _ (by omega))⟩, hB.of (fun j => hF _ _ (lo _ _ (by omega))), h21', fun i hi => ?_, ⟨c, hcc, ?_⟩, ⟨a1, a2, a3, a4⟩, hD⟩)
  · rw [hL 7 j (loL _ _ (by omega))]; exact hw1 j hj
  · rw [hF 29 i (lo _ _ (by omega)), hF 53 i (lo _ _ (by omega))]; exact r1 i hi
  · rw [hF 30 49 (lo _ _ (by omega))]; exact r3
theorem r_read2 {XL : Nat} {XS : Nat → Int32} {n : Nat} {C : mC} {I : Nat → Nat → Int32} {L : Nat → Nat → Int64} {K : mK} {tx : List Nat} {v t : Int32} (hC : m_Ge XL XS (n + 11) C) (h : RdM tx v t I L) (hK : ∀ I' L', WI I' L' → (jall tx true (js0 v t) = jall tx false (js0 v t) → I' 17 10 = I' 30 10) → K (some (.int (jret (jall tx false (js0 v t))))) (m_SH, I', L')) : C 144 [.ref 30] (m_SH, I, L) K := by
  obtain ⟨⟨ht, hm, m, hml, hmk⟩, ⟨hw1, hw2⟩, hB, h21, r1, ⟨c, hcc, r3⟩, ⟨a1, a2, a3, a4⟩, hD⟩ := h
  have lo : ∀ p q, p < 30 → S_re p q = false := fun p q h => by unfold S_re S_rd S_st S_kt; simp; omega
  have loL : ∀ p q, p < 30 ∨ p = 31 → S_rdL p q = false := fun p q h => by unfold S_rdL S_stL; simp; omega
  refine r_read (n := n) v t hC ht hm hw2 hB hmk hml (fun I' L' hF hL hB' b1 b2 b3 hR => hK _ _ ⟨⟨[], ⟨by simp, by simp⟩, ⟨?_, fun j hj => absurd hj (by simp)⟩, ⟨b1, fun j hj => absurd hj (by simp)⟩⟩, ⟨fun j hj => ?_, hw2.fr hL (fun _ => loL _ _ (by omega))⟩, hB', fun e he => ?_, ⟨fun i hi => ?_, ?_, c, hcc, ?_, Or.inl ⟨?_, b2, ?_⟩⟩, ?_⟩ (fun q => ?_))
  · rw [hF 1 1 (lo _ _ (by omega))]; exact a1
  · rw [hL 7 j (loL _ _ (by omega))]; exact hw1 j hj
  · rw [hF 21 e (lo _ _ (by omega))]; exact h21 e he
  · rw [hF 29 i (lo _ _ (by omega)), hF 53 i (by unfold S_re S_rd S_st S_kt; simp)]; exact r1 i hi
  · rw [hF 27 3 (lo _ _ (by omega)), b3]; exact a3
  · rw [hF 30 49 rfl]; exact r3
  · rw [hF 27 4 (lo _ _ (by omega))]; exact a4
  · rw [hF 27 2 (lo _ _ (by omega))]; exact a2
  · rcases Ag.all tx (js0 v t) with ⟨s, e1, e2⟩ | ⟨⟨e, e1⟩, ⟨e', e2⟩⟩
    · rw [e1] at hD
      rw [e2] at hR
      obtain ⟨d1, -, d3⟩ := hD
      obtain ⟨f1, -, f3⟩ := hR
      refine Or.inr ⟨by rw [hF 8 0 (lo _ _ (by omega))]; exact d1, f1, s, d3.ag (hF.mono (fun p q h => lo p q ?_)) (hL.mono (fun p q h => loL p q (Or.inl ?_))), f3, WQ_all e1, AR_all e1⟩
      · unfold U_c at h; simp at h; omega
      · unfold U_cL at h; simp at h; omega
    · rw [e1] at hD
      rw [e2] at hR
      obtain ⟨d1, -, d3⟩ := hD
      obtain ⟨f1, -, f3⟩ := hR
      exact Or.inl ⟨by rw [hF 8 0 (lo _ _ (by omega))]; exact d1, f1, by rw [hF 23 3 (lo _ _ (by omega))]; exact d3, f3⟩
  · rw [hF 17 10 (lo _ _ (by omega))]
    rw [q] at hD
    cases hz : jall tx false (js0 v t) with
    | ok s =>
      rw [hz] at hD hR
      exact hD.2.1.trans hR.2.1.symm
    | error e =>
      rw [hz] at hD hR
      exact hD.2.1.trans hR.2.1.symm
