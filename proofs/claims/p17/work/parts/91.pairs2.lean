/-! run, runNone -/
def WU (I : Nat → Nat → Int32) (L : Nat → Nat → Int64) : Prop := (∃ tx, TxOk tx ∧ TxC tx I ∧ TxM tx I) ∧ (WdC L ∧ WdM L) ∧ BB I ∧ (∀ e, e < 4 → ∃ c, c ≤ 16 ∧ I 21 e = nI c) ∧ UI I L
theorem WI.mk {I : Nat → Nat → Int32} {L : Nat → Nat → Int64} (h : WU I L) (hR : RI I) : WI I L := ⟨h.1, h.2.1, h.2.2.1, h.2.2.2.1, hR, h.2.2.2.2⟩
theorem WI.wu {I : Nat → Nat → Int32} {L : Nat → Nat → Int64} (h : WI I L) : WU I L := ⟨h.1, h.2.1, h.2.2.1, h.2.2.2.1, h.2.2.2.2.2⟩
theorem WI.ri {I : Nat → Nat → Int32} {L : Nat → Nat → Int64} (h : WI I L) : RI I := h.2.2.2.2.1
theorem WI.ui {I : Nat → Nat → Int32} {L : Nat → Nat → Int64} (h : WI I L) : UI I L := h.2.2.2.2.2
def S_rn : Nat → Nat → Bool := fun p q => p == 27 || p == 28 || p == 29 || p == 52 || p == 53 || (p == 30 && (q == 47 || q == 48 || q == 49))
theorem WU.ag {I I' : Nat → Nat → Int32} {L : Nat → Nat → Int64} (h : WU I L) (hF : Fr S_rn I I') : WU I' L := by
  obtain ⟨⟨tx, t1, t2, t3⟩, hw, hB, h21, hU⟩ := h
  refine ⟨⟨tx, t1, t2.fr hF rfl (fun _ => rfl), t3.fr hF rfl (fun _ => rfl)⟩, hw, hB.of (fun j => hF 46 j rfl), fun e he => ?_, hU.ag (hF 8 0 rfl) (hF 30 11 rfl) (hF.mono (fun p q h => ?_)) Fr.rf (hF.mono (fun p q h => ?_)) Fr.rf⟩
  · rw [hF 21 e rfl]; exact h21 e he
  · unfold U_c at h; unfold S_rn; simp at *; omega
  · unfold U_r at h; unfold S_rn; simp at *; omega
theorem S_ru_rn {p q : Nat} (h : S_rn p q = false) : S_ru p q = false := by
  unfold S_rn at h; unfold S_ru S_go; simp at *; omega
theorem S_rg_rn {p q : Nat} (h : S_rn p q = false) : S_rg p q = false := by
  unfold S_rn at h; unfold S_rg; simp at *; omega
def RuM (v fl r : Int32) (I : Nat → Nat → Int32) (L : Nat → Nat → Int64) : Prop := (I 30 11 = 0 ∧ r = -3 ∧ WI I L) ∨ (I 30 11 = 1 ∧ ∃ s tx, (UR s I L ∧ WQ s ∧ AR s ∧ TxOk tx ∧ TxM tx I) ∧ ((s.srt = 2 ∧ v < 0 ∧ r = -2 ∧ WI I L) ∨ (¬ (s.srt = 2 ∧ v < 0) ∧ ∃ nm, (∀ i, i < 20 → I 53 i = nm i) ∧ r = (jrun s tx v fl nm).1.1 ∧ TrR 28 29 (jrun s tx v fl nm).2.1 (jrun s tx v fl nm).2.2 I ∧ I 27 2 = nI (jrun s tx v fl nm).2.1.length ∧ (jrun s tx v fl nm).2.1.length ≤ 120 ∧ I 27 3 = (jrun s tx v fl nm).1.2 ∧ I 27 4 = 1 ∧ WU I L)))
theorem c_run2 {XL : Nat} {XS : Nat → Int32} {n : Nat} {C : mC} {I : Nat → Nat → Int32} {L : Nat → Nat → Int64} {K : mK} {v fl : Int32} (hC : m_Ge XL XS (n + 4) C) (h : WI I L) (hK : ∀ r I', RuM v fl r I' L → Pl I I' → K (some (.int r)) (m_SH, I', L)) : C 91 [.ref 0, .int v, .int fl] (m_SH, I, L) K := by
  rcases h.ui with ⟨h1, h2, -, -⟩ | ⟨h1, h2, s, hUC, hUR, hW, hA⟩
  · exact c_runN (n := n) hC h1 (hK _ _ (Or.inl ⟨h2, rfl, h⟩) ⟨rfl, rfl⟩)
  · obtain ⟨tx, t1, t2, t3⟩ := h.1
    have r1 := h.ri.1
    refine c_run (n := n) (nm := fun i => I 53 i) hC h1 hUC hW hA t1 t2 r1 (fun z => hK _ _ (Or.inr ⟨h2, s, tx, ⟨hUR, hW, hA, t1, t3⟩, Or.inl ⟨z.1, z.2, rfl, h⟩⟩) ⟨rfl, rfl⟩) (fun z I' a1 a2 a3 a4 a5 hF => ?_)
    have hF' : Fr S_rn I I' := hF.mono (fun _ _ => S_ru_rn)
    have hWU := h.wu.ag hF'
    refine hK _ _ (Or.inr ⟨by rw [hF' 30 11 rfl]; exact h2, s, tx, ⟨hUR.ag (hF'.mono (fun p q h => ?_)) Fr.rf, hW, hA, t1, t3.fr hF' rfl (fun _ => rfl)⟩, Or.inr ⟨z, fun i => I 53 i, fun i _ => hF 53 i ?_, rfl, a1, a2, a3, a4, a5, hWU⟩⟩) ⟨hF' 17 10 rfl, hF' 30 10 rfl⟩
    · unfold U_r at h; unfold S_rn; simp at *; omega
    · unfold S_ru S_go; simp
theorem r_run2 {XL : Nat} {XS : Nat → Int32} {n : Nat} {C : mC} {I : Nat → Nat → Int32} {L : Nat → Nat → Int64} {K : mK} {v fl r : Int32} (hC : m_Ge XL XS (n + 4) C) (h : RuM v fl r I L) (hK : ∀ I', WI I' L → Pl I I' → K (some (.int r)) (m_SH, I', L)) : C 151 [.ref 30, .int v, .int fl] (m_SH, I, L) K := by
  rcases h with ⟨h2, rfl, h⟩ | ⟨h2, s, tx, ⟨hUR, hW, hA, t1, t3⟩, hc⟩
  · exact r_runN (n := n) hC h2 (hK _ h ⟨rfl, rfl⟩)
  · rcases hc with ⟨z1, z2, rfl, h⟩ | ⟨z, nm, hn, rfl, a1, a2, a3, a4, a5, hWU⟩
    · exact r_run (n := n) (nm := fun i => I 53 i) hC h2 hUR hW hA t1 t3 (fun _ _ => rfl) (fun _ => hK _ h ⟨rfl, rfl⟩) (fun z => absurd ⟨z1, z2⟩ z)
    · refine r_run (n := n) hC h2 hUR hW hA t1 t3 hn (fun q => absurd q z) (fun _ I' b1 b2 b3 b4 hF => hK _ (WI.mk (hWU.ag (hF.mono (fun _ _ => S_rg_rn))) ⟨fun i hi => ?_, ?_, _, a3, b2, Or.inr ⟨?_, b4, ?_, fun j hj => ?_⟩⟩) ⟨hF 17 10 rfl, hF 30 10 rfl⟩)
      · rw [hF 29 i (by unfold S_rg; simp), a1.2 i hi, b1.2 i hi]
      · rw [hF 27 3 rfl, a4, b3]
      · rw [hF 27 4 rfl]; exact a5
      · rw [hF 27 2 rfl]; exact a2
      · rw [hF 28 j (by unfold S_rg; simp), a1.1 j hj, b1.1 j hj]
theorem WI.rn {I : Nat → Nat → Int32} {L : Nat → Nat → Int64} (h : WI I L) : WI (mrbF (rbF I)) L := by
  have hF : Fr S_rn I (mrbF (rbF I)) := by
    unfold mrbF rbF
    exact (((((Fr.rf.up rfl).up rfl).up rfl).up rfl).up rfl).up rfl
  refine WI.mk (h.wu.ag hF) ⟨fun i hi => ?_, ?_, 0, by omega, ?_, Or.inr ⟨?_, ?_, ?_, fun j hj => absurd hj (by omega)⟩⟩
  · have := h.ri.1 i hi
    simpa [mrbF, rbF, m_upr] using this
  · simp [mrbF, rbF, m_upr]
  · simp [mrbF, rbF, m_upr]; rfl
  · simp [mrbF, rbF, m_upr]
  · simp [mrbF, rbF, m_upr]
  · simp [mrbF, rbF, m_upr]; rfl
def RnM (r : Int32) (I : Nat → Nat → Int32) (L : Nat → Nat → Int64) : Prop := (I 30 11 = 0 ∧ r = -3 ∧ WI I L) ∨ (I 30 11 = 1 ∧ r = 4 ∧ ∃ I0, WI I0 L ∧ I = rbF I0)
theorem c_runNone2 {XL : Nat} {XS : Nat → Int32} {n : Nat} {C : mC} {I : Nat → Nat → Int32} {L : Nat → Nat → Int64} {K : mK} (hC : m_Ge XL XS (n + 2) C) (h : WI I L) (hK : ∀ r I', RnM r I' L → Pl I I' → K (some (.int r)) (m_SH, I', L)) : C 92 [.ref 0] (m_SH, I, L) K := by
  refine c_runNone (n := n) hC ?_
  rcases h.ui with ⟨h1, h2, -, -⟩ | ⟨h1, h2, -⟩
  · rw [if_pos h1, if_pos h1]
    exact hK _ _ (Or.inl ⟨h2, rfl, h⟩) ⟨rfl, rfl⟩
  · have h1 : ¬ I 8 0 = 0 := by rw [h1]; decide
    rw [if_neg h1, if_neg h1]
    exact hK _ _ (Or.inr ⟨by simpa [rbF, m_upr] using h2, rfl, I, h, rfl⟩) ⟨rfl, rfl⟩
theorem r_runNone2 {XL : Nat} {XS : Nat → Int32} {n : Nat} {C : mC} {I : Nat → Nat → Int32} {L : Nat → Nat → Int64} {K : mK} {r : Int32} (hC : m_Ge XL XS (n + 1) C) (h : RnM r I L) (hK : ∀ I', WI I' L → Pl I I' → K (some (.int r)) (m_SH, I', L)) : C 152 [.ref 30] (m_SH, I, L) K := by
  refine r_runNone (n := n) hC ?_
  rcases h with ⟨h2, rfl, h⟩ | ⟨h2, rfl, I0, h, rfl⟩
  · rw [if_pos h2, if_pos h2]
    exact hK _ h ⟨rfl, rfl⟩
  · have h2 : ¬ rbF I0 30 11 = 0 := by rw [h2]; decide
    rw [if_neg h2, if_neg h2]
    exact hK _ h.rn ⟨rfl, rfl⟩
/-! form, hash, label: both answers -/
theorem c_form2 {XL : Nat} {XS : Nat → Int32} {n : Nat} {C : mC} {I : Nat → Nat → Int32} {L : Nat → Nat → Int64} {K : mK} (hC : m_Ge XL XS (n + 2) C) (h : WI I L) (hK : ∀ r, ((I 30 11 = 0 ∧ r = -3) ∨ (I 30 11 = 1 ∧ ∃ t, KR 54 55 56 t I ∧ I 30 52 = nI t.length ∧ r = frmV t)) → K (some (.int r)) (m_SH, I, L)) : C 96 [.ref 0] (m_SH, I, L) K := by
  rcases h.ui with ⟨h1, h2, -, -⟩ | ⟨h1, h2, s, hUC, hUR, hW, hA⟩
  · exact c_formN (n := n) hC h1 (hK _ (Or.inl ⟨h2, rfl⟩))
  · exact c_form (n := n) hC h1 hUC.2.2.2.2.1 hUC.2.2.2.2.2 (hK _ (Or.inr ⟨h2, _, hUR.2.2.2.1, hUR.2.2.2.2, rfl⟩))
theorem r_form2 {XL : Nat} {XS : Nat → Int32} {n : Nat} {C : mC} {I : Nat → Nat → Int32} {L : Nat → Nat → Int64} {K : mK} {r : Int32} (hC : m_Ge XL XS (n + 1) C) (h : (I 30 11 = 0 ∧ r = -3) ∨ (I 30 11 = 1 ∧ ∃ t, KR 54 55 56 t I ∧ I 30 52 = nI t.length ∧ r = frmV t)) (hK : K (some (.int r)) (m_SH, I, L)) : C 157 [.ref 30] (m_SH, I, L) K := by
  rcases h with ⟨h1, rfl⟩ | ⟨h1, t, h2, h3, rfl⟩
  · exact r_formN (n := n) hC h1 hK
  · exact r_form (n := n) hC h1 h2 h3 hK
theorem r_label2 {XL : Nat} {XS : Nat → Int32} {n : Nat} {C : mC} {I : Nat → Nat → Int32} {L : Nat → Nat → Int64} {K : mK} {i a : Int32} (hC : m_Ge XL XS (n + 1) C) (h : WI I L) (hK : K (some (.int (labelF i a I))) (m_SH, I, L)) : C 148 [.ref 30, .int i, .int a] (m_SH, I, L) K := by
  rw [q_label h.ui] at hK
  rcases h.ui with ⟨h1, h2, -, -⟩ | ⟨h1, h2, -⟩
  · refine r_labelN (n := n) hC h2 ?_
    unfold mlabelF at hK
    rw [if_pos h2] at hK
    exact hK
  · exact r_label (n := n) hC (q_labelS h.ui h2) hK
