/-! ===== the law: its start, its loop ===== -/
theorem w_gt {XL i : Nat} (hXL : XL ≤ 256) (hi : i ≤ 300) : (Int32.ofNat XL - 4 < nI i) ↔ XL < i + 4 := by
  by_cases h : 4 ≤ XL
  · rw [show Int32.ofNat XL - 4 = nI (XL - 4) from pk_sub (a := XL) (b := 4) h, nI_ltI (by omega) (by omega)]
    omega
  · have : (0 : Int32) ≤ nI i := Int32.not_lt.mp (nI_pos (by omega))
    have h4 : Int32.ofNat XL - 4 < 0 := by
      rcases (show XL = 0 ∨ XL = 1 ∨ XL = 2 ∨ XL = 3 by omega) with rfl | rfl | rfl | rfl <;> decide
    exact ⟨fun _ => by omega, fun _ => Int32.lt_of_lt_of_le h4 this⟩
theorem w_step {XL : Nat} {XS : Nat → Int32} {n i : Nat} {C' : mC} {P : mT → Prop} {I : Nat → Nat → Int32} {L : Nat → Nat → Int64} (hP : ∀ t, m_F XL XS C' kL_law (some .boolean) 0 57 20924 (fun r _ => r = some (.int 1)) P t → P t) (hC' : m_Ge XL XS (n + 50) C') (hi : i + 4 ≤ XL) (hXL : XL ≤ 256) (hW : WI I L)
    (next : ∀ I' L', WI I' L' → P (18, [some (.ref 3000000), some (.ref 0), some (.ref 30), some (.int (nI (i + 4)))], [], (m_SH, I', L'), 57, 20924)) : P (26, [some (.ref 3000000), some (.ref 0), some (.ref 30), some (.int (nI i))], [], (m_SH, I, L), 57, 20924) := by
  have nx : ∀ I' L', WI I' L' → P (460, [some (.ref 3000000), some (.ref 0), some (.ref 30), some (.int (nI i))], [], (m_SH, I', L'), 57, 20924) := by
    intro I' L' h1
    iterate 2 (refine hP _ ?_; conv => whnf)
    have e := next I' L' h1
    rw [← nI_add] at e
    exact e
  repeat (refine hP _ ?_; conv => whnf)
  refine ⟨vp_in_nI (by omega) (by omega), ?_⟩
  repeat (refine hP _ ?_; conv => whnf)
  simp only [m_sw]
  refine ⟨fun _ => w_op0 hP hC' hi hXL hW nx, fun _ => ⟨fun _ => w_op1 hP hC' hi hXL hW nx, fun _ => ⟨fun _ => w_op2 hP hC' hi hXL hW nx, fun _ => ⟨fun _ => w_op3 hP hC' hi hXL hW nx, fun _ => ⟨fun _ => w_op4 hP hC' hi hXL hW nx, fun _ => ⟨fun _ => w_op5 hP hC' hi hXL hW nx, fun _ => ⟨fun _ => w_op6 hP hC' hi hXL hW nx, fun _ => ⟨fun _ => w_op7 hP hC' hi hXL hW nx, fun _ => ⟨fun _ => w_op8 hP hC' hi hXL hW nx, fun _ => ⟨fun _ => w_op9 hP hC' hi hXL hW nx, fun _ => ⟨fun _ => w_op10 hP hC' hi hXL hW nx, fun _ => ⟨fun _ => w_op11 hP hC' hi hXL hW nx, fun _ => ⟨fun _ => w_op12 hP hC' hi hXL hW nx, fun _ => ⟨fun _ => w_op13 hP hC' hi hXL hW nx, fun _ => ⟨fun _ => w_op14 hP hC' hi hXL hW nx, fun _ => ⟨fun _ => w_op15 hP hC' hi hXL hW nx, fun _ => nx _ _ hW⟩⟩⟩⟩⟩⟩⟩⟩⟩⟩⟩⟩⟩⟩⟩⟩
theorem w_loop {XL : Nat} {XS : Nat → Int32} {n : Nat} {C' : mC} {P : mT → Prop} (hP : ∀ t, m_F XL XS C' kL_law (some .boolean) 0 57 20924 (fun r _ => r = some (.int 1)) P t → P t) (hC' : m_Ge XL XS (n + 50) C') (hXL : XL ≤ 256) : ∀ (m i : Nat) (I : Nat → Nat → Int32) (L : Nat → Nat → Int64), XL ≤ i + 4 * m → i ≤ XL + 4 → WI I L → P (18, [some (.ref 3000000), some (.ref 0), some (.ref 30), some (.int (nI i))], [], (m_SH, I, L), 57, 20924) := by
  intro m
  induction m with
  | zero =>
    intro i I L h1 h2 hW
    repeat (refine hP _ ?_; conv => whnf)
    refine ⟨fun _ => ?_, fun z => absurd ((w_gt hXL (by omega)).mpr (by omega)) z⟩
    repeat (refine hP _ ?_; conv => whnf)
    exact ⟨rfl, rfl⟩
  | succ m ih =>
    intro i I L h1 h2 hW
    repeat (refine hP _ ?_; conv => whnf)
    refine ⟨fun _ => ?_, fun z => ?_⟩
    · repeat (refine hP _ ?_; conv => whnf)
      exact ⟨rfl, rfl⟩
    · have hi : i + 4 ≤ XL := by
        by_cases q : i + 4 ≤ XL
        · exact q
        · exact absurd ((w_gt hXL (by omega)).mpr (by omega)) z
      exact w_step hP hC' hi hXL hW (fun I' L' h3 => ih (i + 4) I' L' (by omega) (by omega) h3)
theorem w_start {XL : Nat} {XS : Nat → Int32} {n : Nat} {C' : mC} {P : mT → Prop} (hP : ∀ t, m_F XL XS C' kL_law (some .boolean) 0 57 20924 (fun r _ => r = some (.int 1)) P t → P t) (hC' : m_Ge XL XS (n + 50) C')
    (next : ∀ I L, WI I L → I 17 10 = I 30 10 → I 1 1 = 0 → P (18, [some (.ref 3000000), some (.ref 0), some (.ref 30), some (.int (nI 0))], [], (m_SH, I, L), 57, 20924)) : P (0, m_pad 4 (m_ent [.ref 3000000]), [], ([], fun _ _ => 0, fun _ _ => 0), 0, 0) := by
  repeat (refine hP _ ?_; conv => whnf)
  refine i_X8 (n := n + 39) hC' ?_
  repeat (refine hP _ ?_; conv => whnf)
  refine i_X9 (n := n + 49) hC' ?_
  iterate 3 (refine hP _ ?_; conv => whnf)
  refine next _ _ ⟨⟨[], ⟨by simp, by simp⟩, ⟨rfl, fun j hj => absurd hj (by simp)⟩, ⟨rfl, fun j hj => absurd hj (by simp)⟩⟩, ⟨?_, ?_⟩, fun j => Or.inl rfl, fun e he => ⟨0, by omega, rfl⟩, ⟨fun i hi => rfl, rfl, 0, by omega, rfl, Or.inl ⟨rfl, rfl, rfl⟩⟩, Or.inl ⟨rfl, rfl, rfl, rfl⟩⟩ rfl rfl
  · intro j hj
    rcases (show j = 0 ∨ j = 1 ∨ j = 2 ∨ j = 3 ∨ j = 4 ∨ j = 5 ∨ j = 6 ∨ j = 7 ∨ j = 8 ∨ j = 9 ∨ j = 10 ∨ j = 11 ∨ j = 12 ∨ j = 13 ∨ j = 14 by omega) with rfl | rfl | rfl | rfl | rfl | rfl | rfl | rfl | rfl | rfl | rfl | rfl | rfl | rfl | rfl
    · show m_pwv 0 = _; decide +kernel
    · show m_pwv 1 = _; decide +kernel
    · show m_pwv 2 = _; decide +kernel
    · show m_pwv 3 = _; decide +kernel
    · show m_pwv 4 = _; decide +kernel
    · show m_pwv 5 = _; decide +kernel
    · show m_pwv 6 = _; decide +kernel
    · show m_pwv 7 = _; decide +kernel
    · show m_pwv 8 = _; decide +kernel
    · show m_pwv 9 = _; decide +kernel
    · show m_pwv 10 = _; decide +kernel
    · show m_pwv 11 = _; decide +kernel
    · show m_pwv 12 = _; decide +kernel
    · show m_pwv 13 = _; decide +kernel
    · show m_pwv 14 = _; decide +kernel
  · intro j hj
    rcases (show j = 0 ∨ j = 1 ∨ j = 2 ∨ j = 3 ∨ j = 4 ∨ j = 5 ∨ j = 6 ∨ j = 7 ∨ j = 8 ∨ j = 9 ∨ j = 10 ∨ j = 11 ∨ j = 12 ∨ j = 13 ∨ j = 14 by omega) with rfl | rfl | rfl | rfl | rfl | rfl | rfl | rfl | rfl | rfl | rfl | rfl | rfl | rfl | rfl <;> decide +kernel
