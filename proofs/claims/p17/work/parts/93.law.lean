/-! ===== the law: one call ===== -/
theorem w_vi1 {XL i : Nat} (hi : i + 4 ≤ XL) (hXL : XL ≤ 256) : vp_in (nI i + 1) XL := by
  rw [show nI i + 1 = nI (i + 1) by rw [show (1 : Int32) = nI 1 from rfl, nI_add]]
  exact vp_in_nI (by omega) (by omega)
theorem w_vi2 {XL i : Nat} (hi : i + 4 ≤ XL) (hXL : XL ≤ 256) : vp_in (nI i + 2) XL := by
  rw [show nI i + 2 = nI (i + 2) by rw [show (2 : Int32) = nI 2 from rfl, nI_add]]
  exact vp_in_nI (by omega) (by omega)
theorem w_vi3 {XL i : Nat} (hi : i + 4 ≤ XL) (hXL : XL ≤ 256) : vp_in (nI i + 3) XL := by
  rw [show nI i + 3 = nI (i + 3) by rw [show (3 : Int32) = nI 3 from rfl, nI_add]]
  exact vp_in_nI (by omega) (by omega)
theorem w_op0 {XL : Nat} {XS : Nat → Int32} {n i : Nat} {C' : mC} {P : mT → Prop} {I : Nat → Nat → Int32} {L : Nat → Nat → Int64} (hP : ∀ t, m_F XL XS C' kL_law (some .boolean) 0 57 20924 (fun r _ => r = some (.int 1)) P t → P t) (hC' : m_Ge XL XS (n + 50) C') (hi : i + 4 ≤ XL) (hXL : XL ≤ 256) (hW : WI I L) (next : ∀ I' L', WI I' L' → P (460, [some (.ref 3000000), some (.ref 0), some (.ref 30), some (.int (nI i))], [], (m_SH, I', L'), 57, 20924)) : P (112, [some (.ref 3000000), some (.ref 0), some (.ref 30), some (.int (nI i))], [], (m_SH, I, L), 57, 20924) := by
  repeat (refine hP _ ?_; conv => whnf)
  refine ⟨w_vi1 hi hXL, ?_⟩
  repeat (refine hP _ ?_; conv => whnf)
  refine ⟨w_vi2 hi hXL, ?_⟩
  repeat (refine hP _ ?_; conv => whnf)
  refine ⟨w_vi3 hi hXL, ?_⟩
  repeat (refine hP _ ?_; conv => whnf)
  refine c_type2 (n := n + 48) hC' hW (fun r I1 hT hp1 => ?_)
  repeat (refine hP _ ?_; conv => whnf)
  refine ⟨w_vi1 hi hXL, ?_⟩
  repeat (refine hP _ ?_; conv => whnf)
  refine ⟨w_vi2 hi hXL, ?_⟩
  repeat (refine hP _ ?_; conv => whnf)
  refine ⟨w_vi3 hi hXL, ?_⟩
  repeat (refine hP _ ?_; conv => whnf)
  refine r_type2 (n := n + 49) hC' hT (fun I2 hW2 hp2 => ?_)
  iterate 2 (refine hP _ ?_; conv => whnf)
  exact next _ _ hW2
theorem w_op1 {XL : Nat} {XS : Nat → Int32} {n i : Nat} {C' : mC} {P : mT → Prop} {I : Nat → Nat → Int32} {L : Nat → Nat → Int64} (hP : ∀ t, m_F XL XS C' kL_law (some .boolean) 0 57 20924 (fun r _ => r = some (.int 1)) P t → P t) (hC' : m_Ge XL XS (n + 50) C') (hi : i + 4 ≤ XL) (hXL : XL ≤ 256) (hW : WI I L) (next : ∀ I' L', WI I' L' → P (460, [some (.ref 3000000), some (.ref 0), some (.ref 30), some (.int (nI i))], [], (m_SH, I', L'), 57, 20924)) : P (175, [some (.ref 3000000), some (.ref 0), some (.ref 30), some (.int (nI i))], [], (m_SH, I, L), 57, 20924) := by
  repeat (refine hP _ ?_; conv => whnf)
  refine c_read2 (n := n + 8) hC' hW (fun tx v t I1 L1 hx hT => ?_)
  repeat (refine hP _ ?_; conv => whnf)
  refine r_read2 (n := n + 39) hC' hT (fun I2 L2 hW2 hp2 => ?_)
  iterate 2 (refine hP _ ?_; conv => whnf)
  exact next _ _ hW2
theorem w_op2 {XL : Nat} {XS : Nat → Int32} {n i : Nat} {C' : mC} {P : mT → Prop} {I : Nat → Nat → Int32} {L : Nat → Nat → Int64} (hP : ∀ t, m_F XL XS C' kL_law (some .boolean) 0 57 20924 (fun r _ => r = some (.int 1)) P t → P t) (hC' : m_Ge XL XS (n + 50) C') (hi : i + 4 ≤ XL) (hXL : XL ≤ 256) (hW : WI I L) (next : ∀ I' L', WI I' L' → P (460, [some (.ref 3000000), some (.ref 0), some (.ref 30), some (.int (nI i))], [], (m_SH, I', L'), 57, 20924)) : P (188, [some (.ref 3000000), some (.ref 0), some (.ref 30), some (.int (nI i))], [], (m_SH, I, L), 57, 20924) := by
  repeat (refine hP _ ?_; conv => whnf)
  refine c_place (n := n + 49) hC' ?_
  repeat (refine hP _ ?_; conv => whnf)
  refine r_place (n := n + 49) hC' ?_
  iterate 2 (refine hP _ ?_; conv => whnf)
  exact next _ _ hW
theorem w_op3 {XL : Nat} {XS : Nat → Int32} {n i : Nat} {C' : mC} {P : mT → Prop} {I : Nat → Nat → Int32} {L : Nat → Nat → Int64} (hP : ∀ t, m_F XL XS C' kL_law (some .boolean) 0 57 20924 (fun r _ => r = some (.int 1)) P t → P t) (hC' : m_Ge XL XS (n + 50) C') (hi : i + 4 ≤ XL) (hXL : XL ≤ 256) (hW : WI I L) (next : ∀ I' L', WI I' L' → P (460, [some (.ref 3000000), some (.ref 0), some (.ref 30), some (.int (nI i))], [], (m_SH, I', L'), 57, 20924)) : P (201, [some (.ref 3000000), some (.ref 0), some (.ref 30), some (.int (nI i))], [], (m_SH, I, L), 57, 20924) := by
  repeat (refine hP _ ?_; conv => whnf)
  refine ⟨w_vi1 hi hXL, ?_⟩
  repeat (refine hP _ ?_; conv => whnf)
  refine c_told (n := n + 49) hC' ?_
  repeat (refine hP _ ?_; conv => whnf)
  refine ⟨w_vi1 hi hXL, ?_⟩
  repeat (refine hP _ ?_; conv => whnf)
  refine r_told (n := n + 49) hC' (q_toldS hW.ui) ?_
  iterate 2 (refine hP _ ?_; conv => whnf)
  exact next _ _ hW
theorem w_op4 {XL : Nat} {XS : Nat → Int32} {n i : Nat} {C' : mC} {P : mT → Prop} {I : Nat → Nat → Int32} {L : Nat → Nat → Int64} (hP : ∀ t, m_F XL XS C' kL_law (some .boolean) 0 57 20924 (fun r _ => r = some (.int 1)) P t → P t) (hC' : m_Ge XL XS (n + 50) C') (hi : i + 4 ≤ XL) (hXL : XL ≤ 256) (hW : WI I L) (next : ∀ I' L', WI I' L' → P (460, [some (.ref 3000000), some (.ref 0), some (.ref 30), some (.int (nI i))], [], (m_SH, I', L'), 57, 20924)) : P (224, [some (.ref 3000000), some (.ref 0), some (.ref 30), some (.int (nI i))], [], (m_SH, I, L), 57, 20924) := by
  repeat (refine hP _ ?_; conv => whnf)
  refine ⟨w_vi1 hi hXL, ?_⟩
  repeat (refine hP _ ?_; conv => whnf)
  refine ⟨w_vi2 hi hXL, ?_⟩
  repeat (refine hP _ ?_; conv => whnf)
  refine c_label (n := n + 49) hC' ?_
  repeat (refine hP _ ?_; conv => whnf)
  refine ⟨w_vi1 hi hXL, ?_⟩
  repeat (refine hP _ ?_; conv => whnf)
  refine ⟨w_vi2 hi hXL, ?_⟩
  repeat (refine hP _ ?_; conv => whnf)
  refine r_label2 (n := n + 49) hC' hW ?_
  iterate 2 (refine hP _ ?_; conv => whnf)
  exact next _ _ hW
theorem w_op5 {XL : Nat} {XS : Nat → Int32} {n i : Nat} {C' : mC} {P : mT → Prop} {I : Nat → Nat → Int32} {L : Nat → Nat → Int64} (hP : ∀ t, m_F XL XS C' kL_law (some .boolean) 0 57 20924 (fun r _ => r = some (.int 1)) P t → P t) (hC' : m_Ge XL XS (n + 50) C') (hi : i + 4 ≤ XL) (hXL : XL ≤ 256) (hW : WI I L) (next : ∀ I' L', WI I' L' → P (460, [some (.ref 3000000), some (.ref 0), some (.ref 30), some (.int (nI i))], [], (m_SH, I', L'), 57, 20924)) : P (257, [some (.ref 3000000), some (.ref 0), some (.ref 30), some (.int (nI i))], [], (m_SH, I, L), 57, 20924) := by
  repeat (refine hP _ ?_; conv => whnf)
  refine ⟨w_vi1 hi hXL, ?_⟩
  repeat (refine hP _ ?_; conv => whnf)
  refine ⟨w_vi2 hi hXL, ?_⟩
  repeat (refine hP _ ?_; conv => whnf)
  refine c_run2 (n := n + 46) hC' hW (fun r I1 hT hp1 => ?_)
  repeat (refine hP _ ?_; conv => whnf)
  refine ⟨w_vi1 hi hXL, ?_⟩
  repeat (refine hP _ ?_; conv => whnf)
  refine ⟨w_vi2 hi hXL, ?_⟩
  repeat (refine hP _ ?_; conv => whnf)
  refine r_run2 (n := n + 46) hC' hT (fun I2 hW2 hp2 => ?_)
  iterate 2 (refine hP _ ?_; conv => whnf)
  exact next _ _ hW2
theorem w_op6 {XL : Nat} {XS : Nat → Int32} {n i : Nat} {C' : mC} {P : mT → Prop} {I : Nat → Nat → Int32} {L : Nat → Nat → Int64} (hP : ∀ t, m_F XL XS C' kL_law (some .boolean) 0 57 20924 (fun r _ => r = some (.int 1)) P t → P t) (hC' : m_Ge XL XS (n + 50) C') (hi : i + 4 ≤ XL) (hXL : XL ≤ 256) (hW : WI I L) (next : ∀ I' L', WI I' L' → P (460, [some (.ref 3000000), some (.ref 0), some (.ref 30), some (.int (nI i))], [], (m_SH, I', L'), 57, 20924)) : P (290, [some (.ref 3000000), some (.ref 0), some (.ref 30), some (.int (nI i))], [], (m_SH, I, L), 57, 20924) := by
  repeat (refine hP _ ?_; conv => whnf)
  refine c_runNone2 (n := n + 48) hC' hW (fun r I1 hT hp1 => ?_)
  repeat (refine hP _ ?_; conv => whnf)
  refine r_runNone2 (n := n + 49) hC' hT (fun I2 hW2 hp2 => ?_)
  iterate 2 (refine hP _ ?_; conv => whnf)
  exact next _ _ hW2
theorem w_op7 {XL : Nat} {XS : Nat → Int32} {n i : Nat} {C' : mC} {P : mT → Prop} {I : Nat → Nat → Int32} {L : Nat → Nat → Int64} (hP : ∀ t, m_F XL XS C' kL_law (some .boolean) 0 57 20924 (fun r _ => r = some (.int 1)) P t → P t) (hC' : m_Ge XL XS (n + 50) C') (hi : i + 4 ≤ XL) (hXL : XL ≤ 256) (hW : WI I L) (next : ∀ I' L', WI I' L' → P (460, [some (.ref 3000000), some (.ref 0), some (.ref 30), some (.int (nI i))], [], (m_SH, I', L'), 57, 20924)) : P (303, [some (.ref 3000000), some (.ref 0), some (.ref 30), some (.int (nI i))], [], (m_SH, I, L), 57, 20924) := by
  repeat (refine hP _ ?_; conv => whnf)
  refine c_traced (n := n + 49) hC' ?_
  repeat (refine hP _ ?_; conv => whnf)
  refine r_traced (n := n + 49) hC' ?_
  iterate 2 (refine hP _ ?_; conv => whnf)
  exact next _ _ hW
theorem w_op8 {XL : Nat} {XS : Nat → Int32} {n i : Nat} {C' : mC} {P : mT → Prop} {I : Nat → Nat → Int32} {L : Nat → Nat → Int64} (hP : ∀ t, m_F XL XS C' kL_law (some .boolean) 0 57 20924 (fun r _ => r = some (.int 1)) P t → P t) (hC' : m_Ge XL XS (n + 50) C') (hi : i + 4 ≤ XL) (hXL : XL ≤ 256) (hW : WI I L) (next : ∀ I' L', WI I' L' → P (460, [some (.ref 3000000), some (.ref 0), some (.ref 30), some (.int (nI i))], [], (m_SH, I', L'), 57, 20924)) : P (316, [some (.ref 3000000), some (.ref 0), some (.ref 30), some (.int (nI i))], [], (m_SH, I, L), 57, 20924) := by
  repeat (refine hP _ ?_; conv => whnf)
  refine ⟨w_vi1 hi hXL, ?_⟩
  repeat (refine hP _ ?_; conv => whnf)
  refine c_trace (n := n + 49) hC' ?_
  repeat (refine hP _ ?_; conv => whnf)
  refine ⟨w_vi1 hi hXL, ?_⟩
  repeat (refine hP _ ?_; conv => whnf)
  refine r_trace (n := n + 49) hC' (q_trace hW.ri).2.2.2 ?_
  iterate 2 (refine hP _ ?_; conv => whnf)
  exact next _ _ hW
theorem w_op9 {XL : Nat} {XS : Nat → Int32} {n i : Nat} {C' : mC} {P : mT → Prop} {I : Nat → Nat → Int32} {L : Nat → Nat → Int64} (hP : ∀ t, m_F XL XS C' kL_law (some .boolean) 0 57 20924 (fun r _ => r = some (.int 1)) P t → P t) (hC' : m_Ge XL XS (n + 50) C') (hi : i + 4 ≤ XL) (hXL : XL ≤ 256) (hW : WI I L) (next : ∀ I' L', WI I' L' → P (460, [some (.ref 3000000), some (.ref 0), some (.ref 30), some (.int (nI i))], [], (m_SH, I', L'), 57, 20924)) : P (339, [some (.ref 3000000), some (.ref 0), some (.ref 30), some (.int (nI i))], [], (m_SH, I, L), 57, 20924) := by
  repeat (refine hP _ ?_; conv => whnf)
  refine c_value (n := n + 49) hC' ?_
  repeat (refine hP _ ?_; conv => whnf)
  refine r_value (n := n + 49) hC' ?_
  iterate 2 (refine hP _ ?_; conv => whnf)
  exact next _ _ hW
theorem w_op10 {XL : Nat} {XS : Nat → Int32} {n i : Nat} {C' : mC} {P : mT → Prop} {I : Nat → Nat → Int32} {L : Nat → Nat → Int64} (hP : ∀ t, m_F XL XS C' kL_law (some .boolean) 0 57 20924 (fun r _ => r = some (.int 1)) P t → P t) (hC' : m_Ge XL XS (n + 50) C') (hi : i + 4 ≤ XL) (hXL : XL ≤ 256) (hW : WI I L) (next : ∀ I' L', WI I' L' → P (460, [some (.ref 3000000), some (.ref 0), some (.ref 30), some (.int (nI i))], [], (m_SH, I', L'), 57, 20924)) : P (352, [some (.ref 3000000), some (.ref 0), some (.ref 30), some (.int (nI i))], [], (m_SH, I, L), 57, 20924) := by
  repeat (refine hP _ ?_; conv => whnf)
  refine c_form2 (n := n + 48) hC' hW (fun r hr => ?_)
  repeat (refine hP _ ?_; conv => whnf)
  refine r_form2 (n := n + 49) hC' hr ?_
  iterate 2 (refine hP _ ?_; conv => whnf)
  exact next _ _ hW
theorem w_op11 {XL : Nat} {XS : Nat → Int32} {n i : Nat} {C' : mC} {P : mT → Prop} {I : Nat → Nat → Int32} {L : Nat → Nat → Int64} (hP : ∀ t, m_F XL XS C' kL_law (some .boolean) 0 57 20924 (fun r _ => r = some (.int 1)) P t → P t) (hC' : m_Ge XL XS (n + 50) C') (hi : i + 4 ≤ XL) (hXL : XL ≤ 256) (hW : WI I L) (next : ∀ I' L', WI I' L' → P (460, [some (.ref 3000000), some (.ref 0), some (.ref 30), some (.int (nI i))], [], (m_SH, I', L'), 57, 20924)) : P (365, [some (.ref 3000000), some (.ref 0), some (.ref 30), some (.int (nI i))], [], (m_SH, I, L), 57, 20924) := by
  repeat (refine hP _ ?_; conv => whnf)
  refine c_keys (n := n + 49) hC' ?_
  repeat (refine hP _ ?_; conv => whnf)
  refine r_keys (n := n + 49) hC' ?_
  iterate 2 (refine hP _ ?_; conv => whnf)
  exact next _ _ hW
theorem w_op12 {XL : Nat} {XS : Nat → Int32} {n i : Nat} {C' : mC} {P : mT → Prop} {I : Nat → Nat → Int32} {L : Nat → Nat → Int64} (hP : ∀ t, m_F XL XS C' kL_law (some .boolean) 0 57 20924 (fun r _ => r = some (.int 1)) P t → P t) (hC' : m_Ge XL XS (n + 50) C') (hi : i + 4 ≤ XL) (hXL : XL ≤ 256) (hW : WI I L) (next : ∀ I' L', WI I' L' → P (460, [some (.ref 3000000), some (.ref 0), some (.ref 30), some (.int (nI i))], [], (m_SH, I', L'), 57, 20924)) : P (378, [some (.ref 3000000), some (.ref 0), some (.ref 30), some (.int (nI i))], [], (m_SH, I, L), 57, 20924) := by
  repeat (refine hP _ ?_; conv => whnf)
  refine ⟨w_vi1 hi hXL, ?_⟩
  repeat (refine hP _ ?_; conv => whnf)
  refine c_key (n := n + 48) hC' ?_
  repeat (refine hP _ ?_; conv => whnf)
  refine ⟨w_vi1 hi hXL, ?_⟩
  repeat (refine hP _ ?_; conv => whnf)
  refine r_key (n := n + 49) hC' (q_keyS hW.ui) ?_
  iterate 2 (refine hP _ ?_; conv => whnf)
  exact next _ _ hW
theorem w_op13 {XL : Nat} {XS : Nat → Int32} {n i : Nat} {C' : mC} {P : mT → Prop} {I : Nat → Nat → Int32} {L : Nat → Nat → Int64} (hP : ∀ t, m_F XL XS C' kL_law (some .boolean) 0 57 20924 (fun r _ => r = some (.int 1)) P t → P t) (hC' : m_Ge XL XS (n + 50) C') (hi : i + 4 ≤ XL) (hXL : XL ≤ 256) (hW : WI I L) (next : ∀ I' L', WI I' L' → P (460, [some (.ref 3000000), some (.ref 0), some (.ref 30), some (.int (nI i))], [], (m_SH, I', L'), 57, 20924)) : P (401, [some (.ref 3000000), some (.ref 0), some (.ref 30), some (.int (nI i))], [], (m_SH, I, L), 57, 20924) := by
  repeat (refine hP _ ?_; conv => whnf)
  refine ⟨w_vi1 hi hXL, ?_⟩
  repeat (refine hP _ ?_; conv => whnf)
  refine c_target (n := n + 48) hC' ?_
  repeat (refine hP _ ?_; conv => whnf)
  refine ⟨w_vi1 hi hXL, ?_⟩
  repeat (refine hP _ ?_; conv => whnf)
  refine r_target (n := n + 49) hC' (q_keyS hW.ui) ?_
  iterate 2 (refine hP _ ?_; conv => whnf)
  exact next _ _ hW
theorem w_op14 {XL : Nat} {XS : Nat → Int32} {n i : Nat} {C' : mC} {P : mT → Prop} {I : Nat → Nat → Int32} {L : Nat → Nat → Int64} (hP : ∀ t, m_F XL XS C' kL_law (some .boolean) 0 57 20924 (fun r _ => r = some (.int 1)) P t → P t) (hC' : m_Ge XL XS (n + 50) C') (hi : i + 4 ≤ XL) (hXL : XL ≤ 256) (hW : WI I L) (next : ∀ I' L', WI I' L' → P (460, [some (.ref 3000000), some (.ref 0), some (.ref 30), some (.int (nI i))], [], (m_SH, I', L'), 57, 20924)) : P (424, [some (.ref 3000000), some (.ref 0), some (.ref 30), some (.int (nI i))], [], (m_SH, I, L), 57, 20924) := by
  repeat (refine hP _ ?_; conv => whnf)
  refine ⟨w_vi1 hi hXL, ?_⟩
  repeat (refine hP _ ?_; conv => whnf)
  refine c_alike (n := n + 48) hC' ?_
  repeat (refine hP _ ?_; conv => whnf)
  refine ⟨w_vi1 hi hXL, ?_⟩
  repeat (refine hP _ ?_; conv => whnf)
  refine r_alike (n := n + 49) hC' (q_keyS hW.ui) ?_
  iterate 2 (refine hP _ ?_; conv => whnf)
  exact next _ _ hW
theorem w_op15 {XL : Nat} {XS : Nat → Int32} {n i : Nat} {C' : mC} {P : mT → Prop} {I : Nat → Nat → Int32} {L : Nat → Nat → Int64} (hP : ∀ t, m_F XL XS C' kL_law (some .boolean) 0 57 20924 (fun r _ => r = some (.int 1)) P t → P t) (hC' : m_Ge XL XS (n + 50) C') (hi : i + 4 ≤ XL) (hXL : XL ≤ 256) (hW : WI I L) (next : ∀ I' L', WI I' L' → P (460, [some (.ref 3000000), some (.ref 0), some (.ref 30), some (.int (nI i))], [], (m_SH, I', L'), 57, 20924)) : P (447, [some (.ref 3000000), some (.ref 0), some (.ref 30), some (.int (nI i))], [], (m_SH, I, L), 57, 20924) := by
  obtain ⟨tx, ht, hcx, hmx⟩ := hW.1
  repeat (refine hP _ ?_; conv => whnf)
  refine c_hash (n := n + 47) hC' ht hcx ?_
  repeat (refine hP _ ?_; conv => whnf)
  refine r_hash (n := n + 48) hC' ht hmx ?_
  repeat (refine hP _ ?_; conv => whnf)
  exact ⟨fun _ => next _ _ hW, fun z => absurd rfl z⟩
