/-! ===== the law over all scripts ===== -/
theorem w_law {XL : Nat} {XS : Nat → Int32} (hXL : XL ≤ 256) : m_WP XL XS (m_C XL XS 100) kL_law (some .boolean) 0 57 20924 (fun r _ => r = some (.int 1)) (0, m_pad 4 (m_ent [.ref 3000000]), [], ([], fun _ _ => 0, fun _ _ => 0), 0, 0) := by
  intro P hP
  have hC' : m_Ge XL XS (50 + 50) (m_C XL XS 100) := ⟨100, Nat.le_refl _, rfl⟩
  exact w_start hP hC' (fun I L hW _ _ => w_loop hP hC' hXL 64 0 I L (by omega) (by omega) hW)
