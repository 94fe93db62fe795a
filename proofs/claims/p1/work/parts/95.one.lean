/-! ===== the law over scripts of one call; and over all, where the readings agree ===== -/
theorem j_none (v t : Int32) : jall [] true (js0 v t) = jall [] false (js0 v t) := by
  have h1 : jens [] 5 (.ok (js0 v t)) = .ok (js0 v t) := by
    unfold jens
    exact if_neg (show ¬ (tk [] 0).1 = 1 by decide +kernel)
  have h2 : ∃ e, jsel [] (.ok (js0 v t)) = .error e := by
    have q : ¬ ((tk [] (js0 v t).k).1 = 2 ∨ (tk [] (js0 v t).k).1 = 3) := (by decide +kernel : ¬ ((tk [] 0).1 = 2 ∨ (tk [] 0).1 = 3))
    simp only [jsel, jb]
    rw [if_pos q]
    exact ⟨_, rfl⟩
  obtain ⟨e, h2⟩ := h2
  unfold jall
  rw [h1, h2, jarms_er, jarms_er]
theorem w_law1 {XL : Nat} {XS : Nat → Int32} (hXL : XL ≤ 4) : m_WP XL XS (m_C XL XS 100) kL_law (some .boolean) 0 57 20924 (fun r _ => r = some (.int 1)) (0, m_pad 4 (m_ent [.ref 3000000]), [], ([], fun _ _ => 0, fun _ _ => 0), 0, 0) := by
  intro P hP
  have hC' : m_Ge XL XS (50 + 50) (m_C XL XS 100) := ⟨100, Nat.le_refl _, rfl⟩
  have fin : ∀ i I L, XL < i + 4 → i ≤ 8 → P (18, [some (.ref 3000000), some (.ref 0), some (.ref 30), some (.int (nI i))], [], (m_SH, I, L), 57, 20924) := by
    intro i I L h1 h2
    repeat (refine hP _ ?_; conv => whnf)
    refine ⟨fun _ => ?_, fun z => absurd ((w_gt (by omega) (by omega)).mpr (by omega)) z⟩
    repeat (refine hP _ ?_; conv => whnf)
    exact ⟨rfl, rfl⟩
  refine w_start hP hC' (fun I L hW hpl h11 => ?_)
  by_cases q : XL < 4
  · exact fin 0 I L (by omega) (by omega)
  · repeat (refine hP _ ?_; conv => whnf)
    refine ⟨fun z => absurd ((w_gt (i := 0) (by omega) (by omega)).mp z) (by omega), fun _ => ?_⟩
    refine w_step (i := 0) hP hC' (by omega) (by omega) hW hpl (fun tx v t hok hx => ?_) (fun I' L' _ _ => fin (0 + 4) I' L' (by omega) (by omega))
    have h0 : tx = [] := by
      have e := hx.1
      rw [h11] at e
      exact List.eq_nil_of_length_eq_zero ((nI_eq (a := tx.length) (b := 0) (by have := hok.1; omega) (by omega)).mp e.symm)
    rw [h0]
    exact j_none v t
theorem w_law {XL : Nat} {XS : Nat → Int32} (hXL : XL ≤ 256) (hrd : ∀ tx v t, jall tx true (js0 v t) = jall tx false (js0 v t)) : m_WP XL XS (m_C XL XS 100) kL_law (some .boolean) 0 57 20924 (fun r _ => r = some (.int 1)) (0, m_pad 4 (m_ent [.ref 3000000]), [], ([], fun _ _ => 0, fun _ _ => 0), 0, 0) := by
  intro P hP
  have hC' : m_Ge XL XS (50 + 50) (m_C XL XS 100) := ⟨100, Nat.le_refl _, rfl⟩
  exact w_start hP hC' (fun I L hW hpl _ => w_loop hP hC' hXL hrd 64 0 I L (by omega) (by omega) hW hpl)
