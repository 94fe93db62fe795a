/-! ===== the constructors ===== -/
theorem c_pw {XL : Nat} {XS : Nat → Int32} {n : Nat} {C : mC} {w : mW} {K : mK} (i : Nat) (hC : m_Ge XL XS (n + 9) C) (hi : i < 15) (hK : K (some (.long (m_pwv i))) w) : C 62 [.ref (1000000 + i)] w K := by
  obtain ⟨d, hd, rfl⟩ := hC
  obtain ⟨d', rfl⟩ : ∃ d', d = d' + 1 := ⟨d - 1, by omega⟩
  exact ⟨by omega, i, hi, rfl, hK⟩
theorem i_X2 {XL : Nat} {XS : Nat → Int32} {n : Nat} {C : mC} {I : Nat → Nat → Int32} {L : Nat → Nat → Int64} {K : mK} (hC : m_Ge XL XS (n + 1) C) (hK : K none ([.inr (8, [some none, some none, some none, some none, some none, some none]), .inr (2, [some (some 2), none]), .inl (.char, 3000)], (va_up I 2 (fun _ => 0)), (va_up L 2 (fun _ => 0)))) : C 37 [.ref 1] ([.inr (8, [some none, some none, some none, some none, some none, some none]), .inr (2, [some none, none])], I, L) K := by
  refine e_X2_init hC (Nat.le_of_ble_eq_true rfl) ?_
  intro C' hC' P hP
  repeat (first | (refine hP _ ?_; conv => whnf) | (refine ⟨⟨by decide, rfl⟩, ?_⟩))
  exact hK
theorem i_X6 {XL : Nat} {XS : Nat → Int32} {n : Nat} {C : mC} {I : Nat → Nat → Int32} {L : Nat → Nat → Int64} {K : mK} (hC : m_Ge XL XS (n + 10) C) (hK : K none ([.inr (8, [some (some 1), some none, some none, some none, some none, some none]), .inr (2, [some (some 2), none]), .inl (.char, 3000), .inr (6, [some (some 4), some (some 5), some (some 6), some (some 7), none]), .inl (.byte, 3001), .inl (.short, 3001), .inl (.long, 3001), .inl (.long, 15)], (va_up (va_up (va_up (va_up I 4 (fun _ => 0)) 5 (fun _ => 0)) 6 (fun _ => 0)) 7 (fun _ => 0)), (m_upL (m_upL (m_upL (m_upL (m_upL (m_upL (m_upL (m_upL (m_upL (m_upL (m_upL (m_upL (m_upL (m_upL (m_upL (va_up (va_up (va_up (va_up L 4 (fun _ => 0)) 5 (fun _ => 0)) 6 (fun _ => 0)) 7 (fun _ => 0)) 7 0 (m_pwv 0)) 7 1 (m_pwv 1)) 7 2 (m_pwv 2)) 7 3 (m_pwv 3)) 7 4 (m_pwv 4)) 7 5 (m_pwv 5)) 7 6 (m_pwv 6)) 7 7 (m_pwv 7)) 7 8 (m_pwv 8)) 7 9 (m_pwv 9)) 7 10 (m_pwv 10)) 7 11 (m_pwv 11)) 7 12 (m_pwv 12)) 7 13 (m_pwv 13)) 7 14 (m_pwv 14)))) : C 61 [.ref 3] ([.inr (8, [some (some 1), some none, some none, some none, some none, some none]), .inr (2, [some (some 2), none]), .inl (.char, 3000), .inr (6, [some none, some none, some none, some none, none])], I, L) K := by
  refine e_X6_init hC (Nat.le_of_ble_eq_true rfl) ?_
  intro C' hC' P hP
  repeat (first | (refine hP _ ?_; conv => whnf) | (refine ⟨⟨by decide, rfl⟩, ?_⟩))
  refine c_pw 0 hC' (by decide) ?_
  repeat (first | (refine hP _ ?_; conv => whnf) | (refine ⟨⟨by decide, rfl⟩, ?_⟩))
  refine ⟨vp_in_nI (n := 0) (by decide) (by decide), ?_⟩
  repeat (first | (refine hP _ ?_; conv => whnf) | (refine ⟨⟨by decide, rfl⟩, ?_⟩))
  refine c_pw 1 hC' (by decide) ?_
  repeat (first | (refine hP _ ?_; conv => whnf) | (refine ⟨⟨by decide, rfl⟩, ?_⟩))
  refine ⟨vp_in_nI (n := 1) (by decide) (by decide), ?_⟩
  repeat (first | (refine hP _ ?_; conv => whnf) | (refine ⟨⟨by decide, rfl⟩, ?_⟩))
  refine c_pw 2 hC' (by decide) ?_
  repeat (first | (refine hP _ ?_; conv => whnf) | (refine ⟨⟨by decide, rfl⟩, ?_⟩))
  refine ⟨vp_in_nI (n := 2) (by decide) (by decide), ?_⟩
  repeat (first | (refine hP _ ?_; conv => whnf) | (refine ⟨⟨by decide, rfl⟩, ?_⟩))
  refine c_pw 3 hC' (by decide) ?_
  repeat (first | (refine hP _ ?_; conv => whnf) | (refine ⟨⟨by decide, rfl⟩, ?_⟩))
  refine ⟨vp_in_nI (n := 3) (by decide) (by decide), ?_⟩
  repeat (first | (refine hP _ ?_; conv => whnf) | (refine ⟨⟨by decide, rfl⟩, ?_⟩))
  refine c_pw 4 hC' (by decide) ?_
  repeat (first | (refine hP _ ?_; conv => whnf) | (refine ⟨⟨by decide, rfl⟩, ?_⟩))
  refine ⟨vp_in_nI (n := 4) (by decide) (by decide), ?_⟩
  repeat (first | (refine hP _ ?_; conv => whnf) | (refine ⟨⟨by decide, rfl⟩, ?_⟩))
  refine c_pw 5 hC' (by decide) ?_
  repeat (first | (refine hP _ ?_; conv => whnf) | (refine ⟨⟨by decide, rfl⟩, ?_⟩))
  refine ⟨vp_in_nI (n := 5) (by decide) (by decide), ?_⟩
  repeat (first | (refine hP _ ?_; conv => whnf) | (refine ⟨⟨by decide, rfl⟩, ?_⟩))
  refine c_pw 6 hC' (by decide) ?_
  repeat (first | (refine hP _ ?_; conv => whnf) | (refine ⟨⟨by decide, rfl⟩, ?_⟩))
  refine ⟨vp_in_nI (n := 6) (by decide) (by decide), ?_⟩
  repeat (first | (refine hP _ ?_; conv => whnf) | (refine ⟨⟨by decide, rfl⟩, ?_⟩))
  refine c_pw 7 hC' (by decide) ?_
  repeat (first | (refine hP _ ?_; conv => whnf) | (refine ⟨⟨by decide, rfl⟩, ?_⟩))
  refine ⟨vp_in_nI (n := 7) (by decide) (by decide), ?_⟩
  repeat (first | (refine hP _ ?_; conv => whnf) | (refine ⟨⟨by decide, rfl⟩, ?_⟩))
  refine c_pw 8 hC' (by decide) ?_
  repeat (first | (refine hP _ ?_; conv => whnf) | (refine ⟨⟨by decide, rfl⟩, ?_⟩))
  refine ⟨vp_in_nI (n := 8) (by decide) (by decide), ?_⟩
  repeat (first | (refine hP _ ?_; conv => whnf) | (refine ⟨⟨by decide, rfl⟩, ?_⟩))
  refine c_pw 9 hC' (by decide) ?_
  repeat (first | (refine hP _ ?_; conv => whnf) | (refine ⟨⟨by decide, rfl⟩, ?_⟩))
  refine ⟨vp_in_nI (n := 9) (by decide) (by decide), ?_⟩
  repeat (first | (refine hP _ ?_; conv => whnf) | (refine ⟨⟨by decide, rfl⟩, ?_⟩))
  refine c_pw 10 hC' (by decide) ?_
  repeat (first | (refine hP _ ?_; conv => whnf) | (refine ⟨⟨by decide, rfl⟩, ?_⟩))
  refine ⟨vp_in_nI (n := 10) (by decide) (by decide), ?_⟩
  repeat (first | (refine hP _ ?_; conv => whnf) | (refine ⟨⟨by decide, rfl⟩, ?_⟩))
  refine c_pw 11 hC' (by decide) ?_
  repeat (first | (refine hP _ ?_; conv => whnf) | (refine ⟨⟨by decide, rfl⟩, ?_⟩))
  refine ⟨vp_in_nI (n := 11) (by decide) (by decide), ?_⟩
  repeat (first | (refine hP _ ?_; conv => whnf) | (refine ⟨⟨by decide, rfl⟩, ?_⟩))
  refine c_pw 12 hC' (by decide) ?_
  repeat (first | (refine hP _ ?_; conv => whnf) | (refine ⟨⟨by decide, rfl⟩, ?_⟩))
  refine ⟨vp_in_nI (n := 12) (by decide) (by decide), ?_⟩
  repeat (first | (refine hP _ ?_; conv => whnf) | (refine ⟨⟨by decide, rfl⟩, ?_⟩))
  refine c_pw 13 hC' (by decide) ?_
  repeat (first | (refine hP _ ?_; conv => whnf) | (refine ⟨⟨by decide, rfl⟩, ?_⟩))
  refine ⟨vp_in_nI (n := 13) (by decide) (by decide), ?_⟩
  repeat (first | (refine hP _ ?_; conv => whnf) | (refine ⟨⟨by decide, rfl⟩, ?_⟩))
  refine c_pw 14 hC' (by decide) ?_
  repeat (first | (refine hP _ ?_; conv => whnf) | (refine ⟨⟨by decide, rfl⟩, ?_⟩))
  refine ⟨vp_in_nI (n := 14) (by decide) (by decide), ?_⟩
  repeat (first | (refine hP _ ?_; conv => whnf) | (refine ⟨⟨by decide, rfl⟩, ?_⟩))
  exact hK
theorem i_X0 {XL : Nat} {XS : Nat → Int32} {n : Nat} {C : mC} {I : Nat → Nat → Int32} {L : Nat → Nat → Int64} {K : mK} (hC : m_Ge XL XS (n + 1) C) (hK : K none ([.inr (8, [some (some 1), some (some 3), some none, some none, some none, some none]), .inr (2, [some (some 2), none]), .inl (.char, 3000), .inr (6, [some (some 4), some (some 5), some (some 6), some (some 7), none]), .inl (.byte, 3001), .inl (.short, 3001), .inl (.long, 3001), .inl (.long, 15), .inr (7, [none, none, none, none, none, none, none, none, none, some (some 9), some (some 10), some (some 11), some (some 12), some none]), .inl (.int, 20), .inl (.int, 32), .inl (.int, 32), .inl (.long, 32), .inr (0, [some (some 14), some (some 15), some (some 16), none]), .inl (.byte, 260), .inl (.int, 260), .inl (.int, 260)], (va_up (va_up (va_up I 14 (fun _ => 0)) 15 (fun _ => 0)) 16 (fun _ => 0)), (va_up (va_up (va_up L 14 (fun _ => 0)) 15 (fun _ => 0)) 16 (fun _ => 0)))) : C 0 [.ref 13] ([.inr (8, [some (some 1), some (some 3), some none, some none, some none, some none]), .inr (2, [some (some 2), none]), .inl (.char, 3000), .inr (6, [some (some 4), some (some 5), some (some 6), some (some 7), none]), .inl (.byte, 3001), .inl (.short, 3001), .inl (.long, 3001), .inl (.long, 15), .inr (7, [none, none, none, none, none, none, none, none, none, some (some 9), some (some 10), some (some 11), some (some 12), some none]), .inl (.int, 20), .inl (.int, 32), .inl (.int, 32), .inl (.long, 32), .inr (0, [some none, some none, some none, none])], I, L) K := by
  refine e_X0_init hC (Nat.le_of_ble_eq_true rfl) ?_
  intro C' hC' P hP
  repeat (first | (refine hP _ ?_; conv => whnf) | (refine ⟨⟨by decide, rfl⟩, ?_⟩))
  exact hK
theorem i_X7 {XL : Nat} {XS : Nat → Int32} {n : Nat} {C : mC} {I : Nat → Nat → Int32} {L : Nat → Nat → Int64} {K : mK} (hC : m_Ge XL XS (n + 2) C) (hK : K none ([.inr (8, [some (some 1), some (some 3), some none, some none, some none, some none]), .inr (2, [some (some 2), none]), .inl (.char, 3000), .inr (6, [some (some 4), some (some 5), some (some 6), some (some 7), none]), .inl (.byte, 3001), .inl (.short, 3001), .inl (.long, 3001), .inl (.long, 15), .inr (7, [none, none, none, none, none, none, none, none, none, some (some 9), some (some 10), some (some 11), some (some 12), some (some 13)]), .inl (.int, 20), .inl (.int, 32), .inl (.int, 32), .inl (.long, 32), .inr (0, [some (some 14), some (some 15), some (some 16), none]), .inl (.byte, 260), .inl (.int, 260), .inl (.int, 260)], (va_up (va_up (va_up (va_up (va_up (va_up (va_up (va_up (m_up I 8 7 (-1)) 9 (fun _ => 0)) 10 (fun _ => 0)) 11 (fun _ => 0)) 12 (fun _ => 0)) 13 (fun _ => 0)) 14 (fun _ => 0)) 15 (fun _ => 0)) 16 (fun _ => 0)), (va_up (va_up (va_up (va_up (va_up (va_up (va_up (va_up L 9 (fun _ => 0)) 10 (fun _ => 0)) 11 (fun _ => 0)) 12 (fun _ => 0)) 13 (fun _ => 0)) 14 (fun _ => 0)) 15 (fun _ => 0)) 16 (fun _ => 0)))) : C 75 [.ref 8] ([.inr (8, [some (some 1), some (some 3), some none, some none, some none, some none]), .inr (2, [some (some 2), none]), .inl (.char, 3000), .inr (6, [some (some 4), some (some 5), some (some 6), some (some 7), none]), .inl (.byte, 3001), .inl (.short, 3001), .inl (.long, 3001), .inl (.long, 15), .inr (7, [none, none, none, none, none, none, none, none, none, some none, some none, some none, some none, some none])], I, L) K := by
  refine e_X7_init hC (Nat.le_of_ble_eq_true rfl) ?_
  intro C' hC' P hP
  repeat (first | (refine hP _ ?_; conv => whnf) | (refine ⟨⟨by decide, rfl⟩, ?_⟩))
  refine i_X0 (n := n) hC' ?_
  repeat (first | (refine hP _ ?_; conv => whnf) | (refine ⟨⟨by decide, rfl⟩, ?_⟩))
  exact hK
theorem i_X4 {XL : Nat} {XS : Nat → Int32} {n : Nat} {C : mC} {I : Nat → Nat → Int32} {L : Nat → Nat → Int64} {K : mK} (hC : m_Ge XL XS (n + 1) C) (hK : K none ([.inr (8, [some (some 1), some (some 3), some (some 8), some none, some none, some none]), .inr (2, [some (some 2), none]), .inl (.char, 3000), .inr (6, [some (some 4), some (some 5), some (some 6), some (some 7), none]), .inl (.byte, 3001), .inl (.short, 3001), .inl (.long, 3001), .inl (.long, 15), .inr (7, [none, none, none, none, none, none, none, none, none, some (some 9), some (some 10), some (some 11), some (some 12), some (some 13)]), .inl (.int, 20), .inl (.int, 32), .inl (.int, 32), .inl (.long, 32), .inr (0, [some (some 14), some (some 15), some (some 16), none]), .inl (.byte, 260), .inl (.int, 260), .inl (.int, 260), .inr (1, [some none, some none, some none, some none, some none, some none, none, none, none, none, none]), .inr (4, [some (some 19), none, none]), .inl (.long, 20)], (va_up I 19 (fun _ => 0)), (va_up L 19 (fun _ => 0)))) : C 49 [.ref 18] ([.inr (8, [some (some 1), some (some 3), some (some 8), some none, some none, some none]), .inr (2, [some (some 2), none]), .inl (.char, 3000), .inr (6, [some (some 4), some (some 5), some (some 6), some (some 7), none]), .inl (.byte, 3001), .inl (.short, 3001), .inl (.long, 3001), .inl (.long, 15), .inr (7, [none, none, none, none, none, none, none, none, none, some (some 9), some (some 10), some (some 11), some (some 12), some (some 13)]), .inl (.int, 20), .inl (.int, 32), .inl (.int, 32), .inl (.long, 32), .inr (0, [some (some 14), some (some 15), some (some 16), none]), .inl (.byte, 260), .inl (.int, 260), .inl (.int, 260), .inr (1, [some none, some none, some none, some none, some none, some none, none, none, none, none, none]), .inr (4, [some none, none, none])], I, L) K := by
  refine e_X4_init hC (Nat.le_of_ble_eq_true rfl) ?_
  intro C' hC' P hP
  repeat (first | (refine hP _ ?_; conv => whnf) | (refine ⟨⟨by decide, rfl⟩, ?_⟩))
  exact hK
theorem i_X1 {XL : Nat} {XS : Nat → Int32} {n : Nat} {C : mC} {I : Nat → Nat → Int32} {L : Nat → Nat → Int64} {K : mK} (hC : m_Ge XL XS (n + 3) C) (hK : K none ([.inr (8, [some (some 1), some (some 3), some (some 8), some none, some none, some none]), .inr (2, [some (some 2), none]), .inl (.char, 3000), .inr (6, [some (some 4), some (some 5), some (some 6), some (some 7), none]), .inl (.byte, 3001), .inl (.short, 3001), .inl (.long, 3001), .inl (.long, 15), .inr (7, [none, none, none, none, none, none, none, none, none, some (some 9), some (some 10), some (some 11), some (some 12), some (some 13)]), .inl (.int, 20), .inl (.int, 32), .inl (.int, 32), .inl (.long, 32), .inr (0, [some (some 14), some (some 15), some (some 16), none]), .inl (.byte, 260), .inl (.int, 260), .inl (.int, 260), .inr (1, [some (some 3), some (some 8), some (some 18), some (some 20), some (some 21), some (some 22), none, none, none, none, none]), .inr (4, [some (some 19), none, none]), .inl (.long, 20), .inl (.long, 4), .inl (.int, 4), .inl (.long, 64)], (m_up (va_up (va_up (va_up (va_up (va_up I 18 (fun _ => 0)) 19 (fun _ => 0)) 20 (fun _ => 0)) 21 (fun _ => 0)) 22 (fun _ => 0)) 17 10 (-1)), (va_up (va_up (va_up (va_up (va_up L 18 (fun _ => 0)) 19 (fun _ => 0)) 20 (fun _ => 0)) 21 (fun _ => 0)) 22 (fun _ => 0)))) : C 3 [.ref 17, .ref 3, .ref 8] ([.inr (8, [some (some 1), some (some 3), some (some 8), some none, some none, some none]), .inr (2, [some (some 2), none]), .inl (.char, 3000), .inr (6, [some (some 4), some (some 5), some (some 6), some (some 7), none]), .inl (.byte, 3001), .inl (.short, 3001), .inl (.long, 3001), .inl (.long, 15), .inr (7, [none, none, none, none, none, none, none, none, none, some (some 9), some (some 10), some (some 11), some (some 12), some (some 13)]), .inl (.int, 20), .inl (.int, 32), .inl (.int, 32), .inl (.long, 32), .inr (0, [some (some 14), some (some 15), some (some 16), none]), .inl (.byte, 260), .inl (.int, 260), .inl (.int, 260), .inr (1, [some none, some none, some none, some none, some none, some none, none, none, none, none, none])], I, L) K := by
  refine e_X1_init hC (Nat.le_of_ble_eq_true rfl) ?_
  intro C' hC' P hP
  repeat (first | (refine hP _ ?_; conv => whnf) | (refine ⟨⟨by decide, rfl⟩, ?_⟩))
  refine i_X4 (n := n + 1) hC' ?_
  repeat (first | (refine hP _ ?_; conv => whnf) | (refine ⟨⟨by decide, rfl⟩, ?_⟩))
  exact hK
theorem i_X5 {XL : Nat} {XS : Nat → Int32} {n : Nat} {C : mC} {I : Nat → Nat → Int32} {L : Nat → Nat → Int64} {K : mK} (hC : m_Ge XL XS (n + 1) C) (hK : K none ([.inr (8, [some (some 1), some (some 3), some (some 8), some (some 17), some none, some none]), .inr (2, [some (some 2), none]), .inl (.char, 3000), .inr (6, [some (some 4), some (some 5), some (some 6), some (some 7), none]), .inl (.byte, 3001), .inl (.short, 3001), .inl (.long, 3001), .inl (.long, 15), .inr (7, [none, none, none, none, none, none, none, none, none, some (some 9), some (some 10), some (some 11), some (some 12), some (some 13)]), .inl (.int, 20), .inl (.int, 32), .inl (.int, 32), .inl (.long, 32), .inr (0, [some (some 14), some (some 15), some (some 16), none]), .inl (.byte, 260), .inl (.int, 260), .inl (.int, 260), .inr (1, [some (some 3), some (some 8), some (some 18), some (some 20), some (some 21), some (some 22), none, none, none, none, none]), .inr (4, [some (some 19), none, none]), .inl (.long, 20), .inl (.long, 4), .inl (.int, 4), .inl (.long, 64), .inr (5, [some (some 24), some (some 25), some (some 26), none]), .inl (.int, 32), .inl (.int, 32), .inl (.int, 32)], (va_up (va_up (va_up I 24 (fun _ => 0)) 25 (fun _ => 0)) 26 (fun _ => 0)), (va_up (va_up (va_up L 24 (fun _ => 0)) 25 (fun _ => 0)) 26 (fun _ => 0)))) : C 56 [.ref 23] ([.inr (8, [some (some 1), some (some 3), some (some 8), some (some 17), some none, some none]), .inr (2, [some (some 2), none]), .inl (.char, 3000), .inr (6, [some (some 4), some (some 5), some (some 6), some (some 7), none]), .inl (.byte, 3001), .inl (.short, 3001), .inl (.long, 3001), .inl (.long, 15), .inr (7, [none, none, none, none, none, none, none, none, none, some (some 9), some (some 10), some (some 11), some (some 12), some (some 13)]), .inl (.int, 20), .inl (.int, 32), .inl (.int, 32), .inl (.long, 32), .inr (0, [some (some 14), some (some 15), some (some 16), none]), .inl (.byte, 260), .inl (.int, 260), .inl (.int, 260), .inr (1, [some (some 3), some (some 8), some (some 18), some (some 20), some (some 21), some (some 22), none, none, none, none, none]), .inr (4, [some (some 19), none, none]), .inl (.long, 20), .inl (.long, 4), .inl (.int, 4), .inl (.long, 64), .inr (5, [some none, some none, some none, none])], I, L) K := by
  refine e_X5_init hC (Nat.le_of_ble_eq_true rfl) ?_
  intro C' hC' P hP
  repeat (first | (refine hP _ ?_; conv => whnf) | (refine ⟨⟨by decide, rfl⟩, ?_⟩))
  exact hK
theorem i_X3 {XL : Nat} {XS : Nat → Int32} {n : Nat} {C : mC} {I : Nat → Nat → Int32} {L : Nat → Nat → Int64} {K : mK} (hC : m_Ge XL XS (n + 1) C) (hK : K none ([.inr (8, [some (some 1), some (some 3), some (some 8), some (some 17), some (some 23), some none]), .inr (2, [some (some 2), none]), .inl (.char, 3000), .inr (6, [some (some 4), some (some 5), some (some 6), some (some 7), none]), .inl (.byte, 3001), .inl (.short, 3001), .inl (.long, 3001), .inl (.long, 15), .inr (7, [none, none, none, none, none, none, none, none, none, some (some 9), some (some 10), some (some 11), some (some 12), some (some 13)]), .inl (.int, 20), .inl (.int, 32), .inl (.int, 32), .inl (.long, 32), .inr (0, [some (some 14), some (some 15), some (some 16), none]), .inl (.byte, 260), .inl (.int, 260), .inl (.int, 260), .inr (1, [some (some 3), some (some 8), some (some 18), some (some 20), some (some 21), some (some 22), none, none, none, none, none]), .inr (4, [some (some 19), none, none]), .inl (.long, 20), .inl (.long, 4), .inl (.int, 4), .inl (.long, 64), .inr (5, [some (some 24), some (some 25), some (some 26), none]), .inl (.int, 32), .inl (.int, 32), .inl (.int, 32), .inr (3, [some (some 28), some (some 29), none, none, none]), .inl (.int, 120), .inl (.int, 20)], (va_up (va_up I 28 (fun _ => 0)) 29 (fun _ => 0)), (va_up (va_up L 28 (fun _ => 0)) 29 (fun _ => 0)))) : C 43 [.ref 27] ([.inr (8, [some (some 1), some (some 3), some (some 8), some (some 17), some (some 23), some none]), .inr (2, [some (some 2), none]), .inl (.char, 3000), .inr (6, [some (some 4), some (some 5), some (some 6), some (some 7), none]), .inl (.byte, 3001), .inl (.short, 3001), .inl (.long, 3001), .inl (.long, 15), .inr (7, [none, none, none, none, none, none, none, none, none, some (some 9), some (some 10), some (some 11), some (some 12), some (some 13)]), .inl (.int, 20), .inl (.int, 32), .inl (.int, 32), .inl (.long, 32), .inr (0, [some (some 14), some (some 15), some (some 16), none]), .inl (.byte, 260), .inl (.int, 260), .inl (.int, 260), .inr (1, [some (some 3), some (some 8), some (some 18), some (some 20), some (some 21), some (some 22), none, none, none, none, none]), .inr (4, [some (some 19), none, none]), .inl (.long, 20), .inl (.long, 4), .inl (.int, 4), .inl (.long, 64), .inr (5, [some (some 24), some (some 25), some (some 26), none]), .inl (.int, 32), .inl (.int, 32), .inl (.int, 32), .inr (3, [some none, some none, none, none, none])], I, L) K := by
  refine e_X3_init hC (Nat.le_of_ble_eq_true rfl) ?_
  intro C' hC' P hP
  repeat (first | (refine hP _ ?_; conv => whnf) | (refine ⟨⟨by decide, rfl⟩, ?_⟩))
  exact hK
theorem i_X8 {XL : Nat} {XS : Nat → Int32} {n : Nat} {C : mC} {I : Nat → Nat → Int32} {L : Nat → Nat → Int64} {K : mK} (hC : m_Ge XL XS (n + 11) C) (hK : K none ([.inr (8, [some (some 1), some (some 3), some (some 8), some (some 17), some (some 23), some (some 27)]), .inr (2, [some (some 2), none]), .inl (.char, 3000), .inr (6, [some (some 4), some (some 5), some (some 6), some (some 7), none]), .inl (.byte, 3001), .inl (.short, 3001), .inl (.long, 3001), .inl (.long, 15), .inr (7, [none, none, none, none, none, none, none, none, none, some (some 9), some (some 10), some (some 11), some (some 12), some (some 13)]), .inl (.int, 20), .inl (.int, 32), .inl (.int, 32), .inl (.long, 32), .inr (0, [some (some 14), some (some 15), some (some 16), none]), .inl (.byte, 260), .inl (.int, 260), .inl (.int, 260), .inr (1, [some (some 3), some (some 8), some (some 18), some (some 20), some (some 21), some (some 22), none, none, none, none, none]), .inr (4, [some (some 19), none, none]), .inl (.long, 20), .inl (.long, 4), .inl (.int, 4), .inl (.long, 64), .inr (5, [some (some 24), some (some 25), some (some 26), none]), .inl (.int, 32), .inl (.int, 32), .inl (.int, 32), .inr (3, [some (some 28), some (some 29), none, none, none]), .inl (.int, 120), .inl (.int, 20)], (va_up (va_up (va_up (va_up (va_up (va_up (va_up (m_up (va_up (va_up (va_up (va_up (va_up (va_up (va_up (va_up (va_up (va_up (va_up (va_up (va_up (va_up (m_up (va_up (va_up (va_up (va_up (va_up (va_up (va_up (va_up I 1 (fun _ => 0)) 2 (fun _ => 0)) 3 (fun _ => 0)) 4 (fun _ => 0)) 5 (fun _ => 0)) 6 (fun _ => 0)) 7 (fun _ => 0)) 8 (fun _ => 0)) 8 7 (-1)) 9 (fun _ => 0)) 10 (fun _ => 0)) 11 (fun _ => 0)) 12 (fun _ => 0)) 13 (fun _ => 0)) 14 (fun _ => 0)) 15 (fun _ => 0)) 16 (fun _ => 0)) 17 (fun _ => 0)) 18 (fun _ => 0)) 19 (fun _ => 0)) 20 (fun _ => 0)) 21 (fun _ => 0)) 22 (fun _ => 0)) 17 10 (-1)) 23 (fun _ => 0)) 24 (fun _ => 0)) 25 (fun _ => 0)) 26 (fun _ => 0)) 27 (fun _ => 0)) 28 (fun _ => 0)) 29 (fun _ => 0)), (va_up (va_up (va_up (va_up (va_up (va_up (va_up (va_up (va_up (va_up (va_up (va_up (va_up (va_up (va_up (va_up (va_up (va_up (va_up (va_up (va_up (va_up (m_upL (m_upL (m_upL (m_upL (m_upL (m_upL (m_upL (m_upL (m_upL (m_upL (m_upL (m_upL (m_upL (m_upL (m_upL (va_up (va_up (va_up (va_up (va_up (va_up (va_up L 1 (fun _ => 0)) 2 (fun _ => 0)) 3 (fun _ => 0)) 4 (fun _ => 0)) 5 (fun _ => 0)) 6 (fun _ => 0)) 7 (fun _ => 0)) 7 0 (m_pwv 0)) 7 1 (m_pwv 1)) 7 2 (m_pwv 2)) 7 3 (m_pwv 3)) 7 4 (m_pwv 4)) 7 5 (m_pwv 5)) 7 6 (m_pwv 6)) 7 7 (m_pwv 7)) 7 8 (m_pwv 8)) 7 9 (m_pwv 9)) 7 10 (m_pwv 10)) 7 11 (m_pwv 11)) 7 12 (m_pwv 12)) 7 13 (m_pwv 13)) 7 14 (m_pwv 14)) 8 (fun _ => 0)) 9 (fun _ => 0)) 10 (fun _ => 0)) 11 (fun _ => 0)) 12 (fun _ => 0)) 13 (fun _ => 0)) 14 (fun _ => 0)) 15 (fun _ => 0)) 16 (fun _ => 0)) 17 (fun _ => 0)) 18 (fun _ => 0)) 19 (fun _ => 0)) 20 (fun _ => 0)) 21 (fun _ => 0)) 22 (fun _ => 0)) 23 (fun _ => 0)) 24 (fun _ => 0)) 25 (fun _ => 0)) 26 (fun _ => 0)) 27 (fun _ => 0)) 28 (fun _ => 0)) 29 (fun _ => 0)))) : C 85 [.ref 0] ([.inr (8, [some none, some none, some none, some none, some none, some none])], I, L) K := by
  refine e_X8_init hC (Nat.le_of_ble_eq_true rfl) ?_
  intro C' hC' P hP
  repeat (first | (refine hP _ ?_; conv => whnf) | (refine ⟨⟨by decide, rfl⟩, ?_⟩))
  refine i_X2 (n := n + 9) hC' ?_
  repeat (first | (refine hP _ ?_; conv => whnf) | (refine ⟨⟨by decide, rfl⟩, ?_⟩))
  refine i_X6 (n := n + 0) hC' ?_
  repeat (first | (refine hP _ ?_; conv => whnf) | (refine ⟨⟨by decide, rfl⟩, ?_⟩))
  refine i_X7 (n := n + 8) hC' ?_
  repeat (first | (refine hP _ ?_; conv => whnf) | (refine ⟨⟨by decide, rfl⟩, ?_⟩))
  refine i_X1 (n := n + 7) hC' ?_
  repeat (first | (refine hP _ ?_; conv => whnf) | (refine ⟨⟨by decide, rfl⟩, ?_⟩))
  refine i_X5 (n := n + 9) hC' ?_
  repeat (first | (refine hP _ ?_; conv => whnf) | (refine ⟨⟨by decide, rfl⟩, ?_⟩))
  refine i_X3 (n := n + 9) hC' ?_
  repeat (first | (refine hP _ ?_; conv => whnf) | (refine ⟨⟨by decide, rfl⟩, ?_⟩))
  exact hK
theorem i_X9 {XL : Nat} {XS : Nat → Int32} {n : Nat} {C : mC} {I : Nat → Nat → Int32} {L : Nat → Nat → Int64} {K : mK} (hC : m_Ge XL XS (n + 1) C) (hK : K none ([.inr (8, [some (some 1), some (some 3), some (some 8), some (some 17), some (some 23), some (some 27)]), .inr (2, [some (some 2), none]), .inl (.char, 3000), .inr (6, [some (some 4), some (some 5), some (some 6), some (some 7), none]), .inl (.byte, 3001), .inl (.short, 3001), .inl (.long, 3001), .inl (.long, 15), .inr (7, [none, none, none, none, none, none, none, none, none, some (some 9), some (some 10), some (some 11), some (some 12), some (some 13)]), .inl (.int, 20), .inl (.int, 32), .inl (.int, 32), .inl (.long, 32), .inr (0, [some (some 14), some (some 15), some (some 16), none]), .inl (.byte, 260), .inl (.int, 260), .inl (.int, 260), .inr (1, [some (some 3), some (some 8), some (some 18), some (some 20), some (some 21), some (some 22), none, none, none, none, none]), .inr (4, [some (some 19), none, none]), .inl (.long, 20), .inl (.long, 4), .inl (.int, 4), .inl (.long, 64), .inr (5, [some (some 24), some (some 25), some (some 26), none]), .inl (.int, 32), .inl (.int, 32), .inl (.int, 32), .inr (3, [some (some 28), some (some 29), none, none, none]), .inl (.int, 120), .inl (.int, 20), .inr (9, [some (some 31), some (some 32), none, none, none, none, none, none, none, none, none, none, none, some (some 33), some (some 34), some (some 35), none, none, none, none, some (some 36), none, some (some 37), some (some 38), some (some 39), some (some 40), none, none, none, none, some (some 41), some (some 42), some (some 43), none, some (some 44), none, none, some (some 45), some (some 46), some (some 47), some (some 48), some (some 49), some (some 50), some (some 51), none, none, none, none, none, none, some (some 52), some (some 53), none, some (some 54), some (some 55), some (some 56)]), .inl (.long, 15), .inl (.byte, 3000), .inl (.long, 4), .inl (.int, 4), .inl (.long, 64), .inl (.int, 21), .inl (.int, 32), .inl (.int, 32), .inl (.long, 32), .inl (.int, 32), .inl (.int, 700), .inl (.int, 700), .inl (.int, 700), .inl (.long, 20), .inl (.int, 200), .inl (.boolean, 200), .inl (.int, 200), .inl (.int, 200), .inl (.int, 200), .inl (.int, 200), .inl (.int, 200), .inl (.int, 700), .inl (.int, 20), .inl (.int, 32), .inl (.int, 32), .inl (.int, 32)], (va_up (va_up (va_up (va_up (va_up (va_up (va_up (va_up (va_up (va_up (va_up (va_up (va_up (va_up (va_up (va_up (va_up (va_up (va_up (va_up (va_up (va_up (va_up (va_up (m_up (va_up (va_up I 31 (fun _ => 0)) 32 (fun _ => 0)) 30 10 (-1)) 33 (fun _ => 0)) 34 (fun _ => 0)) 35 (fun _ => 0)) 36 (fun _ => 0)) 37 (fun _ => 0)) 38 (fun _ => 0)) 39 (fun _ => 0)) 40 (fun _ => 0)) 41 (fun _ => 0)) 42 (fun _ => 0)) 43 (fun _ => 0)) 44 (fun _ => 0)) 45 (fun _ => 0)) 46 (fun _ => 0)) 47 (fun _ => 0)) 48 (fun _ => 0)) 49 (fun _ => 0)) 50 (fun _ => 0)) 51 (fun _ => 0)) 52 (fun _ => 0)) 53 (fun _ => 0)) 54 (fun _ => 0)) 55 (fun _ => 0)) 56 (fun _ => 0)), (m_upL (m_upL (m_upL (m_upL (m_upL (m_upL (m_upL (m_upL (m_upL (m_upL (m_upL (m_upL (m_upL (m_upL (m_upL (va_up (va_up (va_up (va_up (va_up (va_up (va_up (va_up (va_up (va_up (va_up (va_up (va_up (va_up (va_up (va_up (va_up (va_up (va_up (va_up (va_up (va_up (va_up (va_up (va_up (va_up L 31 (fun _ => 0)) 32 (fun _ => 0)) 33 (fun _ => 0)) 34 (fun _ => 0)) 35 (fun _ => 0)) 36 (fun _ => 0)) 37 (fun _ => 0)) 38 (fun _ => 0)) 39 (fun _ => 0)) 40 (fun _ => 0)) 41 (fun _ => 0)) 42 (fun _ => 0)) 43 (fun _ => 0)) 44 (fun _ => 0)) 45 (fun _ => 0)) 46 (fun _ => 0)) 47 (fun _ => 0)) 48 (fun _ => 0)) 49 (fun _ => 0)) 50 (fun _ => 0)) 51 (fun _ => 0)) 52 (fun _ => 0)) 53 (fun _ => 0)) 54 (fun _ => 0)) 55 (fun _ => 0)) 56 (fun _ => 0)) 31 0 (213629677)) 31 1 (3983535845864)) 31 2 (31880592101)) 31 3 (3811208377074)) 31 4 (244939892)) 31 5 (209222117)) 31 6 (443302570456692)) 31 7 (1602148)) 31 8 (1782516)) 31 9 (1931749)) 31 10 (26547417323)) 31 11 (32702559844)) 31 12 (31358498807)) 31 13 (13542)) 31 14 (213596645)))) : C 102 [.ref 30] ([.inr (8, [some (some 1), some (some 3), some (some 8), some (some 17), some (some 23), some (some 27)]), .inr (2, [some (some 2), none]), .inl (.char, 3000), .inr (6, [some (some 4), some (some 5), some (some 6), some (some 7), none]), .inl (.byte, 3001), .inl (.short, 3001), .inl (.long, 3001), .inl (.long, 15), .inr (7, [none, none, none, none, none, none, none, none, none, some (some 9), some (some 10), some (some 11), some (some 12), some (some 13)]), .inl (.int, 20), .inl (.int, 32), .inl (.int, 32), .inl (.long, 32), .inr (0, [some (some 14), some (some 15), some (some 16), none]), .inl (.byte, 260), .inl (.int, 260), .inl (.int, 260), .inr (1, [some (some 3), some (some 8), some (some 18), some (some 20), some (some 21), some (some 22), none, none, none, none, none]), .inr (4, [some (some 19), none, none]), .inl (.long, 20), .inl (.long, 4), .inl (.int, 4), .inl (.long, 64), .inr (5, [some (some 24), some (some 25), some (some 26), none]), .inl (.int, 32), .inl (.int, 32), .inl (.int, 32), .inr (3, [some (some 28), some (some 29), none, none, none]), .inl (.int, 120), .inl (.int, 20), .inr (9, [some none, some none, none, none, none, none, none, none, none, none, none, none, none, some none, some none, some none, none, none, none, none, some none, none, some none, some none, some none, some none, none, none, none, none, some none, some none, some none, none, some none, none, none, some none, some none, some none, some none, some none, some none, some none, none, none, none, none, none, none, some none, some none, none, some none, some none, some none])], I, L) K := by
  refine e_X9_init hC (Nat.le_of_ble_eq_true rfl) ?_
  intro C' hC' P hP
  repeat (first | (refine hP _ ?_; conv => whnf) | (refine ⟨⟨by decide, rfl⟩, ?_⟩))
  refine ⟨vp_in_nI (n := 0) (by decide) (by decide), ?_⟩
  repeat (first | (refine hP _ ?_; conv => whnf) | (refine ⟨⟨by decide, rfl⟩, ?_⟩))
  refine ⟨vp_in_nI (n := 1) (by decide) (by decide), ?_⟩
  repeat (first | (refine hP _ ?_; conv => whnf) | (refine ⟨⟨by decide, rfl⟩, ?_⟩))
  refine ⟨vp_in_nI (n := 2) (by decide) (by decide), ?_⟩
  repeat (first | (refine hP _ ?_; conv => whnf) | (refine ⟨⟨by decide, rfl⟩, ?_⟩))
  refine ⟨vp_in_nI (n := 3) (by decide) (by decide), ?_⟩
  repeat (first | (refine hP _ ?_; conv => whnf) | (refine ⟨⟨by decide, rfl⟩, ?_⟩))
  refine ⟨vp_in_nI (n := 4) (by decide) (by decide), ?_⟩
  repeat (first | (refine hP _ ?_; conv => whnf) | (refine ⟨⟨by decide, rfl⟩, ?_⟩))
  refine ⟨vp_in_nI (n := 5) (by decide) (by decide), ?_⟩
  repeat (first | (refine hP _ ?_; conv => whnf) | (refine ⟨⟨by decide, rfl⟩, ?_⟩))
  refine ⟨vp_in_nI (n := 6) (by decide) (by decide), ?_⟩
  repeat (first | (refine hP _ ?_; conv => whnf) | (refine ⟨⟨by decide, rfl⟩, ?_⟩))
  refine ⟨vp_in_nI (n := 7) (by decide) (by decide), ?_⟩
  repeat (first | (refine hP _ ?_; conv => whnf) | (refine ⟨⟨by decide, rfl⟩, ?_⟩))
  refine ⟨vp_in_nI (n := 8) (by decide) (by decide), ?_⟩
  repeat (first | (refine hP _ ?_; conv => whnf) | (refine ⟨⟨by decide, rfl⟩, ?_⟩))
  refine ⟨vp_in_nI (n := 9) (by decide) (by decide), ?_⟩
  repeat (first | (refine hP _ ?_; conv => whnf) | (refine ⟨⟨by decide, rfl⟩, ?_⟩))
  refine ⟨vp_in_nI (n := 10) (by decide) (by decide), ?_⟩
  repeat (first | (refine hP _ ?_; conv => whnf) | (refine ⟨⟨by decide, rfl⟩, ?_⟩))
  refine ⟨vp_in_nI (n := 11) (by decide) (by decide), ?_⟩
  repeat (first | (refine hP _ ?_; conv => whnf) | (refine ⟨⟨by decide, rfl⟩, ?_⟩))
  refine ⟨vp_in_nI (n := 12) (by decide) (by decide), ?_⟩
  repeat (first | (refine hP _ ?_; conv => whnf) | (refine ⟨⟨by decide, rfl⟩, ?_⟩))
  refine ⟨vp_in_nI (n := 13) (by decide) (by decide), ?_⟩
  repeat (first | (refine hP _ ?_; conv => whnf) | (refine ⟨⟨by decide, rfl⟩, ?_⟩))
  refine ⟨vp_in_nI (n := 14) (by decide) (by decide), ?_⟩
  repeat (first | (refine hP _ ?_; conv => whnf) | (refine ⟨⟨by decide, rfl⟩, ?_⟩))
  exact hK
