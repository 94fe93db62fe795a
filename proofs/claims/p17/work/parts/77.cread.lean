/-! ===== the class reads ===== -/
theorem c_arms {XL : Nat} {XS : Nat → Int32} {n : Nat} {C : mC} {I : Nat → Nat → Int32} {L : Nat → Nat → Int64} {K : mK} {tx : List Nat} {m : Nat} {I0 : Nat → Nat → Int32} {L0 : Nat → Nat → Int64} {r : JRs} (hC : m_Ge XL XS (n + 41) C) (hX : CX tx m I0 L0 r I L) (hA : ∀ s, r = .ok s → AI s ∧ s.ars = [] ∧ s.cd = []) (hK : ∀ I' L', CXa tx m I0 L0 (jarms tx true 21 r) I' L' → (∀ s, jarms tx true 21 r = .ok s → AI s) → K none (m_SH, I', L')) : C 18 [.ref 17] (m_SH, I, L) K := by
  refine e_X1_arms hC (Nat.le_of_ble_eq_true rfl) ?_
  intro C' hC' P hP
  have loop : ∀ (i c : Nat) (q : JRs) (J : Nat → Nat → Int32) (M : Nat → Nat → Int64), c + i = 21 → CXa tx m I0 L0 q J M → (∀ s, q = .ok s → AI s ∧ s.ars.length = c ∧ Cb s) → (∀ I' L', CXa tx m I0 L0 (jarms tx true i q) I' L' → (∀ s, jarms tx true i q = .ok s → AI s) → K none (m_SH, I', L')) → P (2, [some (.ref 17), some (.int (nI c))], [], (m_SH, J, M), 0, 0) := by
    intro i
    induction i with
    | zero =>
      intro c q J M hc hq hqs hk
      repeat (refine hP _ ?_; conv => whnf)
      refine ⟨fun _ => ?_, fun z => absurd (show nI 20 < nI c from nI_lt (by omega) (by omega)) z⟩
      repeat (refine hP _ ?_; conv => whnf)
      exact hk _ _ hq (fun s e => (hqs s e).1)
    | succ i ih =>
      intro c q J M hc hq hqs hk
      unfold jarms at hk
      repeat (refine hP _ ?_; conv => whnf)
      refine ⟨fun z => absurd ((nI_ltI (a := 20) (b := c) (by omega) (by omega)).mp z) (by omega), fun _ => ?_⟩
      rcases hq with hq | ⟨s, hs, hqe, n20, n6, n7⟩
      · have e6 := nI_eq (a := jkd tx q) (b := 6) (jkd_lt tx _) (by omega)
        have e7 := nI_eq (a := jkd tx q) (b := 7) (jkd_lt tx _) (by omega)
        have go : (jkd tx q = 6 ∨ jkd tx q = 7) → P (26, [some (.ref 17), some (.int (nI c))], [], (m_SH, J, M), 0, 0) := by
          intro g
          cases q with
          | error e => exact absurd g (by show ¬ (0 = 6 ∨ 0 = 7); decide)
          | ok s =>
            obtain ⟨s1, s2, s3⟩ := hqs s rfl
            rw [if_pos g] at hk
            subst s2
            repeat (refine hP _ ?_; conv => whnf)
            refine c_arm (n := n) hC' hq g (fun w => by obtain ⟨e, e1, e2, -⟩ := s1.1 w; exact ⟨e, e1, e2⟩) s1.2.2.1 s1.2.2.2.1 s1.2.2.2.2.1 (fun I2 L2 h2 => ?_)
            have e2 := ih (s.ars.length + 1) _ I2 L2 (by omega) h2 (fun z ez => by
              obtain ⟨z1, z2⟩ := jarm_ok ez s3
              refine ⟨AI_arm s1 ez, ?_, z1⟩
              rw [z2, List.length_append]; rfl) hk
            rw [← nI_1] at e2
            iterate 2 (refine hP _ ?_; conv => whnf)
            exact e2
        repeat (refine hP _ ?_; conv => whnf)
        refine c_kindX (n := n + 39) hC' hq ?_
        repeat (refine hP _ ?_; conv => whnf)
        refine ⟨fun z => go (Or.inl (e6.mp z)), fun z6 => ?_⟩
        repeat (refine hP _ ?_; conv => whnf)
        refine c_kindX (n := n + 39) hC' hq ?_
        repeat (refine hP _ ?_; conv => whnf)
        refine ⟨fun z => go (Or.inr (e7.mp z)), fun z7 => ?_⟩
        rw [if_neg (fun t => t.elim (fun a => z6 (e6.mpr a)) (fun a => z7 (e7.mpr a)))] at hk
        repeat (refine hP _ ?_; conv => whnf)
        exact hk _ _ (Or.inl hq) (fun s e => (hqs s e).1)
      · obtain ⟨e, he⟩ := jfal_err (tx := tx) (a := 2) (r := .ok s)
        have hqe2 : q = .error e := hqe.trans he
        have e6 := nI_eq (a := jkd tx (.ok s)) (b := 6) (jkd_lt tx _) (by omega)
        have e7 := nI_eq (a := jkd tx (.ok s)) (b := 7) (jkd_lt tx _) (by omega)
        have hkd : ¬ (jkd tx q = 6 ∨ jkd tx q = 7) := by rw [hqe2]; show ¬ (0 = 6 ∨ 0 = 7); decide
        rw [if_neg hkd] at hk
        repeat (refine hP _ ?_; conv => whnf)
        refine c_kindX (n := n + 39) hC' hs ?_
        repeat (refine hP _ ?_; conv => whnf)
        refine ⟨fun z => absurd (e6.mp z) n6, fun _ => ?_⟩
        repeat (refine hP _ ?_; conv => whnf)
        refine c_kindX (n := n + 39) hC' hs ?_
        repeat (refine hP _ ?_; conv => whnf)
        refine ⟨fun z => absurd (e7.mp z) n7, fun _ => ?_⟩
        repeat (refine hP _ ?_; conv => whnf)
        exact hk _ _ (Or.inr ⟨s, hs, hqe, n20, n6, n7⟩) (fun s e => (hqs s e).1)
  iterate 2 (refine hP _ ?_; conv => whnf)
  refine loop 21 0 r I L (by omega) (Or.inl hX) (fun s e => ?_) hK
  subst e
  obtain ⟨h1, h2, h3⟩ := hA s rfl
  refine ⟨h1, by rw [h2]; rfl, ?_⟩
  unfold Cb
  rw [h3]
  exact Nat.zero_le _
/-- the class's world behind a reading -/
def CY (tx : List Nat) (m : Nat) (I0 : Nat → Nat → Int32) (L0 : Nat → Nat → Int64) (r : JRs) (I : Nat → Nat → Int32) (L : Nat → Nat → Int64) : Prop := (Fr S_jd I0 I ∧ Fr S_jdL L0 L ∧ BD I) ∧ (match r with
  | .ok s => (I 17 9 = 0 ∧ I 17 10 = -1) ∧ (I 8 6 = nI s.sm ∧ s.sm ≤ 120) ∧ CCd s I ∧ CU s.u I L
  | .error e => e.1 ≠ 0 ∧ e.1 ≤ 12 ∧ I 17 9 = nI e.1 ∧ I 17 10 = nI e.2)
theorem CX.cy {tx : List Nat} {m : Nat} {I0 : Nat → Nat → Int32} {L0 : Nat → Nat → Int64} {I : Nat → Nat → Int32} {L : Nat → Nat → Int64} {e : Nat × Nat} (h : CX tx m I0 L0 (.error e) I L) : CY tx m I0 L0 (.error e) I L := ⟨⟨h.2.1, h.2.2.1, h.2.2.2.1⟩, h.2.2.2.2⟩
theorem c_isExhaustive {XL : Nat} {XS : Nat → Int32} {n : Nat} {C : mC} {I : Nat → Nat → Int32} {L : Nat → Nat → Int64} {K : mK} {tx : List Nat} {m : Nat} {I0 : Nat → Nat → Int32} {L0 : Nat → Nat → Int64} {s : JSt} (hC : m_Ge XL XS (n + 1) C) (hX : CX tx m I0 L0 (.ok s) I L) (hA : AI s) (hK : K (some (.int (if s.dfl < 0 ∧ (¬ s.srt = 2 ∨ s.lbs.length < (ccs s).length) then 0 else 1))) (m_SH, I, L)) : C 84 [.ref 8] (m_SH, I, L) K := by
  obtain ⟨u1, u2, u3, u4, u5, u6⟩ := hX.cu
  have l1 : I 8 5 = nI s.lbs.length := hX.ok.2.2.2.2.2.2.2.1.1
  have l2 : s.lbs.length ≤ 32 := hX.ok.2.2.2.2.2.2.2.1.2.1
  refine e_X7_isExhaustive hC (Nat.le_of_ble_eq_true rfl) ?_
  intro C' hC' P hP
  repeat (refine hP _ ?_; conv => whnf)
  rw [u5]
  refine ⟨fun z => ?_, fun z => ?_⟩
  · repeat (refine hP _ ?_; conv => whnf)
    rw [u2]
    refine ⟨fun y => ?_, fun y => ?_⟩
    · have y : s.srt = 2 := y
      obtain ⟨e, e1, e2, e3, e4⟩ := hA.1 y
      have hle := hA.len y
      repeat (refine hP _ ?_; conv => whnf)
      rw [l1, u4, e3]
      refine ⟨fun w => ?_, fun w => ?_⟩
      · have := (nI_eq (a := s.lbs.length) (b := (ccs s).length) (by omega) (by omega)).mp w
        rw [if_neg (fun t => by rcases t.2 with t | t; exact t y; omega)] at hK
        repeat (refine hP _ ?_; conv => whnf)
        exact ⟨rfl, hK⟩
      · have : ¬ s.lbs.length = (ccs s).length := fun t => w (by rw [t])
        rw [if_pos ⟨z, Or.inr (by omega)⟩] at hK
        repeat (refine hP _ ?_; conv => whnf)
        exact ⟨rfl, hK⟩
    · have y : ¬ s.srt = 2 := y
      rw [if_pos ⟨z, Or.inl y⟩] at hK
      repeat (refine hP _ ?_; conv => whnf)
      exact ⟨rfl, hK⟩
  · rw [if_neg (fun t => z t.1)] at hK
    repeat (refine hP _ ?_; conv => whnf)
    exact ⟨rfl, hK⟩
theorem c_end {XL : Nat} {XS : Nat → Int32} {n : Nat} {C : mC} {I : Nat → Nat → Int32} {L : Nat → Nat → Int64} {K : mK} {tx : List Nat} {m : Nat} {I0 : Nat → Nat → Int32} {L0 : Nat → Nat → Int64} {r : JRs} (hC : m_Ge XL XS (n + 3) C) (hX : CXa tx m I0 L0 r I L) (hA : ∀ s, r = .ok s → AI s) (hK : ∀ I', CY tx m I0 L0 (jlst tx r) I' L → K none (m_SH, I', L)) : C 36 [.ref 17] (m_SH, I, L) K := by
  refine e_X1_end hC (Nat.le_of_ble_eq_true rfl) ?_
  intro C' hC' P hP
  -- behind what is wrong
  have fin : ∀ (r2 : JRs) (J : Nat → Nat → Int32), CX tx m I0 L0 r2 J L → (∀ e, r2 = .error e → jlst tx r = .error e) → (∀ s, r2 = .ok s → jlst tx r = jb (jxpc tx 20 (.ok s)) fun q => if (tk tx q.k).1 = 27 then .ok q else jfal tx 2 (.ok q)) → P (72, [some (.ref 17)], [], (m_SH, J, L), 0, 0) := by
    intro r2 J hJ he hs
    have h20 := hJ.xpc (a := 20) (by decide) (by decide)
    have h20' : CX tx m I0 L0 (jxpc tx 20 r2) (expF 20 J) L := h20
    repeat (refine hP _ ?_; conv => whnf)
    refine c_expect (k := 20) (n := n) hC' ?_
    generalize expF 20 J = J2 at h20'
    repeat (refine hP _ ?_; conv => whnf)
    refine c_expect (k := 27) (n := n) hC' ?_
    repeat (refine hP _ ?_; conv => whnf)
    refine hK _ ?_
    have er : ∀ e, jxpc tx 20 r2 = .error e → jlst tx r = .error e → CY tx m I0 L0 (jlst tx r) (expF 27 J2) L := by
      intro e e1 e2
      rw [e1] at h20'
      rw [e2]
      have hne : ¬ kindF J2 = 27 := by
        rw [h20'.kd]
        show ¬ nI 0 = 27
        decide
      have : expF 27 J2 = J2 := by
        unfold expF
        rw [if_neg hne]
        exact h20'.fail_er
      rw [this]
      exact h20'.cy
    cases r2 with
    | error e => exact er e jxpc_er (he e rfl)
    | ok s =>
      have hj := hs s rfl
      cases hx : jxpc tx 20 (.ok s) with
      | error e => exact er e hx (by rw [hj, hx]; rfl)
      | ok q =>
        rw [hx] at h20' hj
        have hj : jlst tx r = if (tk tx q.k).1 = 27 then .ok q else jfal tx 2 (.ok q) := hj
        have ek := nI_eq (a := jkd tx (.ok q)) (b := 27) (jkd_lt tx _) (by omega)
        unfold expF
        rw [h20'.kd]
        by_cases g : (tk tx q.k).1 = 27
        · rw [if_pos (show nI (jkd tx (.ok q)) = 27 from ek.mpr g)]
          rw [if_pos g] at hj
          rw [hj]
          obtain ⟨⟨a1, a2, a3, a4⟩, ⟨b1, b2⟩, c1, d, ⟨e1, e2, e3⟩, ⟨f1, f2, f3, f4, f5, f6⟩, ⟨g1, g2, g3⟩, ⟨l1, l2, l3, l4⟩, ⟨n1, n2, n3⟩⟩ := h20'.ok
          refine ⟨⟨h20'.2.1.up rfl, h20'.2.2.1, ?_⟩, ⟨by simp [m_upr]; exact a1, by simp [m_upr]; exact a2⟩, ⟨by simp [m_upr]; exact b1, b2⟩, ⟨by simp [m_upr]; exact e1, e2, fun j hj => (e3 j hj).trans (by simp [m_upr])⟩, ⟨by simp [m_upr]; exact f1, by simp [m_upr]; exact f2, by simp [m_upr]; exact f3, by simp [m_upr]; exact f4, by simp [m_upr]; exact f5, by simp [m_upr]; exact f6⟩, ⟨by simp [m_upr]; exact g1, g2, fun j hj => Eq.trans (by simp [m_upr]) (g3 j hj)⟩, ⟨by simp [m_upr]; exact l1, l2, fun j y hy => by simp [m_upr]; exact l3 j y hy, l4⟩, ⟨by simp [m_upr]; exact n1, n2, fun e y hy => by simp [m_upr]; exact n3 e y hy⟩⟩
          have := h20'.2.2.2.1
          simpa [BD, m_upr] using this
        · rw [if_neg (show ¬ nI (jkd tx (.ok q)) = 27 from fun t => g (ek.mp t))]
          rw [if_neg g] at hj
          have hf := h20'.fail (a := 2) (by decide) (by decide)
          rw [← hj] at hf
          obtain ⟨e, he2⟩ := jfal_err (tx := tx) (a := 2) (r := .ok q)
          rw [hj, he2] at hf ⊢
          exact hf.cy
  rcases hX with hX | ⟨s, hs, hqe, n20, n6, n7⟩
  · have e20 := nI_eq (a := jkd tx r) (b := 20) (jkd_lt tx _) (by omega)
    have plain : (∀ s, r = .ok s → ¬ ((tk tx s.k).1 = 20 ∧ ¬ s.val = 0 ∧ ((¬ s.old = 0 ∧ ¬ s.set = -1) ∨ (s.dfl < 0 ∧ (¬ s.srt = 2 ∨ s.lbs.length < (ccs s).length))))) → P (72, [some (.ref 17)], [], (m_SH, I, L), 0, 0) := by
      intro hno
      refine fin r I hX (fun e q => by subst q; rfl) (fun s q => ?_)
      subst q
      have hns := hno s rfl
      unfold jlst jxpc
      simp only [jb]
      by_cases g20 : (tk tx s.k).1 = 20
      · rw [if_neg (fun w => w g20), if_neg (fun w => hns ⟨g20, w.1, Or.inl w.2⟩), if_neg (fun w => hns ⟨g20, w.1, Or.inr w.2⟩), if_pos (show jkd tx (.ok s) = 20 from g20)]
        rfl
      · rw [if_pos g20, if_neg (show ¬ jkd tx (.ok s) = 20 from g20)]
        rfl
    repeat (refine hP _ ?_; conv => whnf)
    refine c_kindX (n := n + 1) hC' hX ?_
    repeat (refine hP _ ?_; conv => whnf)
    refine ⟨fun z => ?_, fun z => plain (fun s q w => ?_)⟩
    rotate_left
    · subst q
      exact z (e20.mpr w.1)
    · cases r with
      | error e => exact absurd (e20.mp z) (by show ¬ 0 = 20; decide)
      | ok s =>
        have g20 : (tk tx s.k).1 = 20 := e20.mp z
        obtain ⟨u1, u2, u3, u4, u5, u6⟩ := hX.cu
        have hset : I 18 2 = s.set := hX.ok.2.2.1
        repeat (refine hP _ ?_; conv => whnf)
        rw [u1]
        refine ⟨fun w => plain (fun q e y => by cases e; exact y.2.1 w), fun w => ?_⟩
        have s52 : ¬ (¬ s.old = 0 ∧ ¬ s.set = -1) → P (52, [some (.ref 17)], [], (m_SH, I, L), 0, 0) := by
          intro h10
          repeat (refine hP _ ?_; conv => whnf)
          refine c_isExhaustive (n := n + 1) hC' hX (hA s rfl) ?_
          by_cases g11 : s.dfl < 0 ∧ (¬ s.srt = 2 ∨ s.lbs.length < (ccs s).length)
          · rw [if_pos g11]
            repeat (refine hP _ ?_; conv => whnf)
            refine ⟨fun _ => ?_, fun y => absurd rfl y⟩
            repeat (refine hP _ ?_; conv => whnf)
            refine c_failX (a := 11) (n := n + 1) hC' hX (by decide) (by decide) (fun I' h' => ?_)
            have hj : jlst tx (.ok s) = jfal tx 11 (.ok s) := by
              unfold jlst
              simp only [jb]
              rw [if_neg (fun w => w g20), if_neg (fun y => h10 y.2), if_pos ⟨w, g11⟩]
            refine fin _ I' h' (fun e q => by rw [hj]; exact q) (fun q e => by cases e)
          · rw [if_neg g11]
            iterate 1 (refine hP _ ?_; conv => whnf)
            refine ⟨fun y => absurd y (by decide), fun _ => ?_⟩
            exact plain (fun q e y => by
              cases e
              rcases y.2.2 with t | t
              · exact h10 t
              · exact g11 t)
        repeat (refine hP _ ?_; conv => whnf)
        rw [u6]
        refine ⟨fun y => s52 (fun t => t.1 y), fun y => ?_⟩
        repeat (refine hP _ ?_; conv => whnf)
        refine c_isReached (n := n + 1) hC' ?_
        rw [hset]
        by_cases gs : s.set = -1
        · rw [if_pos gs]
          iterate 1 (refine hP _ ?_; conv => whnf)
          exact ⟨fun _ => s52 (fun t => t.2 gs), fun t => absurd rfl t⟩
        · rw [if_neg gs]
          repeat (refine hP _ ?_; conv => whnf)
          refine ⟨fun t => absurd t (by decide), fun _ => ?_⟩
          repeat (refine hP _ ?_; conv => whnf)
          refine c_failX (a := 10) (n := n + 1) hC' hX (by decide) (by decide) (fun I' h' => ?_)
          have hj : jlst tx (.ok s) = jfal tx 10 (.ok s) := by
            unfold jlst
            simp only [jb]
            rw [if_neg (fun w => w g20), if_pos ⟨w, y, gs⟩]
          iterate 1 (refine hP _ ?_; conv => whnf)
          refine fin _ I' h' (fun e q => by rw [hj]; exact q) (fun q e => by cases e)
  · have e20 := nI_eq (a := jkd tx (.ok s)) (b := 20) (jkd_lt tx _) (by omega)
    repeat (refine hP _ ?_; conv => whnf)
    refine c_kindX (n := n + 1) hC' hs ?_
    repeat (refine hP _ ?_; conv => whnf)
    refine ⟨fun z => absurd (e20.mp z) n20, fun _ => ?_⟩
    obtain ⟨e, he⟩ := jfal_err (tx := tx) (a := 2) (r := .ok s)
    refine fin (.ok s) I hs (fun e q => by cases q) (fun q e2 => ?_)
    cases e2
    have h1 : jlst tx r = .error e := by rw [hqe, he]; rfl
    have h2 : jxpc tx 20 (.ok s) = .error e := by
      unfold jxpc
      rw [if_neg (show ¬ jkd tx (.ok s) = 20 from n20)]
      exact he
    rw [h1, h2]
    rfl
