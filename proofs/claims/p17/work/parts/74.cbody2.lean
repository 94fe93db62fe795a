theorem jstmt_19 {tx : List Nat} {s q : JSt} (hk : (tk tx s.k).1 = 19) (h : jstmt tx 11 (.ok s) = .ok q) : 0 < q.k := by
  rw [jstmt_11 (by rw [hk]; decide)] at h
  cases ho : jopn tx 0 (.ok s) with
  | error e => rw [ho] at h; cases h
  | ok s2 =>
    obtain ⟨z, e1, e2, -⟩ := jopn_ok ho
    cases e1
    rw [ho] at h
    simp only [jb] at h
    rw [if_pos (show (tk tx s2.k).1 = 19 by rw [e2]; exact hk)] at h
    have hblk : jblk tx (jstmt tx 10) (.ok s2) = jshr s2.nm.length (jxpc tx 20 (jloop tx (jstmt tx 10) 121 (.ok (s2.wk (s2.k + 1))))) := rfl
    rw [hblk] at h
    cases hx : jxpc tx 20 (jloop tx (jstmt tx 10) 121 (.ok (s2.wk (s2.k + 1)))) with
    | error e => rw [hx] at h; cases h
    | ok y =>
      rw [hx] at h
      cases h
      obtain ⟨w, -, rfl, -⟩ := jxpc_ok hx
      exact Nat.succ_pos _
theorem c_body {XL : Nat} {XS : Nat → Int32} {n : Nat} {C : mC} {I : Nat → Nat → Int32} {L : Nat → Nat → Int64} {K : mK} {tx : List Nat} {m : Nat} {I0 : Nat → Nat → Int32} {L0 : Nat → Nat → Int64} {r : JRs} (hC : m_Ge XL XS (n + 38) C) (hX : CX tx m I0 L0 r I L) (hK : ∀ I' L', CX tx m I0 L0 (jemt 5 1 0 (jbC tx r)) I' L' → K none (m_SH, I', L')) : C 22 [.ref 17] (m_SH, I, L) K := by
  refine e_X1_body hC (Nat.le_of_ble_eq_true rfl) ?_
  intro C' hC' P hP
  -- the end
  have s128 : ∀ (r1 r2 : JRs) (J : Nat → Nat → Int32) (M : Nat → Nat → Int64) (l2 l3 : Int32), CX tx m I0 L0 r1 J M → (∀ e, r1 = .error e → r2 = .error e) → (∀ q, r1 = .ok q → ∃ s, r = .ok s ∧ q.u = s.u ∧ ((tk tx s.k).1 = 19 → 0 < q.k) ∧ r2 = (if ¬ s.val = 0 ∧ (tk tx s.k).1 = 19 then (if q.set = -1 then .ok q else jflt tx 10 (q.k - 1) (.ok q)) else .ok q)) → (∀ I' L', CX tx m I0 L0 (jemt 5 1 0 r2) I' L' → K none (m_SH, I', L')) → P (128, [some (.ref 17), some (.int (nI (jkd tx r))), some (.int l2), some (.int l3)], [], (m_SH, J, M), 0, 0) := by
    intro r1 r2 J M l2 l3 hJ he hq hk
    have s166 : ∀ J', CX tx m I0 L0 r2 J' M → P (166, [some (.ref 17), some (.int (nI (jkd tx r))), some (.int l2), some (.int l3)], [], (m_SH, J', M), 0, 0) := by
      intro J' h'
      repeat (refine hP _ ?_; conv => whnf)
      refine c_stepX (k := 5) (a := 1) (b := 0) (n := n + 36) hC' h' (by decide) (fun I3 h3 => ?_)
      repeat (refine hP _ ?_; conv => whnf)
      exact hk _ _ h3
    have e19 := nI_eq (a := jkd tx r) (b := 19) (jkd_lt tx _) (by omega)
    cases r1 with
    | error e =>
      have h2 := he e rfl
      subst h2
      repeat (refine hP _ ?_; conv => whnf)
      refine ⟨fun _ => s166 J hJ, fun _ => ?_⟩
      repeat (refine hP _ ?_; conv => whnf)
      refine ⟨fun _ => ?_, fun _ => s166 J hJ⟩
      repeat (refine hP _ ?_; conv => whnf)
      refine c_isReached (n := n + 36) hC' ?_
      repeat (refine hP _ ?_; conv => whnf)
      refine ⟨fun _ => s166 J hJ, fun _ => ?_⟩
      repeat (refine hP _ ?_; conv => whnf)
      refine c_fail (n := n + 36) hC' ?_
      rw [hJ.fail_er]
      exact s166 J hJ
    | ok q =>
      obtain ⟨s, rfl, hu, hp, hr2⟩ := hq q rfl
      have hv : J 8 1 = s.val := by
        rw [hJ.cu.1]
        unfold JSt.val
        rw [hu]
      repeat (refine hP _ ?_; conv => whnf)
      rw [hv]
      refine ⟨fun w => ?_, fun w => ?_⟩
      · rw [if_neg (fun y => y.1 w)] at hr2
        subst hr2
        exact s166 J hJ
      · repeat (refine hP _ ?_; conv => whnf)
        refine ⟨fun y => ?_, fun y => ?_⟩
        · have g19 : (tk tx s.k).1 = 19 := e19.mp y
          rw [if_pos ⟨w, g19⟩] at hr2
          have hset : J 18 2 = q.set := hJ.ok.2.2.1
          have hat := hJ.at_ok
          have hp := hp g19
          repeat (refine hP _ ?_; conv => whnf)
          refine c_isReached (n := n + 36) hC' ?_
          rw [hset]
          by_cases gs : q.set = -1
          · rw [if_pos gs] at hr2 ⊢
            subst hr2
            iterate 1 (refine hP _ ?_; conv => whnf)
            exact ⟨fun _ => s166 J hJ, fun z => absurd rfl z⟩
          · rw [if_neg gs] at hr2 ⊢
            repeat (refine hP _ ?_; conv => whnf)
            refine ⟨fun z => absurd z (by decide), fun _ => ?_⟩
            repeat (refine hP _ ?_; conv => whnf)
            rw [hat, show nI q.k - 1 = nI (q.k - 1) by rw [show (1 : Int32) = nI 1 from rfl, sub_nI (by omega)]]
            refine c_fail (n := n + 36) hC' ?_
            have hf := hJ.failAt (a := 10) (j := q.k - 1) (by decide) (by decide) (by have := hJ.km_ok; omega)
            rw [← hr2] at hf
            exact s166 _ hf
        · have g19 : ¬ (tk tx s.k).1 = 19 := fun t => y (e19.mpr t)
          rw [if_neg (fun y => g19 y.2)] at hr2
          subst hr2
          exact s166 J hJ
  -- what it is
  have s85 : ∀ l2, (∀ s, r = .ok s → ¬ (¬ s.val = 0 ∧ ((tk tx s.k).1 = 25 ∨ (tk tx s.k).1 = 17))) → P (85, [some (.ref 17), some (.int (nI (jkd tx r))), some (.int l2), some (.int (if jkd tx r = 8 ∨ jkd tx r = 10 ∨ jkd tx r = 16 ∨ jkd tx r = 11 then 1 else 0))], [], (m_SH, I, L), 0, 0) := by
    intro l2 hy
    have e19 := nI_eq (a := jkd tx r) (b := 19) (jkd_lt tx _) (by omega)
    have e13 := nI_eq (a := jkd tx r) (b := 13) (jkd_lt tx _) (by omega)
    have bad : (∀ s, r = .ok s → ¬ ((tk tx s.k).1 = 19 ∨ (tk tx s.k).1 = 13 ∨ (((tk tx s.k).1 = 8 ∨ (tk tx s.k).1 = 10 ∨ (tk tx s.k).1 = 16 ∨ (tk tx s.k).1 = 11) ∧ s.val = 0))) → P (119, [some (.ref 17), some (.int (nI (jkd tx r))), some (.int l2), some (.int (if jkd tx r = 8 ∨ jkd tx r = 10 ∨ jkd tx r = 16 ∨ jkd tx r = 11 then 1 else 0))], [], (m_SH, I, L), 0, 0) := by
      intro hb
      have hj : jbC tx r = jfal tx 2 r := by
        cases r with
        | error e => rfl
        | ok s =>
          show (if _ then _ else _) = _
          rw [if_neg (hy s rfl), if_neg (hb s rfl)]
      rw [hj] at hK
      repeat (refine hP _ ?_; conv => whnf)
      refine c_failX (a := 2) (n := n + 36) hC' hX (by decide) (by decide) (fun I' h' => ?_)
      refine s128 (jfal tx 2 r) (jfal tx 2 r) I' L _ _ h' (fun e q => q) (fun q e => ?_) hK
      obtain ⟨e2, he⟩ := jfal_err (tx := tx) (a := 2) (r := r)
      rw [he] at e
      cases e
    have good : (∃ s, r = .ok s ∧ ((tk tx s.k).1 = 19 ∨ (tk tx s.k).1 = 13 ∨ (((tk tx s.k).1 = 8 ∨ (tk tx s.k).1 = 10 ∨ (tk tx s.k).1 = 16 ∨ (tk tx s.k).1 = 11) ∧ s.val = 0))) → P (111, [some (.ref 17), some (.int (nI (jkd tx r))), some (.int l2), some (.int (if jkd tx r = 8 ∨ jkd tx r = 10 ∨ jkd tx r = 16 ∨ jkd tx r = 11 then 1 else 0))], [], (m_SH, I, L), 0, 0) := by
      intro hg
      obtain ⟨s, rfl, g⟩ := hg
      have hj : jbC tx (.ok s) = (if ¬ s.val = 0 ∧ (tk tx s.k).1 = 19 then jb (jstmt tx 11 (.ok s)) fun q => if q.set = -1 then .ok q else jflt tx 10 (q.k - 1) (.ok q) else jstmt tx 11 (.ok s)) := by
        show (if _ then _ else _) = _
        rw [if_neg (hy s rfl), if_pos g]
      rw [hj] at hK
      repeat (refine hP _ ?_; conv => whnf)
      refine c_stmt 11 (Nat.le_refl _) _ _ (.ok s) I L (m_Ge.le hC' (by omega)) hX (fun I' L' h' => ?_)
      iterate 1 (refine hP _ ?_; conv => whnf)
      refine s128 (jstmt tx 11 (.ok s)) _ I' L' _ _ h' (fun e q => ?_) (fun q e => ?_) hK
      · rw [q]
        split <;> rfl
      · refine ⟨s, rfl, Ku_stmt 11 _ (Ku_ok rfl) q e, fun g19 => jstmt_19 g19 e, ?_⟩
        rw [e]
        split <;> rfl
    repeat (refine hP _ ?_; conv => whnf)
    refine ⟨fun z => ?_, fun z => ?_⟩
    · have g : jkd tx r = 19 := e19.mp z
      refine good ?_
      cases r with
      | error e => exact absurd g (by show ¬ 0 = 19; decide)
      | ok s => exact ⟨s, rfl, Or.inl g⟩
    · have g19 : ¬ jkd tx r = 19 := fun y => z (e19.mpr y)
      repeat (refine hP _ ?_; conv => whnf)
      refine ⟨fun z => ?_, fun z => ?_⟩
      · have g : jkd tx r = 13 := e13.mp z
        refine good ?_
        cases r with
        | error e => exact absurd g (by show ¬ 0 = 13; decide)
        | ok s => exact ⟨s, rfl, Or.inr (Or.inl g)⟩
      · have g13 : ¬ jkd tx r = 13 := fun y => z (e13.mpr y)
        by_cases gs : jkd tx r = 8 ∨ jkd tx r = 10 ∨ jkd tx r = 16 ∨ jkd tx r = 11
        · cases r with
          | error e => exact absurd gs (by show ¬ (0 = 8 ∨ 0 = 10 ∨ 0 = 16 ∨ 0 = 11); decide)
          | ok s =>
            rw [if_pos gs] at good bad ⊢
            repeat (refine hP _ ?_; conv => whnf)
            refine ⟨fun w => absurd w (by decide), fun _ => ?_⟩
            repeat (refine hP _ ?_; conv => whnf)
            rw [hX.cu.1]
            refine ⟨fun w => good ⟨s, rfl, Or.inr (Or.inr ⟨gs, w⟩)⟩, fun w => bad (fun q e => ?_)⟩
            cases e
            intro t
            rcases t with t | t | t
            · exact g19 t
            · exact g13 t
            · exact w t.2
        · rw [if_neg gs] at bad ⊢
          iterate 2 (refine hP _ ?_; conv => whnf)
          refine ⟨fun _ => bad (fun q e => ?_), fun w => absurd rfl w⟩
          subst e
          intro t
          rcases t with t | t | t
          · exact g19 t
          · exact g13 t
          · exact gs t.1
  -- is it yielded
  have s63 : ∀ l2, (l2 = 0 ∧ (∀ s, r = .ok s → ¬ (¬ s.val = 0 ∧ ((tk tx s.k).1 = 25 ∨ (tk tx s.k).1 = 17))) ∨ l2 = 1 ∧ ∃ s, r = .ok s ∧ ¬ s.val = 0 ∧ ((tk tx s.k).1 = 25 ∨ (tk tx s.k).1 = 17)) → P (63, [some (.ref 17), some (.int (nI (jkd tx r))), some (.int l2), some (.int (if jkd tx r = 8 ∨ jkd tx r = 10 ∨ jkd tx r = 16 ∨ jkd tx r = 11 then 1 else 0))], [], (m_SH, I, L), 0, 0) := by
    intro l2 hl2
    iterate 2 (refine hP _ ?_; conv => whnf)
    rcases hl2 with ⟨h0, hy⟩ | ⟨h1, hy⟩
    · refine ⟨fun _ => s85 _ hy, fun w => absurd h0 w⟩
    · subst h1
      refine ⟨fun w => absurd w (by decide), fun _ => ?_⟩
      obtain ⟨s, rfl, g⟩ := hy
      have hj : jbC tx (.ok s) = jxpc tx 22 (jyld tx (jopn tx 0 (.ok s))) := by
        show (if _ then _ else _) = _
        rw [if_pos g]
      rw [hj] at hK
      repeat (refine hP _ ?_; conv => whnf)
      refine c_openStmt (d := 0) (n := n + 35) hC' hX (by omega) (fun I2 h2 => ?_)
      repeat (refine hP _ ?_; conv => whnf)
      refine c_yieldNumber (n := n + 34) hC' h2 (fun I3 h3 => ?_)
      repeat (refine hP _ ?_; conv => whnf)
      refine c_expectX (k := 22) (n := n + 35) hC' h3 (by decide) (by decide) (fun I4 h4 => ?_)
      iterate 1 (refine hP _ ?_; conv => whnf)
      refine s128 _ _ I4 L _ _ h4 (fun e q => q) (fun q e => ?_) hK
      refine ⟨s, rfl, Ku_xpc (Ku_yld (Ku_opn (Ku_ok rfl))) q e, fun w => by omega, ?_⟩
      rw [e, if_neg (fun w => by omega)]
  have s32 : ∀ l2, (l2 = 0 ∧ (∀ s, r = .ok s → ¬ (¬ s.val = 0 ∧ ((tk tx s.k).1 = 25 ∨ (tk tx s.k).1 = 17))) ∨ l2 = 1 ∧ ∃ s, r = .ok s ∧ ¬ s.val = 0 ∧ ((tk tx s.k).1 = 25 ∨ (tk tx s.k).1 = 17)) → P (32, [some (.ref 17), some (.int (nI (jkd tx r))), none, none], [.int l2], (m_SH, I, L), 0, 0) := by
    intro l2 hl2
    have h63 := s63 l2 hl2
    have e8 := nI_eq (a := jkd tx r) (b := 8) (jkd_lt tx _) (by omega)
    have e10 := nI_eq (a := jkd tx r) (b := 10) (jkd_lt tx _) (by omega)
    have e16 := nI_eq (a := jkd tx r) (b := 16) (jkd_lt tx _) (by omega)
    have e11 := nI_eq (a := jkd tx r) (b := 11) (jkd_lt tx _) (by omega)
    have yes : (jkd tx r = 8 ∨ jkd tx r = 10 ∨ jkd tx r = 16 ∨ jkd tx r = 11) → P (57, [some (.ref 17), some (.int (nI (jkd tx r))), some (.int l2), none], [], (m_SH, I, L), 0, 0) := by
      intro g
      rw [if_pos g] at h63
      iterate 3 (refine hP _ ?_; conv => whnf)
      exact h63
    iterate 4 (refine hP _ ?_; conv => whnf)
    refine ⟨fun z => yes (Or.inl (e8.mp z)), fun z8 => ?_⟩
    iterate 3 (refine hP _ ?_; conv => whnf)
    refine ⟨fun z => yes (Or.inr (Or.inl (e10.mp z))), fun z10 => ?_⟩
    iterate 3 (refine hP _ ?_; conv => whnf)
    refine ⟨fun z => yes (Or.inr (Or.inr (Or.inl (e16.mp z)))), fun z16 => ?_⟩
    iterate 3 (refine hP _ ?_; conv => whnf)
    refine ⟨fun z => yes (Or.inr (Or.inr (Or.inr (e11.mp z)))), fun z11 => ?_⟩
    have g : ¬ (jkd tx r = 8 ∨ jkd tx r = 10 ∨ jkd tx r = 16 ∨ jkd tx r = 11) := by
      intro t
      rcases t with t | t | t | t
      · exact z8 (e8.mpr t)
      · exact z10 (e10.mpr t)
      · exact z16 (e16.mpr t)
      · exact z11 (e11.mpr t)
    rw [if_neg g] at h63
    iterate 2 (refine hP _ ?_; conv => whnf)
    exact h63
  have e25 := nI_eq (a := jkd tx r) (b := 25) (jkd_lt tx _) (by omega)
  have e17 := nI_eq (a := jkd tx r) (b := 17) (jkd_lt tx _) (by omega)
  have no : (∀ s, r = .ok s → ¬ (¬ s.val = 0 ∧ ((tk tx s.k).1 = 25 ∨ (tk tx s.k).1 = 17))) → P (31, [some (.ref 17), some (.int (nI (jkd tx r))), none, none], [], (m_SH, I, L), 0, 0) := by
    intro h
    iterate 1 (refine hP _ ?_; conv => whnf)
    exact s32 0 (Or.inl ⟨rfl, h⟩)
  have yes : (∃ s, r = .ok s ∧ ¬ s.val = 0 ∧ ((tk tx s.k).1 = 25 ∨ (tk tx s.k).1 = 17)) → P (27, [some (.ref 17), some (.int (nI (jkd tx r))), none, none], [], (m_SH, I, L), 0, 0) := by
    intro h
    iterate 2 (refine hP _ ?_; conv => whnf)
    exact s32 1 (Or.inr ⟨rfl, h⟩)
  repeat (refine hP _ ?_; conv => whnf)
  refine c_kindX (n := n + 36) hC' hX ?_
  iterate 5 (refine hP _ ?_; conv => whnf)
  cases r with
  | error e =>
    refine ⟨fun _ => no (fun s e => by cases e), fun _ => ?_⟩
    iterate 3 (refine hP _ ?_; conv => whnf)
    refine ⟨fun z => absurd (show nI 0 = nI 25 from z) (by decide), fun _ => ?_⟩
    iterate 3 (refine hP _ ?_; conv => whnf)
    exact ⟨fun z => absurd (show nI 0 = nI 17 from z) (by decide), fun _ => no (fun s e => by cases e)⟩
  | ok s =>
    rw [hX.cu.1]
    refine ⟨fun w => no (fun q e => by cases e; exact fun t => t.1 w), fun w => ?_⟩
    iterate 3 (refine hP _ ?_; conv => whnf)
    refine ⟨fun z => yes ⟨s, rfl, w, Or.inl (e25.mp z)⟩, fun z25 => ?_⟩
    iterate 3 (refine hP _ ?_; conv => whnf)
    refine ⟨fun z => yes ⟨s, rfl, w, Or.inr (e17.mp z)⟩, fun z17 => ?_⟩
    refine no (fun q e => ?_)
    cases e
    intro t
    rcases t.2 with t | t
    · exact z25 (e25.mpr t)
    · exact z17 (e17.mpr t)
