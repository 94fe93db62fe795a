/-! ===== the class judges a stmt ===== -/
def HSt (XL : Nat) (XS : Nat → Int32) (tx : List Nat) (m : Nat) (I0 : Nat → Nat → Int32) (L0 : Nat → Nat → Int64) (f : Nat) : Prop := ∀ (C : mC) (K : mK) (r : JRs) (I : Nat → Nat → Int32) (L : Nat → Nat → Int64), m_Ge XL XS (3 * f + 4) C → CX tx m I0 L0 r I L → (∀ I' L', CX tx m I0 L0 (jstmt tx f r) I' L' → K none (m_SH, I', L')) → C 26 [.ref 17, .int (nI (11 - f))] (m_SH, I, L) K
theorem bgF_jbgn {tx : List Nat} {r : JRs} : bgF (nI (jkd tx r)) = if jbgn (jkd tx r) = true then 1 else 0 := by
  have h : ∀ k : Fin 29, bgF (nI k.val) = if jbgn k.val = true then 1 else 0 := by decide +kernel
  exact h ⟨jkd tx r, jkd_29 tx r⟩
theorem c_beginsX {XL : Nat} {XS : Nat → Int32} {n : Nat} {C : mC} {I : Nat → Nat → Int32} {L : Nat → Nat → Int64} {K : mK} {tx : List Nat} {r : JRs} (hC : m_Ge XL XS (n + 1) C) (hK : K (some (.int (if jbgn (jkd tx r) = true then 1 else 0))) (m_SH, I, L)) : C 24 [.int (nI (jkd tx r))] (m_SH, I, L) K := by
  refine c_beginsStmt hC ?_
  rw [bgF_jbgn]
  exact hK
theorem c_stmts_of {XL : Nat} {XS : Nat → Int32} {C : mC} {K : mK} {tx : List Nat} {m : Nat} {I0 : Nat → Nat → Int32} {L0 : Nat → Nat → Int64} {r : JRs} {I : Nat → Nat → Int32} {L : Nat → Nat → Int64} {f : Nat} (H : HSt XL XS tx m I0 L0 f) (hC : m_Ge XL XS (3 * f + 4 + 1) C) (hX : CX tx m I0 L0 r I L) (hK : ∀ I' L', CX tx m I0 L0 (jloop tx (jstmt tx f) 121 r) I' L' → K none (m_SH, I', L')) : C 23 [.ref 17, .int (nI (11 - f))] (m_SH, I, L) K := by
  refine e_X1_stmts hC (Nat.le_of_ble_eq_true rfl) ?_
  intro C' hC' P hP
  have loop : ∀ (i c : Nat) (q : JRs) (J : Nat → Nat → Int32) (M : Nat → Nat → Int64), c + i = 121 → CX tx m I0 L0 q J M → (∀ I' L', CX tx m I0 L0 (jloop tx (jstmt tx f) i q) I' L' → K none (m_SH, I', L')) → P (2, [some (.ref 17), some (.int (nI (11 - f))), some (.int (nI c))], [], (m_SH, J, M), 0, 0) := by
    intro i
    induction i with
    | zero =>
      intro c q J M hc hq hk
      repeat (refine hP _ ?_; conv => whnf)
      refine ⟨fun _ => ?_, fun z => absurd (nI_lt (a := 120) (b := c) (by omega) (by omega)) z⟩
      repeat (refine hP _ ?_; conv => whnf)
      exact hk _ _ hq
    | succ i ih =>
      intro c q J M hc hq hk
      repeat (refine hP _ ?_; conv => whnf)
      refine ⟨fun z => absurd ((nI_ltI (a := 120) (b := c) (by omega) (by omega)).mp z) (by omega), fun _ => ?_⟩
      repeat (refine hP _ ?_; conv => whnf)
      refine c_kindX hC' hq ?_
      repeat (refine hP _ ?_; conv => whnf)
      refine c_beginsX hC' ?_
      by_cases g : jbgn (jkd tx q) = true
      · have hu : jloop tx (jstmt tx f) (i + 1) q = jloop tx (jstmt tx f) i (jstmt tx f q) := by
          rw [jloop, if_pos g]
        rw [hu] at hk
        rw [if_pos g]
        repeat (refine hP _ ?_; conv => whnf)
        refine ⟨fun z => absurd z (by decide), fun _ => ?_⟩
        repeat (refine hP _ ?_; conv => whnf)
        refine H _ _ q J M hC' hq (fun I' L' h' => ?_)
        iterate 2 (refine hP _ ?_; conv => whnf)
        have e := ih (c + 1) _ I' L' (by omega) h' hk
        rw [← nI_1] at e
        exact e
      · have hu : jloop tx (jstmt tx f) (i + 1) q = q := by
          rw [jloop, if_neg g]
        rw [hu] at hk
        rw [if_neg g]
        repeat (refine hP _ ?_; conv => whnf)
        refine ⟨fun _ => ?_, fun z => absurd rfl z⟩
        repeat (refine hP _ ?_; conv => whnf)
        exact hk _ _ hq
  iterate 2 (refine hP _ ?_; conv => whnf)
  exact loop 121 0 r I L (by omega) hX hK
theorem c_block_of {XL : Nat} {XS : Nat → Int32} {C : mC} {K : mK} {tx : List Nat} {m : Nat} {I0 : Nat → Nat → Int32} {L0 : Nat → Nat → Int64} {I : Nat → Nat → Int32} {L : Nat → Nat → Int64} {f : Nat} {s : JSt} (H : HSt XL XS tx m I0 L0 f) (hf : f ≤ 10) (hC : m_Ge XL XS (3 * f + 4 + 2) C) (hX : CX tx m I0 L0 (.ok s) I L) (hk : (tk tx s.k).1 = 19) (hK : ∀ I' L', CX tx m I0 L0 (jblk tx (jstmt tx f) (.ok s)) I' L' → K none (m_SH, I', L')) : C 27 [.ref 17, .int (nI (10 - f))] (m_SH, I, L) K := by
  have hn1 := hX.ok.2.2.2.1.1
  have hn2 := hX.ok.2.2.2.1.2.1
  refine e_X1_block hC (Nat.le_of_ble_eq_true rfl) ?_
  intro C' hC' P hP
  repeat (refine hP _ ?_; conv => whnf)
  rw [hn1, nI_1, show 10 - f + 1 = 11 - f by omega]
  refine c_stmts_of H hC' (hX.adv (fun s2 hs2 => by cases hs2; omega)) (fun I' L' h' => ?_)
  repeat (refine hP _ ?_; conv => whnf)
  refine c_expectX (n := 3 * f + 3) (k := 20) hC' h' (by decide) (by decide) (fun I2 h2 => ?_)
  repeat (refine hP _ ?_; conv => whnf)
  refine c_shrink hC' ?_
  repeat (refine hP _ ?_; conv => whnf)
  exact hK _ _ (h2.shr hn2 (jge_xpc (jge_loop (jge_stmt f _) 121 _ (jge_adv (jge_ok (Nat.le_refl _))))))
theorem CX.gs {tx : List Nat} {m : Nat} {I0 : Nat → Nat → Int32} {L0 : Nat → Nat → Int64} {I : Nat → Nat → Int32} {L : Nat → Nat → Int64} {s : JSt} (h : CX tx m I0 L0 (.ok s) I L) : I 18 2 = s.set := h.ok.2.2.1
theorem c_branches_of {XL : Nat} {XS : Nat → Int32} {C : mC} {K : mK} {tx : List Nat} {m : Nat} {I0 : Nat → Nat → Int32} {L0 : Nat → Nat → Int64} {I : Nat → Nat → Int32} {L : Nat → Nat → Int64} {f : Nat} {s : JSt} (H : HSt XL XS tx m I0 L0 f) (hf : f ≤ 10) (hC : m_Ge XL XS (3 * f + 4 + 1) C) (hX : CX tx m I0 L0 (.ok s) I L) (hk : (tk tx s.k).1 = 14) (hK : ∀ I' L', CX tx m I0 L0 (jbrn tx (jstmt tx f) (.ok s)) I' L' → K none (m_SH, I', L')) : C 28 [.ref 17, .int (nI (10 - f))] (m_SH, I, L) K := by
  have hc1 := hX.ok.2.2.2.2.1.1
  have hc2 := hX.ok.2.2.2.2.1.2.1
  unfold jbrn at hK
  refine e_X1_branches hC (Nat.le_of_ble_eq_true rfl) ?_
  intro C' hC' P hP
  repeat (refine hP _ ?_; conv => whnf)
  refine c_stepX (n := 3 * f + 3) hC' hX (by decide) (fun Ia ha => ?_)
  have hb := ha.adv (fun s2 hs2 => by
    have : s2.k = s.k := by
      simp only [jemt, jb, Except.ok.injEq] at hs2
      rw [← hs2]
      split <;> rfl
    rw [this]
    omega)
  repeat (refine hP _ ?_; conv => whnf)
  rw [hc1, nI_1, show 10 - f + 1 = 11 - f by omega, hX.gs]
  refine H _ _ _ _ _ hC' hb (fun I1 L1 h1 => ?_)
  have h1' : CX tx m I0 L0 (jbr1 (jstmt tx f) (.ok s)) I1 L1 := h1
  clear h1
  have hs1 : CX tx m I0 L0 (jsst (jgs (.ok s)) (jbr1 (jstmt tx f) (.ok s))) (m_up I1 18 2 s.set) L1 := h1'.sst (fun _ _ => rfl)
  repeat (refine hP _ ?_; conv => whnf)
  refine c_kindX (n := 3 * f + 3) hC' hs1 ?_
  repeat (refine hP _ ?_; conv => whnf)
  have fin : ∀ (q : JRs) (J : Nat → Nat → Int32) (M : Nat → Nat → Int64) (l5 : Option Value), (∀ e, jbr1 (jstmt tx f) (.ok s) = .error e → ∀ s', ¬ q = .ok s') → CX tx m I0 L0 q J M → (∀ I' L', CX tx m I0 L0 (jsst (jgs q &&& jgs (jbr1 (jstmt tx f) (.ok s))) q) I' L' → K none (m_SH, I', L')) → P (154, [some (.ref 17), some (.int (nI (10 - f))), some (.int s.set), some (.int (nI s.cd.length)), some (.int (I1 18 2)), l5], [], (m_SH, J, M), 0, 0) := by
    intro q J M l5 hq hJ hk
    repeat (refine hP _ ?_; conv => whnf)
    refine hk _ _ (hJ.sst (fun s' hs' => ?_))
    subst hs'
    generalize hg : jbr1 (jstmt tx f) (.ok s) = r1 at h1' hq ⊢
    cases r1 with
    | error e => exact absurd rfl (hq e rfl s')
    | ok s1 => rw [hJ.gs, h1'.gs]; rfl
  refine ⟨fun z => ?_, fun z => ?_⟩
  · have hk15 := (jkd_eq (a := 15) (by decide)).mp z
    rw [if_pos hk15] at hK
    simp only at hK
    generalize hg : jbr1 (jstmt tx f) (.ok s) = r1 at h1' hs1 hk15 fin
    cases r1 with
    | error e => exact (no_kd hk15 (by decide)).elim
    | ok s1 =>
      have hk15' : (tk tx s1.k).1 = 15 := hk15
      have hcl := h1'.ok.2.2.2.2.1.1
      have hcl2 := h1'.ok.2.2.2.2.1.2.1
      repeat (refine hP _ ?_; conv => whnf)
      refine c_stepX (n := 3 * f + 3) hC' hs1 (by decide) (fun I2 h2 => ?_)
      repeat (refine hP _ ?_; conv => whnf)
      refine c_leadX (n := 3 * f + 3) hC' h2 hc2 (fun I3 h3 => ?_)
      have h4 := h3.adv (fun s2 hs2 => by
        have : s2.k = s1.k := by
          simp only [jemt, jled, jsst, jb, Except.ok.injEq] at hs2
          rw [← hs2]
          split <;> rfl
        rw [this]
        omega)
      repeat (refine hP _ ?_; conv => whnf)
      rw [nI_1, show 10 - f + 1 = 11 - f by omega, show m_up I1 18 2 s.set 13 3 = nI s1.cd.length by rw [← hcl]; simp [m_upr]]
      refine H _ _ _ _ _ hC' h4 (fun I5 L5 h5 => ?_)
      repeat (refine hP _ ?_; conv => whnf)
      refine c_leadX (n := 3 * f + 3) hC' h5 hcl2 (fun I6 h6 => ?_)
      iterate 1 (refine hP _ ?_; conv => whnf)
      refine fin _ I6 L5 _ (fun e he => by cases he) h6 (fun I' L' h' => hK I' L' ?_)
      have e2 : jbr2 (jstmt tx f) (.ok s) = jstmt tx f (jadv (jled s.cd.length (jemt 4 0 0 (jsst s.set (.ok s1))))) := by
        unfold jbr2
        rw [hg]
        rfl
      rw [e2, hg]
      exact h'
  · rw [if_neg (fun y => z (by rw [y]; rfl))] at hK
    simp only at hK
    repeat (refine hP _ ?_; conv => whnf)
    refine c_leadX (n := 3 * f + 3) hC' hs1 hc2 (fun I6 h6 => ?_)
    refine fin _ I6 L1 _ (fun e he s' hs' => ?_) h6 hK
    rw [he] at hs'
    cases hs'
theorem jbgn_lt {k : Nat} (hk : k < 29) (h : jbgn k = true) : k < 27 := by
  have : ∀ k : Fin 29, jbgn k.val = true → k.val < 27 := by decide
  exact this ⟨k, hk⟩ h
theorem jfal_kd {tx : List Nat} {a : Nat} {r : JRs} : jkd tx (jfal tx a r) = 0 := by
  cases r <;> rfl
theorem jopn_lt {tx : List Nat} {d : Nat} {r : JRs} : jkd tx (jopn tx d (jst1 tx r)) < 27 := by
  unfold jst1
  by_cases g : jbgn (jkd tx r) = true
  · rw [if_pos g]
    have h1 := jbgn_lt (jkd_29 tx r) g
    cases r with
    | error e => exact h1
    | ok s =>
      simp only [jopn, jb]
      repeat' split
      all_goals first | (rw [jfal_kd]; decide) | exact h1
  · rw [if_neg g]
    cases r with
    | error e => exact (by decide : 0 < 27)
    | ok s => exact (by decide : 0 < 27)
theorem c_stmt {XL : Nat} {XS : Nat → Int32} {tx : List Nat} {m : Nat} {I0 : Nat → Nat → Int32} {L0 : Nat → Nat → Int64} : ∀ (f : Nat), f ≤ 11 → HSt XL XS tx m I0 L0 f
  | 0, _ => by
    intro C K r I L hC hX hK
    unfold jstmt at hK
    refine e_X1_stmt hC (Nat.le_of_ble_eq_true rfl) ?_
    intro C' hC' P hP
    have go : ∀ J, CX tx m I0 L0 (jst1 tx r) J L → P (19, [some (.ref 17), some (.int (nI 11))], [], (m_SH, J, L), 0, 0) := by
      intro J h1
      repeat (refine hP _ ?_; conv => whnf)
      refine c_openStmt (d := 11) (n := 1) hC' h1 (by decide) (fun I' h' => ?_)
      repeat (refine hP _ ?_; conv => whnf)
      refine ⟨fun _ => ?_, fun _ => ?_⟩
      · repeat (refine hP _ ?_; conv => whnf)
        refine ⟨fun _ => ?_, fun z => absurd (by decide) z⟩
        repeat (refine hP _ ?_; conv => whnf)
        exact hK _ _ h'
      · repeat (refine hP _ ?_; conv => whnf)
        exact hK _ _ h'
    repeat (refine hP _ ?_; conv => whnf)
    refine c_kindX hC' hX ?_
    repeat (refine hP _ ?_; conv => whnf)
    refine c_beginsX hC' ?_
    unfold jst1 at go
    by_cases g : jbgn (jkd tx r) = true
    · rw [if_pos g] at go ⊢
      repeat (refine hP _ ?_; conv => whnf)
      refine ⟨fun z => absurd z (by decide), fun _ => ?_⟩
      exact go _ hX
    · rw [if_neg g] at go ⊢
      repeat (refine hP _ ?_; conv => whnf)
      refine ⟨fun _ => ?_, fun z => absurd rfl z⟩
      repeat (refine hP _ ?_; conv => whnf)
      refine c_failX (a := 2) hC' hX (by decide) (by decide) (fun I' h' => ?_)
      exact go _ h'
  | f + 1, hf => by
    have H : HSt XL XS tx m I0 L0 f := c_stmt f (by omega)
    intro C K r I L hC hX hK
    unfold jstmt at hK
    have hC2 : m_Ge XL XS ((3 * f + 6) + 1) C := hC.le (by omega)
    refine e_X1_stmt hC2 (Nat.le_of_ble_eq_true rfl) ?_
    intro C' hC' P hP
    rw [show 11 - (f + 1) = 10 - f by omega] at hK ⊢
    have go : ∀ J, CX tx m I0 L0 (jst1 tx r) J L → P (19, [some (.ref 17), some (.int (nI (10 - f)))], [], (m_SH, J, L), 0, 0) := by
      intro J h1
      repeat (refine hP _ ?_; conv => whnf)
      refine c_openStmt (d := 10 - f) (n := 3 * f + 4) hC' h1 (by omega) (fun I' h' => ?_)
      have hbg : jkd tx (jopn tx (10 - f) (jst1 tx r)) < 27 := jopn_lt
      generalize jopn tx (10 - f) (jst1 tx r) = r2 at h' hK hbg
      repeat (refine hP _ ?_; conv => whnf)
      refine ⟨fun z => ?_, fun z => ?_⟩
      · obtain ⟨s, hs⟩ := h'.ft.mp z
        subst hs
        simp only [jb] at hK
        repeat (refine hP _ ?_; conv => whnf)
        refine ⟨fun y => absurd ((nI_ltI (a := 10) (b := 10 - f) (by omega) (by omega)).mp y) (by omega), fun _ => ?_⟩
        repeat (refine hP _ ?_; conv => whnf)
        refine c_kindX hC' h' ?_
        have hkd : jkd tx (.ok s) = (tk tx s.k).1 := rfl
        rw [hkd]
        repeat (refine hP _ ?_; conv => whnf)
        refine ⟨fun y => ?_, fun y9 => ?_⟩
        · have hk : (tk tx s.k).1 = 9 := (jkd_eq (tx := tx) (r := .ok s) (a := 9) (by decide)).mp y
          rw [if_neg (by omega), if_neg (by omega), if_pos hk] at hK
          repeat (refine hP _ ?_; conv => whnf)
          refine c_let (n := 3 * f + 3) hC' (h'.adv (fun s2 hs2 => by cases hs2; omega)) (fun I2 L2 h2 => ?_)
          repeat (refine hP _ ?_; conv => whnf)
          refine c_expectX (k := 22) (n := 3 * f + 4) hC' h2 (by decide) (by decide) (fun I3 h3 => ?_)
          repeat (refine hP _ ?_; conv => whnf)
          exact hK _ _ h3
        have y9' : ¬ (tk tx s.k).1 = 9 := fun w => y9 (by rw [w]; rfl)
        rw [if_neg y9'] at hK
        refine ⟨fun y => ?_, fun y12 => ?_⟩
        · have hk : (tk tx s.k).1 = 12 := (jkd_eq (tx := tx) (r := .ok s) (a := 12) (by decide)).mp y
          rw [if_neg (by omega), if_neg (by omega), if_pos hk] at hK
          repeat (refine hP _ ?_; conv => whnf)
          refine c_yieldNumber (n := 3 * f + 3) hC' (h'.adv (fun s2 hs2 => by cases hs2; omega)) (fun I2 h2 => ?_)
          repeat (refine hP _ ?_; conv => whnf)
          refine c_expectX (k := 22) (n := 3 * f + 4) hC' h2 (by decide) (by decide) (fun I3 h3 => ?_)
          repeat (refine hP _ ?_; conv => whnf)
          exact hK _ _ h3
        have y12' : ¬ (tk tx s.k).1 = 12 := fun w => y12 (by rw [w]; rfl)
        rw [if_neg y12'] at hK
        refine ⟨fun y => ?_, fun y14 => ?_⟩
        · have hk : (tk tx s.k).1 = 14 := (jkd_eq (tx := tx) (r := .ok s) (a := 14) (by decide)).mp y
          rw [if_neg (by omega), if_pos hk] at hK
          repeat (refine hP _ ?_; conv => whnf)
          refine c_branches_of H (by omega) (hC'.le (by omega)) h' hk (fun I2 L2 h2 => ?_)
          repeat (refine hP _ ?_; conv => whnf)
          exact hK _ _ h2
        have y14' : ¬ (tk tx s.k).1 = 14 := fun w => y14 (by rw [w]; rfl)
        rw [if_neg y14'] at hK
        refine ⟨fun y => ?_, fun y19 => ?_⟩
        · have hk : (tk tx s.k).1 = 19 := (jkd_eq (tx := tx) (r := .ok s) (a := 19) (by decide)).mp y
          rw [if_pos hk] at hK
          repeat (refine hP _ ?_; conv => whnf)
          refine c_block_of H (by omega) hC' h' hk (fun I2 L2 h2 => ?_)
          repeat (refine hP _ ?_; conv => whnf)
          exact hK _ _ h2
        have y19' : ¬ (tk tx s.k).1 = 19 := fun w => y19 (by rw [w]; rfl)
        rw [if_neg y19'] at hK
        repeat (refine hP _ ?_; conv => whnf)
        refine c_simple (n := 3 * f + 3) hC' h' ?_ (fun I2 h2 => ?_)
        · exact hbg
        · repeat (refine hP _ ?_; conv => whnf)
          refine c_expectX (k := 22) (n := 3 * f + 4) hC' h2 (by decide) (by decide) (fun I3 h3 => ?_)
          repeat (refine hP _ ?_; conv => whnf)
          exact hK _ _ h3
      · repeat (refine hP _ ?_; conv => whnf)
        cases r2 with
        | error e => exact hK _ _ h'
        | ok s => exact absurd h'.ok.1.1 z
    repeat (refine hP _ ?_; conv => whnf)
    refine c_kindX hC' hX ?_
    repeat (refine hP _ ?_; conv => whnf)
    refine c_beginsX hC' ?_
    unfold jst1 at go
    by_cases g : jbgn (jkd tx r) = true
    · rw [if_pos g] at go ⊢
      repeat (refine hP _ ?_; conv => whnf)
      refine ⟨fun z => absurd z (by decide), fun _ => ?_⟩
      exact go _ hX
    · rw [if_neg g] at go ⊢
      repeat (refine hP _ ?_; conv => whnf)
      refine ⟨fun _ => ?_, fun z => absurd rfl z⟩
      repeat (refine hP _ ?_; conv => whnf)
      refine c_failX (a := 2) hC' hX (by decide) (by decide) (fun I' h' => ?_)
      exact go _ h'
