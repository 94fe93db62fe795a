/-! ===== the reference's bodies behind -> ===== -/
/-- a body, to what stands behind it; what is SET behind it doesn't matter -/
def jbdy (tx : List Nat) (s : JSt) : JRs :=
  if (tk tx s.k).1 = 19 then jb (jopn tx 0 (.ok s)) fun s2 => jbbk tx (s2.wk (s2.k + 1))
  else if ¬ s.val = 0 ∧ ((tk tx s.k).1 = 25 ∨ (tk tx s.k).1 = 17) then jsst (-1) (jemt 5 2 (jsgv tx (jopn tx 0 (.ok s))) (jxpc tx 22 (jsgn tx (jopn tx 0 (.ok s)))))
  else if (if s.val = 0 then ((tk tx s.k).1 = 16 ∨ (tk tx s.k).1 = 8 ∨ (tk tx s.k).1 = 10 ∨ (tk tx s.k).1 = 11 ∨ (tk tx s.k).1 = 13) else (tk tx s.k).1 = 13) then jb (jopn tx 0 (.ok s)) fun s2 => jxpc tx 22 (jsmp tx (.ok s2))
  else jfal tx 2 (.ok s)
theorem jbdy_gr {tx : List Nat} {s s' : JSt} (h : jbdy tx s = .ok s') : s.sm + 1 ≤ s'.sm ∧ s'.cd.length + 2 * s.sm ≤ s.cd.length + 2 * s'.sm := by
  unfold jbdy at h
  have hop : ∀ q, jopn tx 0 (.ok s) = .ok q → q = s.wsm (s.sm + 1) := by
    intro q e
    obtain ⟨z, e1, e2, -⟩ := jopn_ok e
    cases e1
    exact e2
  have hs : (s.wsm (s.sm + 1)).sm = s.sm + 1 := rfl
  have hc : (s.wsm (s.sm + 1)).cd = s.cd := rfl
  by_cases g19 : (tk tx s.k).1 = 19
  · rw [if_pos g19] at h
    cases ho : jopn tx 0 (.ok s) with
    | error e => rw [ho] at h; cases h
    | ok s2 =>
      rw [ho] at h
      have e2 := hop s2 ho
      subst e2
      simp only [jb] at h
      unfold jbbk at h
      cases hl : jloop tx (jstmt tx 10) 121 (.ok ((s.wsm (s.sm + 1)).wk ((s.wsm (s.sm + 1)).k + 1))) with
      | error e => rw [hl] at h; cases h
      | ok y =>
        rw [hl] at h
        have h1 := Gr_loop (Gr_stmt 10) _ _ _ hl
        unfold Gr0 at h1
        have e1 : ((s.wsm (s.sm + 1)).wk ((s.wsm (s.sm + 1)).k + 1)).sm = s.sm + 1 := rfl
        have e2 : ((s.wsm (s.sm + 1)).wk ((s.wsm (s.sm + 1)).k + 1)).cd = s.cd := rfl
        rw [e1, e2] at h1
        simp only [jb] at h
        by_cases g20 : (tk tx y.k).1 = 20
        · rw [if_pos g20] at h
          by_cases g10 : ¬ y.val = 0 ∧ ¬ y.set = -1
          · rw [if_pos g10] at h; cases h
          · rw [if_neg g10] at h
            have h : Except.ok (sshr 0 (y.wk (y.k + 1))) = Except.ok s' := h
            cases h
            show s.sm + 1 ≤ y.sm ∧ y.cd.length + 2 * s.sm ≤ s.cd.length + 2 * y.sm
            omega
        · rw [if_neg g20] at h; cases h
  rw [if_neg g19] at h
  have fin : ∀ q r, jopn tx 0 (.ok s) = .ok q → Gs 1 q r → r = .ok s' → s.sm + 1 ≤ s'.sm ∧ s'.cd.length + 2 * s.sm ≤ s.cd.length + 2 * s'.sm := by
    intro q r h0 h1 h2
    have := h1 s' h2
    rw [hop q h0, hs, hc] at this
    omega
  by_cases gy : ¬ s.val = 0 ∧ ((tk tx s.k).1 = 25 ∨ (tk tx s.k).1 = 17)
  · rw [if_pos gy] at h
    cases ho : jopn tx 0 (.ok s) with
    | error e =>
      rw [ho] at h
      have : jsgn tx (.error e) = .error e := by
        unfold jsgn
        split
        · rw [jadv_er, jnmb_er]
        · rw [jnmb_er]
      rw [this, jxpc_er] at h
      cases h
    | ok q =>
      rw [ho] at h
      refine fin q _ ho ?_ h
      have hself : Gs 0 q (.ok q) := Gs_ok rfl (Nat.le_refl _)
      refine Gs_sst (Gs_emt (Gs_xpc ?_))
      unfold jsgn
      split
      · exact Gs_nmb (Gs_adv hself)
      · exact Gs_nmb hself
  rw [if_neg gy] at h
  by_cases gs : (if s.val = 0 then ((tk tx s.k).1 = 16 ∨ (tk tx s.k).1 = 8 ∨ (tk tx s.k).1 = 10 ∨ (tk tx s.k).1 = 11 ∨ (tk tx s.k).1 = 13) else (tk tx s.k).1 = 13)
  · rw [if_pos gs] at h
    cases ho : jopn tx 0 (.ok s) with
    | error e => rw [ho] at h; cases h
    | ok q =>
      rw [ho] at h
      refine fin q _ ho ?_ h
      exact Gs_xpc (Gs_smp (Gs_ok rfl (Nat.le_refl _)))
  · rw [if_neg gs] at h
    cases h
theorem RX.unn {tx : List Nat} {m : Nat} {I0 : Nat → Nat → Int32} {L0 : Nat → Nat → Int64} {u0 : JU} {b : Nat} {st : List Fm} {I : Nat → Nat → Int32} {L : Nat → Nat → Int64} {s : JSt} (h : RX tx m I0 L0 u0 b [] (.ok s) I L) (hn : s.nm = []) : I 30 35 = 0 := by
  rw [h.fct.2.2.2.1, hn]
  rfl
theorem r_readBody {XL : Nat} {XS : Nat → Int32} {n : Nat} {C : mC} {I : Nat → Nat → Int32} {L : Nat → Nat → Int64} {K : mK} {tx : List Nat} {m : Nat} {I0 : Nat → Nat → Int32} {L0 : Nat → Nat → Int64} {u0 : JU} {B : Nat} {s : JSt} (hC : m_Ge XL XS (n + 9) C) (hB : B ≤ 20) (hX : RX tx m I0 L0 u0 260 [] (.ok s) (m_up (m_up I 30 35 0) 30 36 0) L) (hs0 : s.set = 0) (hn0 : s.nm = []) (hc : s.cd.length ≤ 2 * s.sm + B)
    (hK : ∀ I' L', (∀ e, jbdy tx s = .error e → RX tx m I0 L0 u0 266 [] (.error e) I' L') → (∀ s', jbdy tx s = .ok s' → ∃ x, RX tx m I0 L0 u0 266 [(4, 0, 0)] (.ok (s'.wset x)) I' L') → K none (m_SH, emF 3 0 0 (m_up (m_up I' 30 44 0) 30 45 0), L')) : C 142 [.ref 30] (m_SH, I, L) K := by
  have f44 : m_up (m_up I 30 35 0) 30 36 0 30 44 = 0 := hX.fct.1
  have h1 := hX.psh (k := 4) (Or.inr (Or.inr rfl)) (by simp) (by simp [dep])
  rw [hn0] at h1
  have hsb : SetOk s := Or.inr (by rw [hs0]; exact ⟨0, Nat.two_pow_pos _, rfl⟩)
  have hset : ¬ s.set = -1 := by rw [hs0]; decide
  refine e_X9_readBody hC (Nat.le_of_ble_eq_true rfl) ?_
  intro C' hC' P hP
  repeat (refine hP _ ?_; conv => whnf)
  refine r_push (n := n + 7) hC' (by rw [f44]; exact vp_in_nI (n := 0) (by decide) (by decide)) ?_
  have h1' : RX tx m I0 L0 u0 260 [(4, 0, 0)] (.ok s) (pushF 4 (m_up (m_up I 30 35 0) 30 36 0)) L := h1
  have h46 : pushF 4 (m_up (m_up I 30 35 0) 30 36 0) 46 0 = 1 := by
    unfold pushF
    rw [f44]
    simp [m_upr]
  generalize pushF 4 (m_up (m_up I 30 35 0) 30 36 0) = I1 at h1' h46
  have g44 : I1 30 44 = nI 1 := h1'.fct.1
  have hval : I1 30 16 = s.val := h1'.ok.2.2.1.2.1
  have hsm := h1'.ok.2.1.2
  have hE : Ends [(4, 0, 0)] s I1 := fun _ _ => by
    show I1 46 0 = _
    rw [h46, if_neg hset]
  have hR : Rch [(4, 0, 0)] s := Or.inr (Or.inr hset)
  have hl : lst [(4, (0 : Int32), 0)] := Or.inl ⟨by simp, by simp⟩
  have hd0 : dep [(4, (0 : Int32), 0)] = 0 := rfl
  -- the end
  have fin : ∀ l1 J M, (∀ e, jbdy tx s = .error e → RX tx m I0 L0 u0 265 [] (.error e) J M) → (∀ s', jbdy tx s = .ok s' → ∃ x, RX tx m I0 L0 u0 265 [(4, 0, 0)] (.ok (s'.wset x)) J M) → P (132, [some (.ref 30), l1], [], (m_SH, J, M), 0, 0) := by
    intro l1 J M he hk
    have hK := hK J M (fun e q => (he e q).mono (by omega) (by omega)) (fun s' q => by obtain ⟨x, hx⟩ := hk s' q; exact ⟨x, hx.mono (by omega) (by omega)⟩)
    have hin : vp_in (J 30 33) 700 := by
      cases hj : jbdy tx s with
      | error e => exact (he e hj).acts
      | ok s' => obtain ⟨x, hx⟩ := hk s' hj; exact hx.acts
    repeat (refine hP _ ?_; conv => whnf)
    refine r_emit (n := n + 7) (I := m_up (m_up J 30 44 0) 30 45 0) hC' (by simp [m_upr]; exact hin) ?_
    repeat (refine hP _ ?_; conv => whnf)
    exact hK
  unfold jbdy at fin
  repeat (refine hP _ ?_; conv => whnf)
  refine r_isSignX (k := 19) (n := n + 7) hC' h1' (by decide) (by decide) ?_
  by_cases g19 : (tk tx s.k).1 = 19
  · rw [if_pos g19] at fin ⊢
    have ho : jopn tx 0 (.ok s) = jop2 tx 0 s := jop2_opn (fun w => by omega) (by split <;> omega)
    rw [ho] at fin
    repeat (refine hP _ ?_; conv => whnf)
    refine ⟨fun z => absurd z (by decide), fun _ => ?_⟩
    repeat (refine hP _ ?_; conv => whnf)
    refine r_begin (n := n + 6) hC' h1' hE hR (fun I2 h2 hF2 => ?_)
    rw [hd0] at h2
    repeat (refine hP _ ?_; conv => whnf)
    cases hj : jop2 tx 0 s with
    | error e =>
      rw [hj] at h2 fin
      refine r_nextE (n := n + 5) hC' h1' (by omega) h2 hF2 (fun I3 L3 h3 h44 => ?_)
      repeat (refine hP _ ?_; conv => whnf)
      refine r_push (n := n + 7) hC' (by rw [h44]; exact vp_in_nI (by decide) (by decide)) ?_
      have h4 : RX tx m I0 L0 u0 260 [] (.error e) (pushF 1 I3) L3 := by
        refine h3.emk ?_ Fr.rf h3.2.2.2.1 (by simp [pushF, m_upr]) (by simp [pushF, m_upr]) (fun c hc e => ⟨c, hc, by simp [pushF, m_upr]; exact e⟩)
        unfold pushF
        exact ((((Fr.rf.up rfl).up rfl).up rfl).up rfl).up rfl
      generalize pushF 1 I3 = I4 at h4
      repeat (refine hP _ ?_; conv => whnf)
      refine e_X9_readStmts hC' (Nat.le_of_ble_eq_true rfl) ?_
      intro C2 hC2 P2 hP2
      refine r_headX (base := 1) hP2 h4 ?_ none
      iterate 1 (refine hP _ ?_; conv => whnf)
      refine fin _ _ _ (fun e' q => ?_) (fun s' q => by cases q)
      cases q
      exact h4.mono (by omega) (by omega)
    | ok s2 =>
      rw [hj] at h2 fin
      obtain ⟨rfl, -, hsm2, -⟩ := jop2_ok hj
      refine r_nextX (n := n + 5) hC' h2 (by show (tk tx s.k).1 < 27; omega) (fun I3 L3 h3 => ?_)
      have h3' : RX tx m I0 L0 u0 260 [(4, 0, 0)] (.ok ((s.wsm (s.sm + 1)).wk (s.k + 1))) I3 L3 := h3
      repeat (refine hP _ ?_; conv => whnf)
      have h44 : I3 30 44 = nI 1 := h3'.fct.1
      refine r_push (n := n + 7) hC' (by rw [h44]; exact vp_in_nI (by decide) (by decide)) ?_
      have h4 := h3'.psh (k := 1) (Or.inr (Or.inl rfl)) (by simp) (by simp [dep])
      have h4' : RX tx m I0 L0 u0 260 [(1, 0, 0), (4, 0, 0)] (.ok ((s.wsm (s.sm + 1)).wk (s.k + 1))) (pushF 1 I3) L3 := by
        have e0 : ((s.wsm (s.sm + 1)).wk (s.k + 1)).nm.length = 0 := by show s.nm.length = 0; rw [hn0]; rfl
        rw [e0] at h4
        exact h4
      have h46' : pushF 1 I3 46 1 = 1 := by
        unfold pushF
        rw [h44, nI_clamp (by decide)]
        simp [m_upr]
      generalize pushF 1 I3 = I4 at h4' h46'
      repeat (refine hP _ ?_; conv => whnf)
      have hH : Hd tx m I0 L0 u0 1 B 10 [(1, 0, 0), (4, 0, 0)] ((s.wsm (s.sm + 1)).wk (s.k + 1)) I4 L3 := by
        refine ⟨h4', fun _ _ => ?_, hsb, ⟨Or.inl ⟨by simp, by simp⟩, by simp, by simp [dep], by simp [dep], fun z => absurd (isB_c.mp z) (by simp)⟩, ?_⟩
        · show I4 46 1 = if s.set = -1 then 0 else 1
          rw [h46', if_neg hset]
        · show s.cd.length + 0 ≤ 2 * (s.sm + 1) + B
          omega
      refine r_stmtsB hC' hB hH (fun I5 L5 he hk => ?_)
      iterate 1 (refine hP _ ?_; conv => whnf)
      refine fin _ _ _ (fun e' q => ?_) (fun s' q => ?_)
      · exact (he e' q).mono (by omega) (by omega)
      · exact ⟨s'.set, ((hk s' q).1).mono (by omega) (by omega)⟩
  rw [if_neg g19] at fin ⊢
  repeat (refine hP _ ?_; conv => whnf)
  refine ⟨fun _ => ?_, fun z => absurd rfl z⟩
  -- neither a block nor a number
  have s95 : ¬ (¬ s.val = 0 ∧ ((tk tx s.k).1 = 25 ∨ (tk tx s.k).1 = 17)) → P (95, [some (.ref 30), none], [], (m_SH, I1, L), 0, 0) := by
    intro gy
    rw [if_neg gy] at fin
    have smp : (if s.val = 0 then ((tk tx s.k).1 = 16 ∨ (tk tx s.k).1 = 8 ∨ (tk tx s.k).1 = 10 ∨ (tk tx s.k).1 = 11 ∨ (tk tx s.k).1 = 13) else (tk tx s.k).1 = 13) → P (121, [some (.ref 30), none], [], (m_SH, I1, L), 0, 0) := by
      intro gs
      rw [if_pos gs] at fin
      have gs' : (tk tx s.k).1 = 16 ∨ (tk tx s.k).1 = 8 ∨ (tk tx s.k).1 = 10 ∨ (tk tx s.k).1 = 11 ∨ (tk tx s.k).1 = 13 := by
        split at gs
        · exact gs
        · omega
      repeat (refine hP _ ?_; conv => whnf)
      refine r_simple (n := n + 2) hC' h1' (by omega) hE hR hsb hl gs' (by show s.cd.length + 0 ≤ _; omega) (fun I' L' h' => ?_)
      rw [hd0] at h'
      generalize (jb (jopn tx 0 (.ok s)) fun s2 => jxpc tx 22 (jsmp tx (.ok s2))) = r5 at h' fin
      iterate 1 (refine hP _ ?_; conv => whnf)
      refine fin _ _ _ (fun e' q => ?_) (fun s' q => ?_)
      · subst q
        exact RX.mono (st := []) (u0 := u0) (r := .error e') h' (by omega) (by omega)
      · subst q
        have ht : thr tx [(4, 0, 0)] s' = (s', [(4, 0, 0)]) := by
          rw [thr, if_neg (by simp), if_neg (by simp)]
        have h5 := h'.1
        rw [ht] at h5
        exact ⟨s'.set, RX.mono (r := .ok s') h5 (by omega) (by omega)⟩
    have can : ¬ (if s.val = 0 then ((tk tx s.k).1 = 16 ∨ (tk tx s.k).1 = 8 ∨ (tk tx s.k).1 = 10 ∨ (tk tx s.k).1 = 11 ∨ (tk tx s.k).1 = 13) else (tk tx s.k).1 = 13) → P (128, [some (.ref 30), none], [], (m_SH, I1, L), 0, 0) := by
      intro gs
      rw [if_neg gs] at fin
      repeat (refine hP _ ?_; conv => whnf)
      refine r_cannotX (n := n + 6) hC' h1' (fun I' h' => ?_)
      obtain ⟨e, he⟩ := jfal_err (tx := tx) (a := 2) (r := .ok s)
      rw [he] at h' fin
      refine fin _ _ _ (fun e' q => ?_) (fun s' q => by cases q)
      cases q
      exact (h'.any (st' := [])).mono (by omega) (by omega)
    repeat (refine hP _ ?_; conv => whnf)
    rw [hval]
    refine ⟨fun z => ?_, fun z => ?_⟩
    · rw [if_pos z] at smp can
      repeat (refine hP _ ?_; conv => whnf)
      refine r_isSimple (n := n + 7) hC' ?_
      rw [isSi_k h1'.ok.1.1.1 (tk_29 tx _) (tk_pos tx _)]
      by_cases gs : (tk tx s.k).1 = 16 ∨ (tk tx s.k).1 = 8 ∨ (tk tx s.k).1 = 10 ∨ (tk tx s.k).1 = 11 ∨ (tk tx s.k).1 = 13
      · rw [if_pos gs]
        iterate 1 (refine hP _ ?_; conv => whnf)
        exact ⟨fun w => absurd w (by decide), fun _ => smp gs⟩
      · rw [if_neg gs]
        iterate 1 (refine hP _ ?_; conv => whnf)
        exact ⟨fun _ => can gs, fun w => absurd rfl w⟩
    · rw [if_neg z] at smp can
      repeat (refine hP _ ?_; conv => whnf)
      refine r_isWordX (w := 12) (n := n + 7) hC' h1' (by decide) ?_
      by_cases gs : (tk tx s.k).1 = 13
      · rw [if_pos gs]
        iterate 1 (refine hP _ ?_; conv => whnf)
        refine ⟨fun w => absurd w (by decide), fun _ => ?_⟩
        iterate 1 (refine hP _ ?_; conv => whnf)
        exact smp gs
      · rw [if_neg gs]
        iterate 1 (refine hP _ ?_; conv => whnf)
        exact ⟨fun _ => can gs, fun w => absurd rfl w⟩
  iterate 3 (refine hP _ ?_; conv => whnf)
  rw [hval]
  refine ⟨fun z => s95 (fun w => w.1 z), fun z => ?_⟩
  have yld : ((tk tx s.k).1 = 25 ∨ (tk tx s.k).1 = 17) → P (69, [some (.ref 30), none], [], (m_SH, I1, L), 0, 0) := by
    intro gy
    rw [if_pos ⟨z, gy⟩] at fin
    have ho : jopn tx 0 (.ok s) = jop2 tx 0 s := jop2_opn (fun w => by omega) (by split <;> omega)
    rw [ho] at fin
    repeat (refine hP _ ?_; conv => whnf)
    refine r_begin (n := n + 6) hC' h1' hE hR (fun I2 h2 hF2 => ?_)
    rw [hd0] at h2
    have hp : PG s.cd.length (jop2 tx 0 s) := fun q e => by
      obtain ⟨rfl, -, -, -⟩ := jop2_ok e
      exact ⟨Nat.le_refl _, hsb⟩
    have hsm3 : ∀ q, jop2 tx 0 s = .ok q → s.sm < 120 := fun q e => (jop2_ok e).2.2.1
    generalize jop2 tx 0 s = r2 at h2 fin hp hsm3
    repeat (refine hP _ ?_; conv => whnf)
    refine r_signedX (n := n + 3) hC' h2 (fun I3 L3 h3 => ?_)
    have hp3 : PG s.cd.length (jsgn tx r2) := by
      unfold jsgn
      split
      · exact PG_nmb (PG_adv hp)
      · exact PG_nmb hp
    have hsm4 : ∀ q, jsgn tx r2 = .ok q → s.sm < 120 := by
      intro q e
      cases r2 with
      | error e2 =>
        unfold jsgn at e
        split at e
        · rw [jadv_er, jnmb_er] at e; cases e
        · rw [jnmb_er] at e; cases e
      | ok y => exact hsm3 y rfl
    generalize jsgn tx r2 = r3 at h3 fin hp3 hsm4
    generalize jsgv tx r2 = v3 at fin
    repeat (refine hP _ ?_; conv => whnf)
    refine r_wantsSignX (k := 22) (n := n + 4) hC' h3 (by decide) (by decide) (fun I4 L4 h4 => ?_)
    have hp4 := PG_xpc (tx := tx) (k := 22) hp3
    have hsm5 : ∀ q, jxpc tx 22 r3 = .ok q → s.sm < 120 := by
      intro q e
      obtain ⟨y, rfl, -, -⟩ := jxpc_ok e
      exact hsm4 y rfl
    generalize jxpc tx 22 r3 = r4 at h4 fin hp4 hsm5
    repeat (refine hP _ ?_; conv => whnf)
    refine r_emitX (k := 5) (a := 2) (c := v3) (n := n + 7) hC' h4 (by omega) (fun q e => by have := (hp4 q e).1; have := hsm5 q e; omega) rfl (fun v5 I5 _ h5 => ?_)
    generalize jemt 5 2 v3 r4 = r5 at h5 fin
    iterate 2 (refine hP _ ?_; conv => whnf)
    refine fin _ _ _ (fun e' q => ?_) (fun s' q => ?_)
    · cases r5 with
      | error e2 =>
        cases q
        exact (h5.any (st' := [])).mono (by omega) (by omega)
      | ok s2 => cases q
    · cases r5 with
      | error e2 => cases q
      | ok s2 =>
        cases q
        exact ⟨s2.set, RX.mono (r := .ok s2) h5 (by omega) (by omega)⟩
  repeat (refine hP _ ?_; conv => whnf)
  refine r_isSignX (k := 25) (n := n + 7) hC' h1' (by decide) (by decide) ?_
  by_cases g25 : (tk tx s.k).1 = 25
  · rw [if_pos g25]
    iterate 1 (refine hP _ ?_; conv => whnf)
    exact ⟨fun w => absurd w (by decide), fun _ => yld (Or.inl g25)⟩
  rw [if_neg g25]
  repeat (refine hP _ ?_; conv => whnf)
  refine ⟨fun _ => ?_, fun w => absurd rfl w⟩
  repeat (refine hP _ ?_; conv => whnf)
  rw [h1'.cl]
  have ht2 := (tcl_eq (tk_29 tx s.k)).2.2.1
  refine ⟨fun w => yld (Or.inr (ht2.mp w)), fun w => ?_⟩
  have g17 : ¬ (tk tx s.k).1 = 17 := fun y => w (ht2.mpr y)
  exact s95 (fun y => by omega)
