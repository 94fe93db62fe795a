theorem Xr_old {tx : List Nat} {s : JSt} (h : Rm s) : Xr s 0 (jold tx s) ∧ ∀ s', jold tx s = .ok s' → Rm s' := by
  have hl := Xr_loop (tx := tx) (g := jstmt tx 11) (Xr_stmt 11) (fun a b ha hb => Rm_stmt ha hb) 121 s h
  have hr : ∀ (i : Nat) (s s' : JSt), Rm s → jloop tx (jstmt tx 11) i (.ok s) = .ok s' → Rm s' := by
    intro i
    induction i with
    | zero => intro s s' h e; cases e; exact h
    | succ i ih =>
      intro s s' h e
      unfold jloop at e
      split at e
      · cases hz : jstmt tx 11 (.ok s) with
        | error er => rw [hz, jloop_er] at e; cases e
        | ok q =>
          rw [hz] at e
          exact ih q s' (Rm_stmt h hz) e
      · cases e; exact h
  unfold jold
  cases hz : jloop tx (jstmt tx 11) 121 (.ok s) with
  | error e => exact ⟨Xr.er, fun s' e => by cases e⟩
  | ok y =>
    rw [hz] at hl
    simp only [jb]
    by_cases g : (tk tx y.k).1 = 20 ∨ (tk tx y.k).1 = 6 ∨ (tk tx y.k).1 = 7
    · rw [if_pos g]
      exact ⟨hl, fun s' e => by cases e; exact hr 121 s y h hz⟩
    · rw [if_neg g]
      exact ⟨Xr.f, fun s' e => by cases e⟩
theorem Xr_bdy {tx : List Nat} {s : JSt} (h : Rm s) : Xr s 0 (jbdy tx s) ∧ ∀ s', jbdy tx s = .ok s' → s'.nm.length ≤ 20 ∧ s'.sm ≤ 120 := by
  have hop : ∀ q, jopn tx 0 (.ok s) = .ok q → q = s.wsm (s.sm + 1) ∧ s.sm < 120 ∧ ((tk tx s.k).1 = 16 → ¬ jfnd tx (.ok s) < 0) := by
    intro q e
    obtain ⟨z, e1, e2, -⟩ := jopn_ok e
    cases e1
    exact ⟨e2, jopn_sm e, jopn_nm e⟩
  have fin : ∀ q r s', q = s.wsm (s.sm + 1) → Xr q 1 r → r = .ok s' → Xt s.cd s'.cd ∧ cnt s'.cd + s.sm ≤ cnt s.cd + 0 + s'.sm ∧ s.sm ≤ s'.sm := by
    intro q r s' hq h1 h2
    subst hq
    obtain ⟨a1, a2, a3⟩ := h1 s' h2
    have a2 : cnt s'.cd + (s.sm + 1) ≤ cnt s.cd + 1 + s'.sm := a2
    have a3 : s.sm + 1 ≤ s'.sm := a3
    exact ⟨a1, by omega, by omega⟩
  have h20 := h.1
  refine ⟨fun s' e => ?_, fun s' e => ?_⟩
  · unfold jbdy at e
    by_cases g19 : (tk tx s.k).1 = 19
    · rw [if_pos g19] at e
      cases ho : jopn tx 0 (.ok s) with
      | error er => rw [ho] at e; cases e
      | ok q =>
        obtain ⟨hq, hlt, -⟩ := hop q ho
        rw [ho] at e
        simp only [jb] at e
        unfold jbbk at e
        have hl := Xr_loop (tx := tx) (g := jstmt tx 10) (Xr_stmt 10) (fun a b ha hb => Rm_stmt ha hb) 121 (q.wk (q.k + 1)) (by
          subst hq
          exact ⟨h20, hlt, by have := h.2.2; show s.cd.length ≤ 2 * (s.sm + 1) + 20; omega⟩)
        cases hz : jloop tx (jstmt tx 10) 121 (.ok (q.wk (q.k + 1))) with
        | error er => rw [hz] at e; cases e
        | ok y =>
          rw [hz] at e hl
          simp only [jb] at e
          by_cases g20 : (tk tx y.k).1 = 20
          · rw [if_pos g20] at e
            by_cases g10 : ¬ y.val = 0 ∧ ¬ y.set = -1
            · rw [if_pos g10] at e; cases e
            · rw [if_neg g10] at e
              cases e
              have := hl y rfl
              exact fin q (.ok y) y hq (fun z ez => by cases ez; exact ⟨this.1, by have := this.2.1; have h5 : (q.wk (q.k + 1)).sm = q.sm := rfl; have h6 : (q.wk (q.k + 1)).cd = q.cd := rfl; rw [h5, h6] at this; omega, this.2.2⟩) rfl
          · rw [if_neg g20] at e; cases e
    rw [if_neg g19] at e
    by_cases gy : ¬ s.val = 0 ∧ ((tk tx s.k).1 = 25 ∨ (tk tx s.k).1 = 17)
    · rw [if_pos gy] at e
      cases ho : jopn tx 0 (.ok s) with
      | error er =>
        rw [ho] at e
        have : jsgn tx (.error er) = .error er := by
          unfold jsgn
          split
          · rw [jadv_er, jnmb_er]
          · rw [jnmb_er]
        rw [this, jxpc_er] at e
        cases e
      | ok q =>
        obtain ⟨hq, hlt, -⟩ := hop q ho
        rw [ho] at e
        refine fin q _ s' hq ?_ e
        have hself : Xr q 0 (.ok q) := Xr.ok rfl rfl
        refine (Xr.lve (a := 2) (Xr.xpc ?_) (Or.inr (Or.inl rfl))).mono (by omega)
        unfold jsgn
        split
        · exact Xr.nmb (Xr.adv hself)
        · exact Xr.nmb hself
    rw [if_neg gy] at e
    by_cases gs : (if s.val = 0 then ((tk tx s.k).1 = 16 ∨ (tk tx s.k).1 = 8 ∨ (tk tx s.k).1 = 10 ∨ (tk tx s.k).1 = 11 ∨ (tk tx s.k).1 = 13) else (tk tx s.k).1 = 13)
    · rw [if_pos gs] at e
      cases ho : jopn tx 0 (.ok s) with
      | error er => rw [ho] at e; cases e
      | ok q =>
        obtain ⟨hq, hlt, hnm⟩ := hop q ho
        rw [ho] at e
        refine fin q _ s' hq ?_ e
        subst hq
        exact Xr.xpc (Xr.smp (Xr.ok rfl rfl) h20 hnm)
    · rw [if_neg gs] at e
      cases e
  · have hn : N20 (jbdy tx s) := by
      unfold jbdy
      by_cases g19 : (tk tx s.k).1 = 19
      · rw [if_pos g19]
        refine N20_b (N20_opn (N20_ok h20)) fun q _ hq => ?_
        refine N20_b (N20_loop (N20_stmt 10) 121 _ (N20_ok hq)) fun y _ hy => ?_
        by_cases g20 : (tk tx y.k).1 = 20
        · rw [if_pos g20]
          by_cases g10 : ¬ y.val = 0 ∧ ¬ y.set = -1
          · rw [if_pos g10]; exact N20_f
          · rw [if_neg g10]; exact N20_shr (N20_adv (N20_ok hy))
        · rw [if_neg g20]; exact N20_f
      rw [if_neg g19]
      by_cases gy : ¬ s.val = 0 ∧ ((tk tx s.k).1 = 25 ∨ (tk tx s.k).1 = 17)
      · rw [if_pos gy]
        refine N20_sst (N20_emt (N20_xpc ?_))
        unfold jsgn
        split
        · exact N20_nmb (N20_adv (N20_opn (N20_ok h20)))
        · exact N20_nmb (N20_opn (N20_ok h20))
      rw [if_neg gy]
      by_cases gs : (if s.val = 0 then ((tk tx s.k).1 = 16 ∨ (tk tx s.k).1 = 8 ∨ (tk tx s.k).1 = 10 ∨ (tk tx s.k).1 = 11 ∨ (tk tx s.k).1 = 13) else (tk tx s.k).1 = 13)
      · rw [if_pos gs]
        exact N20_b (N20_opn (N20_ok h20)) fun q _ hq => N20_xpc (N20_smp (N20_ok hq))
      · rw [if_neg gs]
        exact N20_f
    refine ⟨hn s' e, ?_⟩
    have hsm : ∀ q, q = s.wsm (s.sm + 1) → s.sm < 120 → ∀ a r, Gs a q r → r = .ok s' → s'.sm ≤ 120 := by
      intro q hq hlt a r h1 h2
      rw [(h1 s' h2).1, hq]
      exact hlt
    unfold jbdy at e
    by_cases g19 : (tk tx s.k).1 = 19
    · rw [if_pos g19] at e
      cases ho : jopn tx 0 (.ok s) with
      | error er => rw [ho] at e; cases e
      | ok q =>
        obtain ⟨hq, hlt, -⟩ := hop q ho
        rw [ho] at e
        simp only [jb] at e
        unfold jbbk at e
        cases hz : jloop tx (jstmt tx 10) 121 (.ok (q.wk (q.k + 1))) with
        | error er => rw [hz] at e; cases e
        | ok y =>
          have hy := sm_loop (sm_stmt 10) 121 (q.wk (q.k + 1)) y (by subst hq; exact hlt) hz
          rw [hz] at e
          simp only [jb] at e
          by_cases g20 : (tk tx y.k).1 = 20
          · rw [if_pos g20] at e
            by_cases g10 : ¬ y.val = 0 ∧ ¬ y.set = -1
            · rw [if_pos g10] at e; cases e
            · rw [if_neg g10] at e
              cases e
              exact hy
          · rw [if_neg g20] at e; cases e
    rw [if_neg g19] at e
    by_cases gy : ¬ s.val = 0 ∧ ((tk tx s.k).1 = 25 ∨ (tk tx s.k).1 = 17)
    · rw [if_pos gy] at e
      cases ho : jopn tx 0 (.ok s) with
      | error er =>
        rw [ho] at e
        have : jsgn tx (.error er) = .error er := by
          unfold jsgn
          split
          · rw [jadv_er, jnmb_er]
          · rw [jnmb_er]
        rw [this, jxpc_er] at e
        cases e
      | ok q =>
        obtain ⟨hq, hlt, -⟩ := hop q ho
        rw [ho] at e
        refine hsm q hq hlt 1 _ (Gs_sst (Gs_emt (Gs_xpc ?_))) e
        have hself : Gs 0 q (.ok q) := Gs_ok rfl (Nat.le_refl _)
        unfold jsgn
        split
        · exact Gs_nmb (Gs_adv hself)
        · exact Gs_nmb hself
    rw [if_neg gy] at e
    by_cases gs : (if s.val = 0 then ((tk tx s.k).1 = 16 ∨ (tk tx s.k).1 = 8 ∨ (tk tx s.k).1 = 10 ∨ (tk tx s.k).1 = 11 ∨ (tk tx s.k).1 = 13) else (tk tx s.k).1 = 13)
    · rw [if_pos gs] at e
      cases ho : jopn tx 0 (.ok s) with
      | error er => rw [ho] at e; cases e
      | ok q =>
        obtain ⟨hq, hlt, -⟩ := hop q ho
        rw [ho] at e
        exact hsm q hq hlt 1 _ (Gs_xpc (Gs_smp (Gs_ok rfl (Nat.le_refl _)))) e
    · rw [if_neg gs] at e
      cases e
/-- the unit's code, as it becomes -/
def WQ (s : JSt) : Prop := (s.nm.length ≤ 20 ∧ s.sm ≤ 120 ∧ Cb s ∧ s.ars.length ≤ 20) ∧ Xt [] s.cd ∧ cnt s.cd ≤ s.sm ∧ ∀ a ∈ s.ars, a ≤ s.cd.length
theorem WQ_am2 {tx : List Nat} {q s' : JSt} (h1 : q.nm.length ≤ 20) (h2 : q.sm ≤ 120) (h3 : q.cd.length + 1 ≤ 2 * q.sm + q.ars.length) (h4 : q.ars.length ≤ 20) (h5 : Xt [] q.cd) (h6 : cnt q.cd ≤ q.sm) (h7 : ∀ a ∈ q.ars, a ≤ q.cd.length) (e : jam2 tx q = .ok s') : WQ s' := by
  obtain ⟨g1, o, g2⟩ := jam2_ok e
  have e8 : s'.ars = q.ars := by unfold JSt.ars; rw [g2]; rfl
  have fin : ∀ z : JSt, z.sm = q.sm → z.cd = q.cd → ∀ r, Xr z 0 r → r = .ok s' → s'.nm.length ≤ 20 → s'.sm ≤ 120 → WQ s' := by
    intro z hz1 hz2 r hr he hn hs
    obtain ⟨a1, a2, a3⟩ := hr s' he
    rw [hz1] at a2 a3
    rw [hz2] at a1 a2
    refine ⟨⟨hn, hs, ?_, by rw [e8]; exact h4⟩, h5.tr a1, by omega, fun a ha => ?_⟩
    · unfold Cb
      rw [e8]
      omega
    · rw [e8] at ha
      exact Nat.le_trans (h7 a ha) a1.1
  have hRm : ∀ o, Rm (((q.wold o).wk (q.k + 1)).wset 0) := fun o => ⟨h1, h2, by show q.cd.length ≤ 2 * q.sm + 20; omega⟩
  unfold jam2 at e
  by_cases k21 : (tk tx q.k).1 = 21
  · rw [if_pos k21] at e
    by_cases gm : 1 < q.ars.length ∧ q.old = 0
    · rw [if_pos gm] at e; cases e
    · rw [if_neg gm] at e
      obtain ⟨x1, x2⟩ := Xr_old (tx := tx) (hRm 1)
      have := x2 s' e
      exact fin _ rfl rfl _ x1 e this.1 this.2.1
  rw [if_neg k21] at e
  by_cases k26 : (tk tx q.k).1 = 26
  · rw [if_pos k26] at e
    by_cases gm : 1 < q.ars.length ∧ ¬ q.old = 0
    · rw [if_pos gm] at e; cases e
    · rw [if_neg gm] at e
      obtain ⟨x1, x2⟩ := Xr_bdy (tx := tx) (hRm 0)
      have x3 := Xr.emt0 (k := 5) (x := 1) (y := 0) x1 (fun z _ => Or.inr (Or.inr (Or.inr (Or.inr ⟨rfl, Or.inl ⟨rfl, rfl⟩⟩)))) ⟨by decide, by decide⟩
      have hns : s'.nm.length ≤ 20 ∧ s'.sm ≤ 120 := by
        obtain ⟨z, hz, ez | ez⟩ := jemt_ok e
        · subst ez; exact x2 z hz
        · subst ez; exact x2 s' hz
      exact fin _ rfl rfl _ x3 e hns.1 hns.2
  rw [if_neg k26] at e
  cases e
theorem WQ_arm {tx : List Nat} {w : Bool} {s s' : JSt} (h : WQ s) (e : jarm tx w (.ok s) = .ok s') : WQ s' := by
  obtain ⟨⟨h1, h2, h3, h4⟩, h5, h6, h7⟩ := h
  have hj : jarm tx w (.ok s) = if (tk tx s.k).1 = 7 ∧ ¬ s.dfl < 0 then jfal tx 3 (.ok s)
    else if 20 ≤ s.ars.length then jfal tx 12 (.ok s)
    else if (tk tx s.k).1 = 7 then jam2 tx (((s.wars (s.ars ++ [s.cd.length])).wdfl (nI s.ars.length)).wk (s.k + 1))
    else jb (jlbs tx w (.ok ((s.wars (s.ars ++ [s.cd.length])).wk (s.k + 1)))) (jam2 tx) := rfl
  rw [hj] at e
  unfold Cb at h3
  have hlen : (s.ars ++ [s.cd.length]).length = s.ars.length + 1 := by rw [List.length_append]; rfl
  by_cases c1 : (tk tx s.k).1 = 7 ∧ ¬ s.dfl < 0
  · rw [if_pos c1] at e; cases e
  rw [if_neg c1] at e
  by_cases c2 : 20 ≤ s.ars.length
  · rw [if_pos c2] at e; cases e
  rw [if_neg c2] at e
  have fin : ∀ q : JSt, q.ars = s.ars ++ [s.cd.length] → q.cd = s.cd → q.sm = s.sm → q.nm = s.nm → jam2 tx q = .ok s' → WQ s' := by
    intro q e1 e2 e3 e4 e5
    refine WQ_am2 (by rw [e4]; exact h1) (by rw [e3]; exact h2) (by rw [e1, e2, e3, hlen]; omega) (by rw [e1, hlen]; omega) (by rw [e2]; exact h5) (by rw [e2, e3]; exact h6) (fun a ha => ?_) e5
    rw [e1] at ha
    rw [e2]
    rcases List.mem_append.mp ha with ha | ha
    · exact h7 a ha
    · rw [List.mem_singleton.mp ha]; exact Nat.le_refl _
  by_cases c3 : (tk tx s.k).1 = 7
  · rw [if_pos c3] at e
    exact fin (((s.wars (s.ars ++ [s.cd.length])).wdfl (nI s.ars.length)).wk (s.k + 1)) rfl rfl rfl rfl e
  · rw [if_neg c3] at e
    cases hz : jlbs tx w (.ok ((s.wars (s.ars ++ [s.cd.length])).wk (s.k + 1))) with
    | error er => rw [hz] at e; cases e
    | ok q =>
      rw [hz] at e
      obtain ⟨l, k, e2⟩ := jlbs_ok hz
      exact fin q (by rw [e2]; rfl) (by rw [e2]; rfl) (by rw [e2]; rfl) (by rw [e2]; rfl) e
theorem WQ_arms {tx : List Nat} {w : Bool} : ∀ (i : Nat) (s s' : JSt), WQ s → jarms tx w i (.ok s) = .ok s' → WQ s'
  | 0, s, s', h, e => by cases e; exact h
  | i + 1, s, s', h, e => by
    unfold jarms at e
    split at e
    · cases hz : jarm tx w (.ok s) with
      | error er => rw [hz, jarms_er] at e; cases e
      | ok q =>
        rw [hz] at e
        exact WQ_arms i q s' (WQ_arm h hz) e
    · cases e; exact h
theorem WQ_all {tx : List Nat} {w : Bool} {v t : Int32} {s : JSt} (h : jall tx w (js0 v t) = .ok s) : WQ s := by
  unfold jall at h
  obtain ⟨q, h1, h2⟩ := jlst_ok h
  rw [h2]
  cases hz : jens tx 5 (.ok (js0 v t)) with
  | error er =>
    rw [hz] at h1
    have : jsel tx (.error er) = .error er := rfl
    rw [this, jarms_er] at h1
    cases h1
  | ok a =>
    rw [hz] at h1
    obtain ⟨⟨e, k, ha⟩, -⟩ := jens_inv 5 hz List.nodup_nil
    cases hy : jsel tx (.ok a) with
    | error er => rw [hy, jarms_er] at h1; cases h1
    | ok b =>
      rw [hy] at h1
      obtain ⟨v1, x, y, z, k2, hb⟩ := jsel_ok hy
      have hWb : WQ b := by
        rw [hb, ha]
        exact ⟨⟨Nat.zero_le _, Nat.zero_le _, Nat.zero_le _, Nat.zero_le _⟩, Xt.rf, Nat.zero_le _, fun a h => by cases h⟩
      exact WQ_arms 21 b q hWb h1
