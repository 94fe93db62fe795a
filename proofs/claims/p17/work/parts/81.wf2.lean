theorem mod_ne {d : Cd} {f : Int32 × Int32 × Int32 → Int32 × Int32 × Int32} {i j : Nat} (h : ¬ i = j) : (d.modify i f)[j]? = d[j]? := by
  rw [List.getElem?_modify]
  cases d[j]? with
  | none => rfl
  | some x => simp [h]
theorem cnt_mod {v : Int32} : ∀ (d : Cd) (i : Nat), cnt (d.modify i (fun x => (x.1, v, x.2.2))) = cnt d
  | [], i => by cases i <;> rfl
  | x :: d, 0 => by
    rw [List.modify_zero_cons]
    unfold cnt
    rw [List.countP_cons, List.countP_cons]
  | x :: d, i + 1 => by
    rw [List.modify_succ_cons]
    have := cnt_mod (v := v) d i
    unfold cnt at this ⊢
    rw [List.countP_cons, List.countP_cons, this]
/-- the same, but for a step that isn't led on yet -/
def XtP (c d : Cd) (i : Nat) : Prop := c.length ≤ i ∧ i < d.length ∧ (∀ j, j < c.length → d[j]? = c[j]?) ∧ (∀ j x, c.length ≤ j → ¬ j = i → d[j]? = some x → okS j d.length x) ∧ ∃ k a b, d[i]? = some (k, a, b) ∧ (k = 3 ∨ k = 4)
theorem XtP.beg {c : Cd} : XtP c (c ++ [(3, 0, 0)]) c.length := by
  refine ⟨Nat.le_refl _, by rw [List.length_append, List.length_singleton]; omega, fun j hj => List.getElem?_append_left hj, fun j x hj hji hx => ?_, 3, 0, 0, by simp, Or.inl rfl⟩
  rw [List.getElem?_eq_none (by rw [List.length_append, List.length_singleton]; omega)] at hx
  cases hx
theorem XtP.ext {c d e : Cd} {i : Nat} (h : XtP c d i) (h2 : Xt d e) : XtP c e i := by
  obtain ⟨a1, a2, a3, a4, k, x, y, a5, a6⟩ := h
  obtain ⟨b1, b2, b3⟩ := h2
  refine ⟨a1, by omega, fun j hj => by rw [b2 j (by omega), a3 j hj], fun j z hj hji hz => ?_, k, x, y, by rw [b2 i a2]; exact a5, a6⟩
  by_cases g : j < d.length
  · rw [b2 j g] at hz
    exact (a4 j z hj hji hz).mono b1
  · exact b3 j z (by omega) hz
theorem XtP.led {c d : Cd} {i : Nat} (h : XtP c d i) : Xt c (d.modify i (fun x => (x.1, nI d.length, x.2.2))) := by
  obtain ⟨a1, a2, a3, a4, k, x, y, a5, a6⟩ := h
  refine ⟨by rw [List.length_modify]; omega, fun j hj => ?_, fun j z hj hz => ?_⟩
  · rw [mod_ne (by omega)]
    exact a3 j hj
  · rw [List.length_modify]
    rw [List.getElem?_modify] at hz
    by_cases g : i = j
    · subst g
      rw [a5] at hz
      have hz : some (k, nI d.length, y) = some z := by simpa using hz
      have hz := Option.some.inj hz
      subst hz
      exact Or.inr (Or.inr (Or.inr (Or.inl ⟨a6, d.length, a2, Nat.le_refl _, rfl⟩)))
    · have hz : d[j]? = some z := by simpa [g] using hz
      exact a4 j z hj (fun t => g t.symm) hz
theorem XtP.els {c d : Cd} {i : Nat} (h : XtP c d i) : XtP c ((d ++ [(4, 0, 0)]).modify i (fun x => (x.1, nI (d ++ [(4, 0, 0)]).length, x.2.2))) d.length := by
  obtain ⟨a1, a2, a3, a4, k, x, y, a5, a6⟩ := h
  have hl : (d ++ [((4 : Int32), (0 : Int32), (0 : Int32))]).length = d.length + 1 := by rw [List.length_append]; rfl
  refine ⟨by omega, by rw [List.length_modify, hl]; omega, fun j hj => ?_, fun j z hj hji hz => ?_, 4, 0, 0, ?_, Or.inr rfl⟩
  · rw [mod_ne (by omega), List.getElem?_append_left (by omega), a3 j hj]
  · rw [List.length_modify]
    rw [List.getElem?_modify] at hz
    by_cases g : i = j
    · subst g
      rw [List.getElem?_append_left a2, a5] at hz
      have hz : some (k, nI (d ++ [(4, 0, 0)]).length, y) = some z := by simpa using hz
      have hz := Option.some.inj hz
      subst hz
      exact Or.inr (Or.inr (Or.inr (Or.inl ⟨a6, (d ++ [(4, 0, 0)]).length, by omega, Nat.le_refl _, rfl⟩)))
    · have hz : (d ++ [(4, 0, 0)])[j]? = some z := by simpa [g] using hz
      by_cases g2 : j < d.length
      · rw [List.getElem?_append_left g2] at hz
        exact (a4 j z hj (fun t => g t.symm) hz).mono (by omega)
      · rw [List.getElem?_eq_none (by omega)] at hz
        cases hz
  · rw [mod_ne (by omega), List.getElem?_append_right (by omega)]
    simp
theorem Xr.let {tx : List Nat} {s q : JSt} (h : Xr s 0 (.ok q)) : Xr s 0 (jlet tx (.ok q)) := by
  have hj : jlet tx (.ok q) = if ¬ (tk tx q.k).1 = 16 then jfal tx 2 (.ok q) else if ¬ jfnd tx (.ok q) < 0 then jfal tx 6 (.ok q) else if 20 ≤ q.nm.length then jfal tx 12 (.ok q) else (if jkd tx (jadv (.ok (q.wnm (q.nm ++ [(tk tx q.k).2.2.1])))) = 24 then jstn (nI q.nm.length) (jnmv tx (jadv (jadv (.ok (q.wnm (q.nm ++ [(tk tx q.k).2.2.1])))))) (jnmb tx (jadv (jadv (.ok (q.wnm (q.nm ++ [(tk tx q.k).2.2.1])))))) else jadv (.ok (q.wnm (q.nm ++ [(tk tx q.k).2.2.1])))) := rfl
  rw [hj]
  have hq := h q rfl
  have hn : Xr s 0 (.ok (q.wnm (q.nm ++ [(tk tx q.k).2.2.1]))) := fun z e => by cases e; exact hq
  by_cases c1 : ¬ (tk tx q.k).1 = 16
  · rw [if_pos c1]; exact Xr.f
  rw [if_neg c1]
  by_cases c2 : ¬ jfnd tx (.ok q) < 0
  · rw [if_pos c2]; exact Xr.f
  rw [if_neg c2]
  by_cases c3 : 20 ≤ q.nm.length
  · rw [if_pos c3]; exact Xr.f
  rw [if_neg c3]
  split
  · exact Xr.stn (Xr.nmb (Xr.adv (Xr.adv hn))) (fun z _ => ⟨q.nm.length, by omega, rfl⟩)
  · exact Xr.adv hn
theorem Xr.use {tx : List Nat} {s : JSt} {r : JRs} (h : Xr s 0 r) (h20 : N20 r) : Xr s 1 (juse tx r) := by
  cases r with
  | error e => exact Xr.er
  | ok q =>
    have hj : juse tx (.ok q) = if ¬ (tk tx q.k).1 = 16 then jfal tx 2 (.ok q) else if ¬ jbit (jfnd tx (.ok q)) q.set then jfal tx 7 (.ok q) else jadv (jemt 1 (jfnd tx (.ok q)) 0 (.ok q)) := rfl
    rw [hj]
    by_cases c1 : ¬ (tk tx q.k).1 = 16
    · rw [if_pos c1]; exact Xr.f
    rw [if_neg c1]
    by_cases c2 : ¬ jbit (jfnd tx (.ok q)) q.set
    · rw [if_pos c2]; exact Xr.f
    rw [if_neg c2]
    have hb : jbit (jfnd tx (.ok q)) q.set := Classical.byContradiction c2
    exact Xr.adv (Xr.emt h (fun z _ => Or.inr (Or.inl ⟨rfl, jfnd_20 (h20 q rfl) hb.1⟩)))
theorem Xr.lve {s : JSt} {r : JRs} {a b : Int32} (h : Xr s 0 r) (ha : (a = 1 ∧ b = 0) ∨ a = 2 ∨ a = 3) : Xr s 0 (jlve a b r) :=
  Xr.sst (Xr.emt0 h (fun z _ => Or.inr (Or.inr (Or.inr (Or.inr ⟨rfl, ha⟩)))) ⟨by show ¬ (5 : Int32) = 0; decide, by show ¬ (5 : Int32) = 1; decide⟩)
theorem Xr.yld {tx : List Nat} {s : JSt} {r : JRs} (h : Xr s 0 r) : Xr s 0 (jyld tx r) := by
  unfold jyld
  split
  · exact Xr.lve (Xr.nmb (Xr.adv h)) (Or.inr (Or.inl rfl))
  · exact Xr.lve (Xr.nmb h) (Or.inr (Or.inl rfl))
theorem Xr.smp {tx : List Nat} {s : JSt} {q : JSt} (h : Xr s 0 (.ok q)) (h20 : q.nm.length ≤ 20) (h16 : (tk tx q.k).1 = 16 → ¬ jfnd tx (.ok q) < 0) : Xr s 1 (jsmp tx (.ok q)) := by
  unfold jsmp
  by_cases c8 : jkd tx (.ok q) = 8
  · rw [if_pos c8]
    exact Xr.emt (Xr.nmb (Xr.adv h)) (fun z _ => Or.inl rfl)
  rw [if_neg c8]
  by_cases c10 : jkd tx (.ok q) = 10
  · rw [if_pos c10]
    exact Xr.use (Xr.adv h) (N20_adv (N20_ok h20))
  rw [if_neg c10]
  by_cases c16 : jkd tx (.ok q) = 16
  · rw [if_pos c16]
    exact (Xr.stn (Xr.nmb (Xr.xpc (Xr.adv h))) (fun z _ => jfnd_20 h20 (h16 c16))).mono (by omega)
  rw [if_neg c16]
  by_cases c11 : jkd tx (.ok q) = 11
  · rw [if_pos c11]
    exact (Xr.lve (Xr.adv h) (Or.inl ⟨rfl, rfl⟩)).mono (by omega)
  · rw [if_neg c11]
    exact (Xr.lve (Xr.nmb (Xr.adv h)) (Or.inr (Or.inr rfl))).mono (by omega)
theorem jopn_nm {tx : List Nat} {d : Nat} {s s2 : JSt} (h : jopn tx d (.ok s) = .ok s2) : (tk tx s.k).1 = 16 → ¬ jfnd tx (.ok s) < 0 := by
  intro g w
  simp only [jopn, jb] at h
  rw [if_pos ⟨g, w⟩] at h
  cases h
theorem jopn_sm {tx : List Nat} {d : Nat} {s s2 : JSt} (h : jopn tx d (.ok s) = .ok s2) : s.sm < 120 := by
  simp only [jopn, jb] at h
  by_cases c1 : (tk tx s.k).1 = 16 ∧ jfnd tx (.ok s) < 0
  · rw [if_pos c1] at h; cases h
  rw [if_neg c1] at h
  by_cases c2 : (if s.val = 0 then (tk tx s.k).1 = 12 else (tk tx s.k).1 = 11)
  · rw [if_pos c2] at h; cases h
  rw [if_neg c2] at h
  by_cases c3 : s.set = -1
  · rw [if_pos c3] at h; cases h
  rw [if_neg c3] at h
  by_cases c4 : 120 ≤ s.sm ∨ 10 < d
  · rw [if_pos c4] at h; cases h
  omega
theorem sm_loop {tx : List Nat} {g : JRs → JRs} (hg : ∀ s s', s.sm ≤ 120 → g (.ok s) = .ok s' → s'.sm ≤ 120) : ∀ (i : Nat) (s s' : JSt), s.sm ≤ 120 → jloop tx g i (.ok s) = .ok s' → s'.sm ≤ 120
  | 0, s, s', h, e => by cases e; exact h
  | i + 1, s, s', h, e => by
    unfold jloop at e
    split at e
    · cases hz : g (.ok s) with
      | error er => rw [hz, jloop_er] at e; cases e
      | ok q =>
        rw [hz] at e
        exact sm_loop hg i q s' (hg s q h hz) e
    · cases e; exact h
theorem sm_stmt {tx : List Nat} : ∀ (f : Nat) (s s' : JSt), s.sm ≤ 120 → jstmt tx f (.ok s) = .ok s' → s'.sm ≤ 120
  | 0, s, s', h, e => by
    simp only [jstmt] at e
    obtain ⟨q, h1, h2, h3⟩ := jopn_ok e
    omega
  | f + 1, s, s', h0, h => by
    simp only [jstmt] at h
    cases hz : jopn tx (11 - (f + 1)) (jst1 tx (.ok s)) with
    | error e => rw [hz] at h; cases h
    | ok q =>
      rw [hz] at h
      obtain ⟨z, h1, rfl, h3⟩ := jopn_ok hz
      obtain ⟨h4, -⟩ := jst1_ok h1
      cases h4
      rw [h1] at hz
      have hlt := jopn_sm hz
      simp only [jb] at h
      have hs : (s.wsm (s.sm + 1)).sm ≤ 120 := hlt
      have hself : Gs 0 (s.wsm (s.sm + 1)) (.ok (s.wsm (s.sm + 1))) := Gs_ok rfl (Nat.le_refl _)
      have fin : ∀ r, Gs 1 (s.wsm (s.sm + 1)) r → r = .ok s' → s'.sm ≤ 120 := by
        intro r h1 h2
        rw [(h1 s' h2).1]
        exact hs
      split at h
      · unfold jblk at h
        cases hl : jxpc tx 20 (jloop tx (jstmt tx f) 121 (jadv (.ok (s.wsm (s.sm + 1))))) with
        | error e => rw [hl] at h; cases h
        | ok y =>
          rw [hl] at h
          cases h
          obtain ⟨y2, hy, rfl, -⟩ := jxpc_ok hl
          exact sm_loop (sm_stmt f) 121 _ y2 (show ((s.wsm (s.sm + 1)).wk ((s.wsm (s.sm + 1)).k + 1)).sm ≤ 120 from hs) hy
      split at h
      · obtain ⟨s1, a1, a2⟩ := jbrn_ok (fun e => jstmt_er) h
        obtain ⟨q0, hq0⟩ : ∃ q, jadv (jemt 3 0 0 (.ok (s.wsm (s.sm + 1)))) = .ok q := ⟨_, rfl⟩
        have hsm0 : q0.sm ≤ 120 := by
          have := Gs_adv (Gs_emt (k := 3) (x := 0) (y := 0) hself) q0 hq0
          omega
        rw [hq0] at a1
        have hs1 := sm_stmt f q0 s1 hsm0 a1
        rcases a2 with ⟨-, rfl⟩ | ⟨-, s2, a3, rfl⟩
        · exact hs1
        · obtain ⟨q1, hq1⟩ : ∃ q, jemt 4 0 0 (.ok (s1.wset (s.wsm (s.sm + 1)).set)) = .ok q := ⟨_, rfl⟩
          have hsm1 : q1.sm ≤ 120 := by
            have := Gs_emt (k := 4) (x := 0) (y := 0) (a := 0) (s := s1.wset (s.wsm (s.sm + 1)).set) (Gs_ok rfl (Nat.le_refl _)) q1 hq1
            have h5 : (s1.wset (s.wsm (s.sm + 1)).set).sm = s1.sm := rfl
            omega
          rw [hq1] at a3
          have a3' : jstmt tx f (.ok ((sled (s.wsm (s.sm + 1)).cd.length q1).wk (q1.k + 1))) = .ok s2 := a3
          exact sm_stmt f _ s2 (show ((sled (s.wsm (s.sm + 1)).cd.length q1).wk (q1.k + 1)).sm ≤ 120 from hsm1) a3'
      split at h
      · exact fin _ (Gs_xpc (Gs_let (Gs_adv hself))) h
      split at h
      · exact fin _ (Gs_xpc (Gs_yld (Gs_adv hself))) h
      · exact fin _ (Gs_xpc (Gs_smp hself)) h
/-- what must be so for the code to have room -/
def Rm (s : JSt) : Prop := s.nm.length ≤ 20 ∧ s.sm ≤ 120 ∧ s.cd.length ≤ 2 * s.sm + 20
theorem Rm_stmt {tx : List Nat} {f : Nat} {s s' : JSt} (h : Rm s) (e : jstmt tx f (.ok s) = .ok s') : Rm s' := by
  have h1 := Gr_stmt f s s' e
  unfold Gr at h1
  have h2 := N20_stmt f _ (N20_ok h.1) s' e
  have h3 := sm_stmt f s s' h.2.1 e
  have := h.2.2
  exact ⟨h2, h3, by omega⟩
theorem Xr_loop {tx : List Nat} {g : JRs → JRs} (hg : ∀ s, Rm s → Xr s 0 (g (.ok s))) (hn : ∀ s s', Rm s → g (.ok s) = .ok s' → Rm s') : ∀ (i : Nat) (s : JSt), Rm s → Xr s 0 (jloop tx g i (.ok s))
  | 0, s, _ => Xr.ok rfl rfl
  | i + 1, s, h => by
    unfold jloop
    split
    · intro z hz
      cases hq : g (.ok s) with
      | error e => rw [hq, jloop_er] at hz; cases hz
      | ok q =>
        rw [hq] at hz
        obtain ⟨a1, a2, a3⟩ := hg s h q hq
        obtain ⟨b1, b2, b3⟩ := Xr_loop hg hn i q (hn s q h hq) z hz
        exact ⟨a1.tr b1, by omega, by omega⟩
    · exact Xr.ok rfl rfl
theorem Xr_brn {tx : List Nat} {g : JRs → JRs} {s : JSt} (hg : ∀ s, Rm s → Xr s 0 (g (.ok s))) (hn : ∀ s s', Rm s → g (.ok s) = .ok s' → Gr s s' ∧ Rm s') (he : ∀ e, g (.error e) = .error e) (h20 : s.nm.length ≤ 20) (hsm : s.sm ≤ 120) (hcd : s.cd.length + 2 ≤ 2 * s.sm + 20) : Xr s 0 (jbrn tx g (.ok s)) := by
  intro s' h
  obtain ⟨s1, h1, h2⟩ := jbrn_ok he h
  have hc : s.cd.length < 260 := by omega
  have e3 : jadv (jemt 3 0 0 (.ok s)) = .ok ((semt 3 0 0 s).wk (s.k + 1)) := by
    simp only [jemt, jb]
    rw [if_pos hc]
    rfl
  rw [e3] at h1
  have hl3 : ((semt 3 0 0 s).wk (s.k + 1)).cd.length = s.cd.length + 1 := semt_len
  have hm3 : ((semt 3 0 0 s).wk (s.k + 1)).sm = s.sm := rfl
  have hR3 : Rm ((semt 3 0 0 s).wk (s.k + 1)) := ⟨h20, hsm, by rw [hl3, hm3]; omega⟩
  obtain ⟨a1, a2, a3⟩ := hg ((semt 3 0 0 s).wk (s.k + 1)) hR3 s1 h1
  obtain ⟨hgr1, hn1⟩ := hn _ s1 hR3 h1
  unfold Gr at hgr1
  rw [hl3, hm3] at hgr1
  have hs1m := hn1.2.1
  have hc1 : s1.cd.length < 260 := by omega
  have hp : XtP s.cd s1.cd s.cd.length := XtP.beg.ext a1
  have c0 : cnt (s.cd ++ [(3, 0, 0)]) = cnt s.cd := (cnt_app (c := s.cd) (x := (3, 0, 0))).2 ⟨by decide, by decide⟩
  have a2' : cnt s1.cd + s.sm ≤ cnt s.cd + s1.sm := by
    have : cnt s1.cd + s.sm ≤ cnt (s.cd ++ [(3, 0, 0)]) + 0 + s1.sm := a2
    omega
  have a3' : s.sm ≤ s1.sm := a3
  rcases h2 with ⟨-, rfl⟩ | ⟨-, s2, h3, rfl⟩
  · refine ⟨hp.led, ?_, a3'⟩
    show cnt (s1.cd.modify _ _) + s.sm ≤ cnt s.cd + 0 + s1.sm
    rw [cnt_mod]
    omega
  · have e4 : jadv (jled s.cd.length (jemt 4 0 0 (.ok (s1.wset s.set)))) = .ok (((sled s.cd.length (semt 4 0 0 s1)).wset s.set).wk (s1.k + 1)) := by
      simp only [jemt, jb]
      rw [if_pos (show (s1.wset s.set).cd.length < 260 from hc1)]
      rfl
    rw [e4] at h3
    have hl4 : (((sled s.cd.length (semt 4 0 0 s1)).wset s.set).wk (s1.k + 1)).cd.length = s1.cd.length + 1 := by
      show ((s1.cd ++ [_]).modify _ _).length = _
      rw [List.length_modify, List.length_append]
      rfl
    have hm4 : (((sled s.cd.length (semt 4 0 0 s1)).wset s.set).wk (s1.k + 1)).sm = s1.sm := rfl
    obtain ⟨b1, b2, b3⟩ := hg (((sled s.cd.length (semt 4 0 0 s1)).wset s.set).wk (s1.k + 1)) ⟨hn1.1, hs1m, by rw [hl4, hm4]; omega⟩ s2 h3
    have hp2 := hp.els.ext b1
    have c4 : cnt (s1.cd ++ [(4, 0, 0)]) = cnt s1.cd := (cnt_app (c := s1.cd) (x := (4, 0, 0))).2 ⟨by decide, by decide⟩
    have b2' : cnt s2.cd + s1.sm ≤ cnt s1.cd + s2.sm := by
      have : cnt s2.cd + s1.sm ≤ cnt ((s1.cd ++ [(4, 0, 0)]).modify s.cd.length (fun x => (x.1, nI (s1.cd ++ [(4, 0, 0)]).length, x.2.2))) + 0 + s2.sm := b2
      rw [cnt_mod, c4] at this
      omega
    have b3' : s1.sm ≤ s2.sm := b3
    refine ⟨hp2.led, ?_, by show s.sm ≤ s2.sm; omega⟩
    show cnt (s2.cd.modify _ _) + s.sm ≤ cnt s.cd + 0 + s2.sm
    rw [cnt_mod]
    omega
theorem Xr_stmt {tx : List Nat} : ∀ (f : Nat) (s : JSt), Rm s → Xr s 0 (jstmt tx f (.ok s))
  | 0, s, h => fun s' e => by
    simp only [jstmt] at e
    obtain ⟨q, h1, h2, h3⟩ := jopn_ok e
    omega
  | f + 1, s, h0 => fun s' h => by
    simp only [jstmt] at h
    cases hz : jopn tx (11 - (f + 1)) (jst1 tx (.ok s)) with
    | error e => rw [hz] at h; cases h
    | ok q =>
      rw [hz] at h
      obtain ⟨z, h1, rfl, h3⟩ := jopn_ok hz
      obtain ⟨h4, -⟩ := jst1_ok h1
      cases h4
      rw [h1] at hz
      have hlt := jopn_sm hz
      have hnm := jopn_nm hz
      simp only [jb] at h
      have hself : Xr (s.wsm (s.sm + 1)) 0 (.ok (s.wsm (s.sm + 1))) := Xr.ok rfl rfl
      have h20 : (s.wsm (s.sm + 1)).nm.length ≤ 20 := h0.1
      have fin : ∀ r, Xr (s.wsm (s.sm + 1)) 1 r → r = .ok s' → Xt s.cd s'.cd ∧ cnt s'.cd + s.sm ≤ cnt s.cd + 0 + s'.sm ∧ s.sm ≤ s'.sm := by
        intro r h1 h2
        obtain ⟨a1, a2, a3⟩ := h1 s' h2
        have a2 : cnt s'.cd + (s.sm + 1) ≤ cnt s.cd + 1 + s'.sm := a2
        have a3 : s.sm + 1 ≤ s'.sm := a3
        exact ⟨a1, by omega, by omega⟩
      split at h
      · unfold jblk at h
        refine fin _ ?_ h
        have hl := Xr_loop (tx := tx) (g := jstmt tx f) (Xr_stmt f) (fun a b ha hb => Rm_stmt ha hb) 121 ((s.wsm (s.sm + 1)).wk ((s.wsm (s.sm + 1)).k + 1)) ⟨h0.1, hlt, by
          have := h0.2.2
          show s.cd.length ≤ 2 * (s.sm + 1) + 20
          omega⟩
        intro y hy
        cases hx : jxpc tx 20 (jloop tx (jstmt tx f) 121 (jadv (.ok (s.wsm (s.sm + 1))))) with
        | error e => rw [hx] at hy; cases hy
        | ok w =>
          rw [hx] at hy
          cases hy
          exact ((Xr.xpc hl).mono (by omega)) w hx
      split at h
      · have hb := Xr_brn (tx := tx) (g := jstmt tx f) (s := s.wsm (s.sm + 1)) (Xr_stmt f) (fun a b ha hb => ⟨Gr_stmt f a b hb, Rm_stmt ha hb⟩) (fun e => jstmt_er) h20 hlt (by
          have := h0.2.2
          show s.cd.length + 2 ≤ 2 * (s.sm + 1) + 20
          omega)
        exact fin _ (hb.mono (by omega)) h
      split at h
      · exact fin _ ((Xr.xpc (Xr.let (q := (s.wsm (s.sm + 1)).wk ((s.wsm (s.sm + 1)).k + 1)) (Xr.adv hself))).mono (by omega)) h
      split at h
      · exact fin _ ((Xr.xpc (Xr.yld (Xr.adv hself))).mono (by omega)) h
      · exact fin _ (Xr.xpc (Xr.smp hself h20 hnm)) h
