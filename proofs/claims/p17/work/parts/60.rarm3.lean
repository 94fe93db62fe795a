set_option maxHeartbeats 1000000 in
theorem r_readArm {XL : Nat} {XS : Nat → Int32} {n : Nat} {C : mC} {I : Nat → Nat → Int32} {L : Nat → Nat → Int64} {K : mK} {tx : List Nat} {m : Nat} {I0 : Nat → Nat → Int32} {L0 : Nat → Nat → Int64} {s : JSt} (hC : m_Ge XL XS (n + 10) C) (h : RH tx m I0 L0 true 0 (.ok s) I L) (hk67 : (tk tx s.k).1 = 6 ∨ (tk tx s.k).1 = 7) (hcb : s.cd.length ≤ 2 * s.sm + s.ars.length) (hK : ∀ I' L', RH tx m I0 L0 true 0 (jarm tx false (.ok s)) I' L' → K none (m_SH, I', L')) : C 143 [.ref 30] (m_SH, I, L) K := by
  have hj : jarm tx false (.ok s) = if (tk tx s.k).1 = 7 ∧ ¬ s.dfl < 0 then jfal tx 3 (.ok s)
    else if 20 ≤ s.ars.length then jfal tx 12 (.ok s)
    else if (tk tx s.k).1 = 7 then jam2 tx (((s.wars (s.ars ++ [s.cd.length])).wdfl (nI s.ars.length)).wk (s.k + 1))
    else jb (jlbs tx false (.ok ((s.wars (s.ars ++ [s.cd.length])).wk (s.k + 1)))) (jam2 tx) := rfl
  rw [hj] at hK
  have h19 : I 30 19 = nI s.ars.length := h.2.2.2.2.1.1
  have ha20 := h.2.2.2.2.1.2.2.1
  have h27 : I 30 27 = s.dfl := h.2.2.2.2.2.2.1
  refine e_X9_readArm hC (Nat.le_of_ble_eq_true rfl) ?_
  intro C' hC' P hP
  -- behind the labels
  have s98 : ∀ (q : JSt) (J : Nat → Nat → Int32) (M : Nat → Nat → Int64) (l1 : Int32), RH tx m I0 L0 true 1 (.ok q) J M → q.cd.length ≤ 2 * q.sm + (q.ars.length - 1) → q.ars.length ≤ 20 → 0 < q.ars.length → q.ars.getD (q.ars.length - 1) 0 = q.cd.length → (∀ I' L', RH tx m I0 L0 true 0 (jam2 tx q) I' L' → K none (m_SH, I', L')) → P (98, [some (.ref 30), some (.int l1)], [], (m_SH, J, M), 0, 0) := by
    intro q J M l1 hJ hqc hq20 hq0 hlast hk
    obtain ⟨hJ16, hv01, -⟩ := hJ.2.2.2.1 rfl
    have j19 : J 30 19 = nI (q.ars.length - 1) := hJ.2.2.2.2.1.1
    obtain ⟨f27, f28, f01, f29, f5, -, f7⟩ := hJ.2.2.2.2.2.2
    have j33 : J 30 33 = nI q.cd.length := by
      obtain ⟨u0, x, hX⟩ := hJ.2.1
      exact hX.fct.2.2.1
    have hJ1 : RH tx m I0 L0 true 1 (.ok q) (m_up J 36 (q.ars.length - 1) (nI q.cd.length)) M := hJ.un (Fr.rf.up rfl) Fr.rf rfl rfl rfl rfl hJ.2.2.a36
    have g28 : m_up J 36 (q.ars.length - 1) (nI q.cd.length) 30 28 = q.old := by simp [m_upr]; exact f28
    have g29 : m_up J 36 (q.ars.length - 1) (nI q.cd.length) 30 29 = (if q.ars.length - 1 = 0 then 0 else if q.old = 0 then 1 else 0) := Eq.trans (by simp [m_upr]) f29
    have g19 : m_up J 36 (q.ars.length - 1) (nI q.cd.length) 30 19 = nI (q.ars.length - 1) := by simp [m_upr]; exact j19
    have g36 : m_up J 36 (q.ars.length - 1) (nI q.cd.length) 36 (q.ars.length - 1) = nI q.cd.length := by simp [m_upr]
    have g16 : m_up J 36 (q.ars.length - 1) (nI q.cd.length) 30 16 = q.val := by simp [m_upr]; exact hJ16
    unfold jam2 at hk
    repeat (refine hP _ ?_; conv => whnf)
    rw [j19, j33]
    refine ⟨vp_in_nI (by omega) (by omega), ?_⟩
    rw [nI_clamp (by omega)]
    generalize m_up J 36 (q.ars.length - 1) (nI q.cd.length) = J1 at hJ1 g28 g29 g19 g36 g16
    repeat (refine hP _ ?_; conv => whnf)
    refine h_isSign (k := 21) (n := n + 8) hC' hJ1 (by decide) (by decide) ?_
    by_cases k21 : (tk tx q.k).1 = 21
    · rw [if_pos k21] at hk ⊢
      repeat (refine hP _ ?_; conv => whnf)
      refine ⟨fun w => absurd w (by decide), fun _ => ?_⟩
      repeat (refine hP _ ?_; conv => whnf)
      rw [g29]
      by_cases gmix : 1 < q.ars.length ∧ q.old = 0
      · rw [if_pos gmix] at hk
        rw [if_neg (by omega), if_pos gmix.2]
        refine ⟨fun w => absurd w (by decide), fun _ => ?_⟩
        repeat (refine hP _ ?_; conv => whnf)
        refine h_wrong (a := 4) (n := n + 8) hC' hJ1 (by decide) (by decide) (by decide) (fun I' h' => ?_)
        repeat (refine hP _ ?_; conv => whnf)
        obtain ⟨e, he⟩ := jfal_err (tx := tx) (a := 4) (r := .ok q)
        rw [he] at h' hk
        exact hk _ _ h'.anyE
      · rw [if_neg gmix] at hk
        have hz : (if q.ars.length - 1 = 0 then (0 : Int32) else if q.old = 0 then 1 else 0) = 0 := by
          by_cases y : q.ars.length - 1 = 0
          · rw [if_pos y]
          · rw [if_neg y, if_neg (fun w => gmix ⟨by omega, w⟩)]
        rw [hz]
        refine ⟨fun _ => ?_, fun w => absurd rfl w⟩
        repeat (refine hP _ ?_; conv => whnf)
        refine ⟨Or.inr rfl, ?_⟩
        repeat (refine hP _ ?_; conv => whnf)
        rw [show m_up J1 30 28 1 30 19 = nI (q.ars.length - 1) by simp [m_upr, g19], nI_1, show q.ars.length - 1 + 1 = q.ars.length by omega]
        have hF2 : Fr (fun p q' => (p == 30 && (q' == 19 || q' == 28 || q' == 29)) || (p == 36 && q' == q.ars.length - 1)) J1 (m_up (m_up J1 30 28 1) 30 19 (nI q.ars.length)) := (Fr.rf.up rfl).up rfl
        have hU2 : Fr S_un J1 (m_up (m_up J1 30 28 1) 30 19 (nI q.ars.length)) := (Fr.rf.up rfl).up rfl
        have k19 : m_up (m_up J1 30 28 1) 30 19 (nI q.ars.length) 30 19 = nI q.ars.length := by simp [m_upr]
        have k28 : m_up (m_up J1 30 28 1) 30 19 (nI q.ars.length) 30 28 = 1 := by simp [m_upr]
        have k29 : m_up (m_up J1 30 28 1) 30 19 (nI q.ars.length) 30 29 = 0 := by simp [m_upr]; rw [g29, hz]
        have k36 : m_up (m_up J1 30 28 1) 30 19 (nI q.ars.length) 36 (q.ars.length - 1) = nI (q.ars.getD (q.ars.length - 1) 0) := by rw [hlast]; simp [m_upr]; exact g36
        have k16 : m_up (m_up J1 30 28 1) 30 19 (nI q.ars.length) 30 16 = q.val := by simp [m_upr]; exact g16
        generalize m_up (m_up J1 30 28 1) 30 19 (nI q.ars.length) = J2 at hF2 hU2 k19 k28 k29 k36 k16
        obtain ⟨u0, x, hX⟩ := hJ1.2.1
        have hX2 := hX.un (s' := q) hU2 Fr.rf rfl rfl rfl rfl
        refine r_nextX (n := n + 6) hC' hX2 (by show (tk tx q.k).1 < 27; omega) (fun I3 L3 h3 => ?_)
        have h3' : RX tx m I3 L3 u0 260 [] (.ok ((((q.wold 1).wk (q.k + 1)).wset x).wu u0)) I3 L3 := h3.reb
        have h4 := h3'.toS (y := 0) (by rw [h3.2.1.1 30 16 rfl]; exact k16)
        repeat (refine hP _ ?_; conv => whnf)
        refine r_readOld (B := q.ars.length - 1) hC' (by omega) h4 rfl hqc (fun I5 L5 v he hk5 => ?_)
        repeat (refine hP _ ?_; conv => whnf)
        cases hjo : jold tx (((q.wold 1).wk (q.k + 1)).wset 0) with
        | error e =>
          have h5 := he e hjo
          rw [hjo] at hk
          have hF5 : Fr (fun p q => p == 30 && (q == 46 || q == 44 || q == 45)) I5 (m_up (m_up (m_up I5 30 46 v) 30 44 0) 30 45 0) := ((Fr.rf.up rfl).up rfl).up rfl
          refine hk _ _ ⟨⟨?_, ?_⟩, _, (h5.outE hF5).mono (by omega) (by omega)⟩
          · refine (((hJ1.1.1.tr (hU2.mono (fun _ _ => S_un_rd))).tr (h3.2.1.1.mono (fun _ _ => S_st_rd))).tr (h5.2.1.1.mono (fun _ _ => S_st_rd))).tr ?_
            exact ((Fr.rf.up rfl).up rfl).up rfl
          · exact (hJ1.1.2.tr (h3.2.2.1.mono (fun _ _ => S_stL_rd))).tr (h5.2.2.1.mono (fun _ _ => S_stL_rd))
        | ok s' =>
          obtain ⟨h5, h6, h7⟩ := hk5 s' hjo
          rw [hjo] at hk
          have hF5 : Fr (fun p q => p == 30 && (q == 46 || q == 44 || q == 45)) I5 (m_up (m_up (m_up I5 30 46 v) 30 44 0) 30 45 0) := ((Fr.rf.up rfl).up rfl).up rfl
          have hsu : s'.u = (q.wold 1).u := h5.ok.2.2.1.2.2
          refine hk _ _ ⟨⟨?_, ?_⟩, ⟨_, s'.set, (h5.outS (s := s') (x := s'.set) hF5 (by simp [m_upr]) (by simp [m_upr]))⟩, ?_⟩
          · refine (((hJ1.1.1.tr (hU2.mono (fun _ _ => S_un_rd))).tr (h3.2.1.1.mono (fun _ _ => S_st_rd))).tr (h5.2.1.1.mono (fun _ _ => S_st_rd))).tr ?_
            exact ((Fr.rf.up rfl).up rfl).up rfl
          · exact (hJ1.1.2.tr (h3.2.2.1.mono (fun _ _ => S_stL_rd))).tr (h5.2.2.1.mono (fun _ _ => S_stL_rd))
          · exact hJ1.2.2.oa (o := 1) (Or.inr rfl) hF2 k19 k28 (by rw [k29]; rfl) k36 (h3.2.1.1.tr h5.2.1.1) (h3.2.2.1.tr h5.2.2.1) (((Fr.rf.up rfl).up rfl).up rfl) s' hsu (fun _ => by simp [m_upr]; exact h7) (fun w => absurd w (by decide))
    rw [if_neg k21] at hk ⊢
    repeat (refine hP _ ?_; conv => whnf)
    refine ⟨fun _ => ?_, fun w => absurd rfl w⟩
    repeat (refine hP _ ?_; conv => whnf)
    refine h_isSign (k := 26) (n := n + 8) hC' hJ1 (by decide) (by decide) ?_
    by_cases k26 : (tk tx q.k).1 = 26
    · rw [if_pos k26] at hk ⊢
      repeat (refine hP _ ?_; conv => whnf)
      refine ⟨fun w => absurd w (by decide), fun _ => ?_⟩
      repeat (refine hP _ ?_; conv => whnf)
      rw [g28]
      refine ⟨fun w => ?_, fun w => ?_⟩
      rotate_left
      · have gmix : 1 < q.ars.length ∧ ¬ q.old = 0 := by
          refine ⟨?_, w⟩
          by_cases y : q.ars.length - 1 = 0
          · exact absurd (f5 y) w
          · omega
        rw [if_pos gmix] at hk
        repeat (refine hP _ ?_; conv => whnf)
        refine h_wrong (a := 4) (n := n + 8) hC' hJ1 (by decide) (by decide) (by decide) (fun I' h' => ?_)
        repeat (refine hP _ ?_; conv => whnf)
        obtain ⟨e, he⟩ := jfal_err (tx := tx) (a := 4) (r := .ok q)
        rw [he] at h' hk
        exact hk _ _ h'.anyE
      · have w : q.old = 0 := w
        rw [if_neg (fun y => y.2 w)] at hk
        have hnm : q.nm = [] := f7 w
        repeat (refine hP _ ?_; conv => whnf)
        refine ⟨Or.inr rfl, ?_⟩
        repeat (refine hP _ ?_; conv => whnf)
        rw [show m_up J1 30 29 1 30 19 = nI (q.ars.length - 1) by simp [m_upr, g19], nI_1, show q.ars.length - 1 + 1 = q.ars.length by omega]
        have hF2 : Fr (fun p q' => (p == 30 && (q' == 19 || q' == 28 || q' == 29)) || (p == 36 && q' == q.ars.length - 1)) J1 (m_up (m_up J1 30 29 1) 30 19 (nI q.ars.length)) := (Fr.rf.up rfl).up rfl
        have hU2 : Fr S_un J1 (m_up (m_up J1 30 29 1) 30 19 (nI q.ars.length)) := (Fr.rf.up rfl).up rfl
        have k19 : m_up (m_up J1 30 29 1) 30 19 (nI q.ars.length) 30 19 = nI q.ars.length := by simp [m_upr]
        have k28 : m_up (m_up J1 30 29 1) 30 19 (nI q.ars.length) 30 28 = 0 := by simp [m_upr]; rw [g28, w]
        have k29 : m_up (m_up J1 30 29 1) 30 19 (nI q.ars.length) 30 29 = 1 := by simp [m_upr]
        have k36 : m_up (m_up J1 30 29 1) 30 19 (nI q.ars.length) 36 (q.ars.length - 1) = nI (q.ars.getD (q.ars.length - 1) 0) := by rw [hlast]; simp [m_upr]; exact g36
        have k16 : m_up (m_up J1 30 29 1) 30 19 (nI q.ars.length) 30 16 = q.val := by simp [m_upr]; exact g16
        generalize m_up (m_up J1 30 29 1) 30 19 (nI q.ars.length) = J2 at hF2 hU2 k19 k28 k29 k36 k16
        obtain ⟨u0, x, hX⟩ := hJ1.2.1
        have hX2 := hX.un (s' := q) hU2 Fr.rf rfl rfl rfl rfl
        refine r_nextX (n := n + 6) hC' hX2 (by show (tk tx q.k).1 < 27; omega) (fun I3 L3 h3 => ?_)
        have h3' : RX tx m I3 L3 u0 260 [] (.ok ((((q.wold 0).wk (q.k + 1)).wset x).wu u0)) I3 L3 := h3.reb
        have h4 := h3'.toB (y := 0) (by rw [h3.2.1.1 30 16 rfl]; exact k16) hnm
        have hbd := Nn_bdy (tx := tx) (s := ((q.wold 0).wk (q.k + 1)).wset 0) hnm
        have hgr : ∀ s', jbdy tx (((q.wold 0).wk (q.k + 1)).wset 0) = .ok s' → s'.cd.length + 2 * q.sm ≤ q.cd.length + 2 * s'.sm := fun s' e => (jbdy_gr e).2
        repeat (refine hP _ ?_; conv => whnf)
        refine r_readBody (B := q.ars.length - 1) hC' (by omega) h4 rfl hnm hqc (fun I5 L5 he hk5 => ?_)
        repeat (refine hP _ ?_; conv => whnf)
        cases hjo : jbdy tx (((q.wold 0).wk (q.k + 1)).wset 0) with
        | error e =>
          have h5 := he e hjo
          rw [hjo] at hk
          have hF5 : Fr (fun p q => p == 30 && (q == 46 || q == 44 || q == 45)) I5 (m_up (m_up I5 30 44 0) 30 45 0) := (Fr.rf.up rfl).up rfl
          have h6 := (h5.outE hF5).emt (k := 5) (a := 1) (c := 0) (ka := 3) (kb := 0) (kc := 0) (by omega) (fun q e => by cases e) rfl
          have h6' : RX tx m (m_up (m_up I5 30 44 0) 30 45 0) L5 _ 267 [] (.error e) (emF 3 0 0 (m_up (m_up I5 30 44 0) 30 45 0)) L5 := h6
          refine hk _ _ ⟨⟨?_, ?_⟩, _, (h6'.reb).mono (by omega) (by omega)⟩
          · refine (((((hJ1.1.1.tr (hU2.mono (fun _ _ => S_un_rd))).tr (h3.2.1.1.mono (fun _ _ => S_st_rd))).tr (h5.2.1.1.mono (fun _ _ => S_st_rd))).tr ?_).tr (h6'.2.1.1.mono (fun _ _ => S_st_rd)))
            exact (Fr.rf.up rfl).up rfl
          · exact (hJ1.1.2.tr (h3.2.2.1.mono (fun _ _ => S_stL_rd))).tr (h5.2.2.1.mono (fun _ _ => S_stL_rd))
        | ok s' =>
          obtain ⟨y, h5⟩ := hk5 s' hjo
          rw [hjo] at hk
          have hg := hgr s' hjo
          have hsm : s'.sm ≤ 120 := h5.ok.2.1.2
          have hF5 : Fr (fun p q => p == 30 && (q == 46 || q == 44 || q == 45)) I5 (m_up (m_up I5 30 44 0) 30 45 0) := (Fr.rf.up rfl).up rfl
          have hsu : s'.u = (q.wold 0).u := h5.ok.2.2.1.2.2
          have hcl : s'.cd.length < 260 := by omega
          have hje : jemt 5 1 0 (.ok s') = .ok (semt 5 1 0 s') := by
            simp only [jemt, jb]
            rw [if_pos hcl]
            rfl
          rw [hje] at hk
          have h6 := (h5.outS (s := s') (x := y) hF5 (by simp [m_upr]) (by simp [m_upr])).emt (k := 5) (a := 1) (c := 0) (ka := 3) (kb := 0) (kc := 0) (by omega) (fun q e => by cases e; exact hcl) rfl
          have hje2 : jemt 5 1 0 (.ok ((s'.wset y).wu (q.wold 0).u)) = .ok (((semt 5 1 0 s').wset y).wu (q.wold 0).u) := by
            simp only [jemt, jb]
            rw [if_pos (show ((s'.wset y).wu (q.wold 0).u).cd.length < 260 from hcl)]
            rfl
          have h6' : RX tx m (m_up (m_up I5 30 44 0) 30 45 0) L5 (q.wold 0).u 267 [] (jemt 5 1 0 (.ok ((s'.wset y).wu (q.wold 0).u))) (emF 3 0 0 (m_up (m_up I5 30 44 0) 30 45 0)) L5 := h6
          rw [hje2] at h6'
          refine hk _ _ ⟨⟨?_, ?_⟩, ⟨_, y, (h6'.reb).tight (by show (semt 5 1 0 s').cd.length ≤ 260; rw [semt_len]; omega) (by omega)⟩, ?_⟩
          · refine (((((hJ1.1.1.tr (hU2.mono (fun _ _ => S_un_rd))).tr (h3.2.1.1.mono (fun _ _ => S_st_rd))).tr (h5.2.1.1.mono (fun _ _ => S_st_rd))).tr ?_).tr (h6'.2.1.1.mono (fun _ _ => S_st_rd)))
            exact (Fr.rf.up rfl).up rfl
          · exact (hJ1.1.2.tr (h3.2.2.1.mono (fun _ _ => S_stL_rd))).tr (h5.2.2.1.mono (fun _ _ => S_stL_rd))
          · refine hJ1.2.2.oa (o := 0) (Or.inl rfl) hF2 k19 k28 (by rw [k29]; rfl) k36 (h3.2.1.1.tr h5.2.1.1) (h3.2.2.1.tr h5.2.2.1) ?_ (semt 5 1 0 s') hsu (fun w => absurd w (by decide)) (fun _ => hbd s' hjo)
            unfold emF
            exact (((((Fr.rf.up rfl).up rfl).up rfl).up rfl).up rfl).up rfl
    · rw [if_neg k26] at hk ⊢
      repeat (refine hP _ ?_; conv => whnf)
      refine ⟨fun _ => ?_, fun w => absurd rfl w⟩
      repeat (refine hP _ ?_; conv => whnf)
      refine h_cannot (n := n + 7) hC' hJ1 (fun I' h' => ?_)
      repeat (refine hP _ ?_; conv => whnf)
      obtain ⟨e, he⟩ := jfal_err (tx := tx) (a := 2) (r := .ok q)
      rw [he] at h' hk
      exact hk _ _ h'.anyE
  -- what is judged of the labels
  have s90 : ∀ (r : JRs) (J : Nat → Nat → Int32) (M : Nat → Nat → Int64) (l1 : Int32), RH tx m I0 L0 true 1 r J M → (∀ q, r = .ok q → q.cd.length ≤ 2 * q.sm + (q.ars.length - 1) ∧ q.ars.length ≤ 20 ∧ 0 < q.ars.length ∧ q.ars.getD (q.ars.length - 1) 0 = q.cd.length) → (∀ I' L', RH tx m I0 L0 true 0 (jb r (jam2 tx)) I' L' → K none (m_SH, I', L')) → P (90, [some (.ref 30), some (.int l1)], [], (m_SH, J, M), 0, 0) := by
    intro r J M l1 hr hq hk
    cases r with
    | error e =>
      repeat (refine hP _ ?_; conv => whnf)
      refine ⟨fun _ => ?_, fun w => absurd hr.flt_er.1 w⟩
      repeat (refine hP _ ?_; conv => whnf)
      exact hk _ _ hr.anyE
    | ok q =>
      obtain ⟨q1, q2, q3, q4⟩ := hq q rfl
      repeat (refine hP _ ?_; conv => whnf)
      refine ⟨fun w => absurd w (by rw [hr.flt_ok]; decide), fun _ => ?_⟩
      exact s98 q J M l1 hr q1 q2 q3 q4 hk
  have hst : ∀ (l : List (Nat × Int32 × List Nat)) (k : Nat) (q : JSt), q = ((s.wars (s.ars ++ [s.cd.length])).wlbs l).wk k → s.ars.length < 20 → q.cd.length ≤ 2 * q.sm + (q.ars.length - 1) ∧ q.ars.length ≤ 20 ∧ 0 < q.ars.length ∧ q.ars.getD (q.ars.length - 1) 0 = q.cd.length := by
    intro l k q e hl
    subst e
    have e1 : (((s.wars (s.ars ++ [s.cd.length])).wlbs l).wk k).ars = s.ars ++ [s.cd.length] := rfl
    have e2 : (((s.wars (s.ars ++ [s.cd.length])).wlbs l).wk k).cd = s.cd := rfl
    have e3 : (((s.wars (s.ars ++ [s.cd.length])).wlbs l).wk k).sm = s.sm := rfl
    rw [e1, e2, e3, List.length_append, List.length_singleton]
    refine ⟨by omega, by omega, by omega, ?_⟩
    rw [show s.ars.length + 1 - 1 = s.ars.length by omega]
    simp
  have s63 : ∀ (i : Nat) (r : JRs) (J : Nat → Nat → Int32) (M : Nat → Nat → Int64), RH tx m I0 L0 true 1 r J M → s.ars.length < 20 → (∀ q, r = .ok q → 33 ≤ q.lbs.length + i ∧ ∃ l k, q = ((s.wars (s.ars ++ [s.cd.length])).wlbs l).wk k) → (∀ I' L', RH tx m I0 L0 true 0 (jb (jllp tx false i r) (jam2 tx)) I' L' → K none (m_SH, I', L')) → P (63, [some (.ref 30), some (.int 0)], [], (m_SH, J, M), 0, 0) := by
    have err : ∀ (i : Nat) (e : Nat × Nat) (J : Nat → Nat → Int32) (M : Nat → Nat → Int64), RH tx m I0 L0 true 1 (.error e) J M → (∀ I' L', RH tx m I0 L0 true 0 (jb (jllp tx false i (.error e)) (jam2 tx)) I' L' → K none (m_SH, I', L')) → P (63, [some (.ref 30), some (.int 0)], [], (m_SH, J, M), 0, 0) := by
      intro i e J M hr hk
      rw [jllp_er] at hk
      iterate 3 (refine hP _ ?_; conv => whnf)
      refine ⟨fun w => absurd w hr.flt_er.2, fun _ => ?_⟩
      exact s90 _ J M 0 hr (fun q e => by cases e) hk
    intro i
    induction i with
    | zero =>
      intro r J M hr hl hq hk
      cases r with
      | error e => exact err 0 e J M hr hk
      | ok q =>
        have h1 := (hq q rfl).1
        have h2 : q.lbs.length ≤ 32 := hr.2.2.2.2.2.1.2.1
        omega
    | succ i ih =>
      intro r J M hr hl hq hk
      cases r with
      | error e => exact err (i + 1) e J M hr hk
      | ok q =>
        obtain ⟨h1, l, k, h2⟩ := hq q rfl
        unfold jllp at hk
        repeat (refine hP _ ?_; conv => whnf)
        refine ⟨fun _ => ?_, fun w => absurd hr.flt_ok w⟩
        repeat (refine hP _ ?_; conv => whnf)
        refine h_isSign (k := 23) (n := n + 8) hC' hr (by decide) (by decide) ?_
        by_cases g23 : (tk tx q.k).1 = 23
        · rw [if_pos (show jkd tx (.ok q) = 23 from g23)] at hk
          rw [if_pos g23]
          repeat (refine hP _ ?_; conv => whnf)
          refine ⟨fun w => absurd w (by decide), fun _ => ?_⟩
          repeat (refine hP _ ?_; conv => whnf)
          refine h_next (n := n + 6) hC' hr (by omega) (fun I2 L2 h3 => ?_)
          repeat (refine hP _ ?_; conv => whnf)
          refine r_readLabel (n := n + 3) hC' h3 (fun I4 L4 h4 => ?_)
          iterate 1 (refine hP _ ?_; conv => whnf)
          refine ih _ I4 L4 h4 hl (fun q4 e4 => ?_) hk
          obtain ⟨x, cs, k4, e5⟩ := jlab_ok e4
          rw [e5]
          refine ⟨?_, ?_⟩
          · show 33 ≤ (q.lbs ++ [_]).length + i
            rw [List.length_append, List.length_singleton]
            omega
          · rw [h2]
            exact ⟨_, _, rfl⟩
        · rw [if_neg (show ¬ jkd tx (.ok q) = 23 from g23)] at hk
          rw [if_neg g23]
          iterate 1 (refine hP _ ?_; conv => whnf)
          refine ⟨fun _ => ?_, fun w => absurd rfl w⟩
          exact s90 _ J M 0 hr (fun q2 e => by cases e; exact hst l k q h2 hl) hk
  have s24 : ¬ ((tk tx s.k).1 = 7 ∧ ¬ s.dfl < 0) → ∀ v, v = (if (tk tx s.k).1 = 7 then (1 : Int32) else 0) → P (24, [some (.ref 30), some (.int v)], [], (m_SH, I, L), 0, 0) := by
    intro hnd v hv
    rw [if_neg hnd] at hK
    repeat (refine hP _ ?_; conv => whnf)
    rw [h19]
    refine ⟨fun w => ?_, fun w => ?_⟩
    · have hge : 20 ≤ s.ars.length := by
        have := (nI_eq (a := s.ars.length) (b := 20) (by omega) (by omega)).mp w
        omega
      rw [if_pos hge] at hK
      repeat (refine hP _ ?_; conv => whnf)
      refine h_wrong (a := 12) (n := n + 8) hC' h (by decide) (by decide) (by decide) (fun I' h' => ?_)
      repeat (refine hP _ ?_; conv => whnf)
      exact hK _ _ h'
    · have hlt : ¬ 20 ≤ s.ars.length := fun u => w (by rw [show s.ars.length = 20 by omega]; rfl)
      rw [if_neg hlt] at hK
      have h1 : RH tx m I0 L0 true 1 (.ok (s.wars (s.ars ++ [s.cd.length]))) I L := h.un Fr.rf Fr.rf rfl rfl rfl rfl (h.2.2.ar (by omega))
      repeat (refine hP _ ?_; conv => whnf)
      refine h_next (n := n + 6) hC' h1 (by show (tk tx s.k).1 < 27; omega) (fun I2 L2 h2 => ?_)
      have h2' : RH tx m I0 L0 true 1 (.ok ((s.wars (s.ars ++ [s.cd.length])).wk (s.k + 1))) I2 L2 := h2
      have hq2 := hst s.lbs (s.k + 1) _ rfl (by omega)
      repeat (refine hP _ ?_; conv => whnf)
      by_cases g7 : (tk tx s.k).1 = 7
      · rw [if_pos g7] at hK hv
        subst hv
        refine ⟨fun w => absurd w (by decide), fun _ => ?_⟩
        have j19 : I2 30 19 = nI s.ars.length := by
          have e1 := h2'.2.2.2.2.1.1
          have e2 : ((s.wars (s.ars ++ [s.cd.length])).wk (s.k + 1)).ars.length - 1 = s.ars.length := by
            show (s.ars ++ [_]).length - 1 = _
            rw [List.length_append]; simp
          rw [e2] at e1
          exact e1
        iterate 5 (refine hP _ ?_; conv => whnf)
        rw [j19]
        have h3 : RH tx m I0 L0 true 1 (.ok (((s.wars (s.ars ++ [s.cd.length])).wk (s.k + 1)).wdfl (nI s.ars.length))) (m_up I2 30 27 (nI s.ars.length)) L2 := h2'.un (Fr.rf.up rfl) Fr.rf rfl rfl rfl rfl h2'.2.2.df
        exact s90 (.ok (((s.wars (s.ars ++ [s.cd.length])).wdfl (nI s.ars.length)).wk (s.k + 1))) _ L2 1 h3 (fun q e => by cases e; exact hq2) hK
      · rw [if_neg g7] at hK hv
        subst hv
        refine ⟨fun _ => ?_, fun w => absurd rfl w⟩
        repeat (refine hP _ ?_; conv => whnf)
        refine r_readLabel (n := n + 3) hC' h2' (fun I4 L4 h4 => ?_)
        unfold jlbs at hK
        refine s63 32 _ I4 L4 h4 (by omega) (fun q4 e4 => ?_) hK
        obtain ⟨x, cs, k4, e5⟩ := jlab_ok e4
        rw [e5]
        refine ⟨?_, ?_⟩
        · show 33 ≤ (s.lbs ++ [_]).length + 32
          rw [List.length_append, List.length_singleton]
          omega
        · exact ⟨_, _, rfl⟩
  repeat (refine hP _ ?_; conv => whnf)
  refine h_isWord (w := 6) (n := n + 8) hC' h (by decide) ?_
  by_cases g7 : (tk tx s.k).1 = 7
  · rw [if_pos (show (tk tx s.k).1 = 6 + 1 from g7)]
    repeat (refine hP _ ?_; conv => whnf)
    refine ⟨fun w => absurd w (by decide), fun _ => ?_⟩
    repeat (refine hP _ ?_; conv => whnf)
    rw [h27]
    refine ⟨fun w => s24 (fun y => y.2 w) 1 (by rw [if_pos g7]), fun w => ?_⟩
    rw [if_pos ⟨g7, w⟩] at hK
    repeat (refine hP _ ?_; conv => whnf)
    refine h_wrong (a := 3) (n := n + 8) hC' h (by decide) (by decide) (by decide) (fun I' h' => ?_)
    repeat (refine hP _ ?_; conv => whnf)
    exact hK _ _ h'
  · rw [if_neg (show ¬ (tk tx s.k).1 = 6 + 1 from g7)]
    iterate 3 (refine hP _ ?_; conv => whnf)
    exact ⟨fun _ => s24 (fun y => g7 y.1) 0 (by rw [if_neg g7]), fun w => absurd rfl w⟩
