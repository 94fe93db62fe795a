theorem c_addArm {XL : Nat} {XS : Nat → Int32} {n : Nat} {C : mC} {I : Nat → Nat → Int32} {L : Nat → Nat → Int64} {K : mK} {c : Nat} (hC : m_Ge XL XS (n + 1) C) (hc : I 8 4 = nI c) (h20 : c < 20) (hK : K none (m_SH, m_up (m_up I 9 c (I 13 3)) 8 4 (nI (c + 1)), L)) : C 77 [.ref 8] (m_SH, I, L) K := by
  refine e_X7_addArm hC (Nat.le_of_ble_eq_true rfl) ?_
  intro C' hC' P hP
  repeat (refine hP _ ?_; conv => whnf)
  rw [hc]
  refine ⟨fun _ => ?_, fun z => absurd (show nI c < nI 20 from nI_lt (by omega) (by omega)) z⟩
  repeat (refine hP _ ?_; conv => whnf)
  rw [hc]
  refine ⟨vp_in_nI (by omega) (by omega), ?_⟩
  rw [nI_clamp (by omega)]
  repeat (refine hP _ ?_; conv => whnf)
  rw [show m_up I 9 c (I 13 3) 8 4 = nI c by simp [m_upr, hc], nI_1]
  exact hK
/-- a change of an arm, of the default, of the arms' sort -/
theorem CX.ad {tx : List Nat} {m : Nat} {I0 : Nat → Nat → Int32} {L0 : Nat → Nat → Int64} {I : Nat → Nat → Int32} {L : Nat → Nat → Int64} {s s' : JSt} {I' : Nat → Nat → Int32} (h : CX tx m I0 L0 (.ok s) I L) (hF : Fr (fun p q => (p == 8 && (q == 4 || q == 7 || q == 8)) || p == 9) I I') (k1 : s'.k = s.k) (k2 : s'.sm = s.sm) (k3 : s'.set = s.set) (k4 : s'.nm = s.nm) (k5 : s'.cd = s.cd) (k6 : CAr s'.u I') (k7 : s'.lbs = s.lbs) (k8 : s'.ens = s.ens) (k9 : s'.val = s.val) (k10 : s'.srt = s.srt) (k11 : s'.chs = s.chs) (k12 : s'.cns = s.cns) (v1 : I' 8 7 = s'.dfl) (v2 : I' 8 8 = s'.old) : CX tx m I0 L0 (.ok s') I' L := by
  refine h.gen (hF.mono (fun p q hs => by unfold S_jd at hs; simp at hs ⊢; omega)) Fr.rf (fun hb' => ?_) (fun q e hq hm => ?_) (fun e q => by cases q)
  · obtain ⟨b1, b2, b3, b4, b5, b6, b7⟩ := hb'
    refine ⟨?_, ?_, ?_, ⟨_, k6.2.1, k6.1⟩, ?_, fun e he => ?_, ?_⟩
    · rw [hF 13 3 rfl]; exact b1
    · rw [hF 18 1 rfl]; exact b2
    · rw [hF 8 5 rfl]; exact b3
    · rw [hF 17 6 rfl]; exact b5
    · rw [hF 21 e rfl]; exact b6 e he
    · rw [hF 17 7 rfl]; exact b7
  · cases e
    obtain ⟨⟨a1, a2, a3, a4⟩, ⟨b1, b2⟩, c1, ⟨d1, d2, d3, d4⟩, ⟨e1, e2, e3⟩, ⟨f1, f2, f3, f4, f5, f6⟩, ⟨g1, g2, g3⟩, ⟨l1, l2, l3, l4⟩, ⟨n1, n2, n3⟩⟩ := hq
    have w2 : s'.u.2.2.1 = s.u.2.2.1 := k7
    have w3 : s'.u.2.2.2 = s.u.2.2.2 := k8
    have w4 : s'.u.1.2.1 = s.u.1.2.1 := k10
    have w5 : s'.u.1.1 = s.u.1.1 := k9
    have w6 : s'.u.1.2.2.1 = s.u.1.2.2.1 := k11
    have w7 : s'.u.1.2.2.2.1 = s.u.1.2.2.2.1 := k12
    refine ⟨⟨?_, ?_, ?_, ?_⟩, ⟨?_, ?_⟩, ?_, ⟨?_, ?_, fun j hj => ?_, ?_⟩, ⟨?_, ?_, fun j hj => ?_⟩, ⟨?_, ?_, ?_, ?_, v1, v2⟩, k6, ⟨?_, ?_, fun j y hy => ?_, fun q x hx => ?_⟩, ⟨?_, ?_, fun e x hx => ?_⟩⟩
    · rw [hF 17 9 rfl]; exact a1
    · rw [hF 17 10 rfl]; exact a2
    · rw [hF 17 8 rfl, k1]; exact a3
    · rw [k1]; exact a4
    · rw [hF 8 6 rfl, k2]; exact b1
    · rw [k2]; exact b2
    · rw [hF 18 2 rfl, k3]; exact c1
    · rw [hF 18 1 rfl, k4]; exact d1
    · rw [k4]; exact d2
    · rw [k4] at hj ⊢; exact d3 j hj
    · rw [k4]; exact d4
    · rw [hF 13 3 rfl, k5]; exact e1
    · rw [k5]; exact e2
    · rw [k5] at hj ⊢
      rw [hF 14 j rfl, hF 15 j rfl, hF 16 j rfl]; exact e3 j hj
    · rw [hF 8 1 rfl, w5]; exact f1
    · rw [hF 8 2 rfl, w4]; exact f2
    · rw [hF 17 7 rfl, w6]; exact f3
    · rw [hF 8 3 rfl, w7]; exact f4
    · rw [hF 8 5 rfl, w2]; exact l1
    · rw [w2]; exact l2
    · rw [w2] at hy
      rw [hF 10 j rfl, hF 11 j rfl, w4]
      exact l3 j y hy
    · rw [w2] at hx
      rw [w4] at q
      exact l4 q x hx
    · rw [hF 17 6 rfl, w3]; exact n1
    · rw [w3]; exact n2
    · rw [w3] at hx
      rw [hF 21 e rfl]
      exact n3 e x hx
theorem CX.car {tx : List Nat} {m : Nat} {I0 : Nat → Nat → Int32} {L0 : Nat → Nat → Int64} {I : Nat → Nat → Int32} {L : Nat → Nat → Int64} {s : JSt} (h : CX tx m I0 L0 (.ok s) I L) : CAr s.u I := h.ok.2.2.2.2.2.2.1
/-- what the class has behind an arm: what is judged, or it stands at a token that can't come there -/
def CXa (tx : List Nat) (m : Nat) (I0 : Nat → Nat → Int32) (L0 : Nat → Nat → Int64) (r : JRs) (I : Nat → Nat → Int32) (L : Nat → Nat → Int64) : Prop := CX tx m I0 L0 r I L ∨ ∃ s, CX tx m I0 L0 (.ok s) I L ∧ r = jfal tx 2 (.ok s) ∧ ¬ (tk tx s.k).1 = 20 ∧ ¬ (tk tx s.k).1 = 6 ∧ ¬ (tk tx s.k).1 = 7
theorem c_arm {XL : Nat} {XS : Nat → Int32} {n : Nat} {C : mC} {I : Nat → Nat → Int32} {L : Nat → Nat → Int64} {K : mK} {tx : List Nat} {m : Nat} {I0 : Nat → Nat → Int32} {L0 : Nat → Nat → Int64} {s : JSt} (hC : m_Ge XL XS (n + 40) C) (hX : CX tx m I0 L0 (.ok s) I L) (hk67 : (tk tx s.k).1 = 6 ∨ (tk tx s.k).1 = 7) (hq : s.srt = 2 → ∃ e, e < s.ens.length ∧ s.chs = nI e) (hn : s.old = 0 → s.nm = []) (ho : s.old = 0 ∨ s.old = 1) (ho2 : s.ars.length = 0 → s.old = 0) (hK : ∀ I' L', CXa tx m I0 L0 (jarm tx true (.ok s)) I' L' → K none (m_SH, I', L')) : C 19 [.ref 17, .int (nI s.ars.length)] (m_SH, I, L) K := by
  have hj : jarm tx true (.ok s) = if (tk tx s.k).1 = 7 ∧ ¬ s.dfl < 0 then jfal tx 3 (.ok s)
    else if 20 ≤ s.ars.length then jfal tx 12 (.ok s)
    else if (tk tx s.k).1 = 7 then jam2 tx (((s.wars (s.ars ++ [s.cd.length])).wdfl (nI s.ars.length)).wk (s.k + 1))
    else jb (jlbs tx true (.ok ((s.wars (s.ars ++ [s.cd.length])).wk (s.k + 1)))) (jam2 tx) := rfl
  rw [hj] at hK
  obtain ⟨u1, u2, u3, u4, u5, u6⟩ := hX.cu
  have a1 : I 8 4 = nI s.ars.length := hX.car.1
  have a2 : s.ars.length ≤ 20 := hX.car.2.1
  have cl : I 13 3 = nI s.cd.length := hX.ok.2.2.2.2.1.1
  refine e_X1_arm hC (Nat.le_of_ble_eq_true rfl) ?_
  intro C' hC' P hP
  -- behind the labels
  have s101 : ∀ (r : JRs) (J : Nat → Nat → Int32) (M : Nat → Nat → Int64) (l2 : Int32), CX tx m I0 L0 r J M → s.ars.length < 20 → (∀ q, r = .ok q → q.ars.length = s.ars.length + 1 ∧ q.old = s.old ∧ q.nm = s.nm) → (∀ I' L', CXa tx m I0 L0 (jb r (jam2 tx)) I' L' → K none (m_SH, I', L')) → P (101, [some (.ref 17), some (.int (nI s.ars.length)), some (.int l2), none], [], (m_SH, J, M), 0, 0) := by
    intro r J M l2 hJ hl20 hr hk
    have e21 := nI_eq (a := jkd tx r) (b := 21) (jkd_lt tx _) (by omega)
    have e26 := nI_eq (a := jkd tx r) (b := 26) (jkd_lt tx _) (by omega)
    -- with : or ->
    have s129 : (jkd tx r = 21 ∨ jkd tx r = 26) → P (129, [some (.ref 17), some (.int (nI s.ars.length)), some (.int l2), none], [], (m_SH, J, M), 0, 0) := by
      intro g
      cases r with
      | error e => exact absurd g (by show ¬ (0 = 21 ∨ 0 = 26); decide)
      | ok q =>
        obtain ⟨r1, r2, r3⟩ := hr q rfl
        have g : (tk tx q.k).1 = 21 ∨ (tk tx q.k).1 = 26 := g
        have hjb : jb (.ok q) (jam2 tx) = jam2 tx q := rfl
        rw [hjb] at hk
        obtain ⟨w1, w2, w3, w4, w5, w6⟩ := hJ.cu
        have s194E : ∀ (e : Nat × Nat) (J4 : Nat → Nat → Int32) (o : Int32), CX tx m I0 L0 (.error e) J4 M → jam2 tx q = .error e → P (194, [some (.ref 17), some (.int (nI s.ars.length)), some (.int l2), some (.int o)], [], (m_SH, J4, M), 0, 0) := by
          intro e J4 o h4 he
          rw [he] at hk
          iterate 2 (refine hP _ ?_; conv => whnf)
          refine ⟨fun _ => ?_, fun _ => ?_⟩
          · repeat (refine hP _ ?_; conv => whnf)
            refine c_body (n := n + 1) hC' h4 (fun I5 L5 h5 => ?_)
            repeat (refine hP _ ?_; conv => whnf)
            exact hk _ _ (Or.inl h5)
          · repeat (refine hP _ ?_; conv => whnf)
            refine c_stmts_of (c_stmt 11 (Nat.le_refl _)) (m_Ge.le hC' (by omega)) h4 (fun I5 L5 h5 => ?_)
            rw [jloop_er] at h5
            repeat (refine hP _ ?_; conv => whnf)
            exact hk _ _ (Or.inl h5)
        have s194O : ∀ (z : JSt) (J4 : Nat → Nat → Int32) (o : Int32), CX tx m I0 L0 (.ok z) J4 M → (o = 0 → jam2 tx q = jemt 5 1 0 (jbdy tx z) ∧ z.nm = []) → (¬ o = 0 → jam2 tx q = jold tx z) → P (194, [some (.ref 17), some (.int (nI s.ars.length)), some (.int l2), some (.int o)], [], (m_SH, J4, M), 0, 0) := by
          intro z J4 o h4 h0 h1
          iterate 2 (refine hP _ ?_; conv => whnf)
          refine ⟨fun w => ?_, fun w => ?_⟩
          · obtain ⟨e1, e2⟩ := h0 w
            rw [e1] at hk
            repeat (refine hP _ ?_; conv => whnf)
            refine c_body (n := n + 1) hC' h4 (fun I5 L5 h5 => ?_)
            rw [jbC_eq e2] at h5
            repeat (refine hP _ ?_; conv => whnf)
            exact hk _ _ (Or.inl h5)
          · rw [h1 w] at hk
            repeat (refine hP _ ?_; conv => whnf)
            refine c_stmts_of (c_stmt 11 (Nat.le_refl _)) (m_Ge.le hC' (by omega)) h4 (fun I5 L5 h5 => ?_)
            repeat (refine hP _ ?_; conv => whnf)
            refine hk _ _ ?_
            unfold jold
            cases hl : jloop tx (jstmt tx 11) 121 (.ok z) with
            | error e =>
              rw [hl] at h5
              exact Or.inl h5
            | ok y =>
              rw [hl] at h5
              simp only [jb]
              by_cases gt : (tk tx y.k).1 = 20 ∨ (tk tx y.k).1 = 6 ∨ (tk tx y.k).1 = 7
              · rw [if_pos gt]
                exact Or.inl h5
              · rw [if_neg gt]
                exact Or.inr ⟨y, h5, rfl, fun t => gt (Or.inl t), fun t => gt (Or.inr (Or.inl t)), fun t => gt (Or.inr (Or.inr t))⟩
        have s168E : ∀ (e : Nat × Nat) (J4 : Nat → Nat → Int32) (o : Int32), CX tx m I0 L0 (.error e) J4 M → jam2 tx q = .error e → (o = 0 ∨ o = 1) → P (168, [some (.ref 17), some (.int (nI s.ars.length)), some (.int l2), some (.int o)], [], (m_SH, J4, M), 0, 0) := by
          intro e J4 o h4 he ho01
          have h5 : CX tx m I0 L0 (.error e) (m_up (m_up (m_up J4 8 8 o) 17 8 (m_up J4 8 8 o 17 8 + 1)) 18 2 0) M := CX.junk h4 (((Fr.rf.up rfl).up rfl).up rfl) Fr.rf (by simp [BD, m_upr]) (by simp [m_upr]) (by simp [m_upr])
          repeat (refine hP _ ?_; conv => whnf)
          refine ⟨ho01, ?_⟩
          iterate 10 (refine hP _ ?_; conv => whnf)
          exact s194E e _ o h5 he
        have s168O : ∀ (o : Int32), (o = 0 ∨ o = 1) → (o = 0 → jam2 tx q = jemt 5 1 0 (jbdy tx (((q.wold o).wk (q.k + 1)).wset 0)) ∧ q.nm = []) → (¬ o = 0 → jam2 tx q = jold tx (((q.wold o).wk (q.k + 1)).wset 0)) → P (168, [some (.ref 17), some (.int (nI s.ars.length)), some (.int l2), some (.int o)], [], (m_SH, J, M), 0, 0) := by
          intro o ho01 h0 h1
          have h2 : CX tx m I0 L0 (.ok (q.wold o)) (m_up J 8 8 o) M := hJ.ad (Fr.rf.up rfl) rfl rfl rfl rfl rfl (by
            obtain ⟨z1, z2, z3⟩ := hJ.car
            exact ⟨by simp [m_upr]; exact z1, z2, fun j hj => Eq.trans (by simp [m_upr]) (z3 j hj)⟩) rfl rfl rfl rfl rfl rfl (by simp [m_upr]; exact w5) (by simp [m_upr]; rfl)
          have h3 := h2.adv (fun z e => by cases e; exact ⟨by show ¬ (tk tx q.k).1 = 27; omega, by show ¬ (tk tx q.k).1 = 28; omega⟩)
          have h4 := h3.sst (x := 0) (y := 0) (fun _ _ => rfl)
          repeat (refine hP _ ?_; conv => whnf)
          refine ⟨ho01, ?_⟩
          iterate 10 (refine hP _ ?_; conv => whnf)
          exact s194O (((q.wold o).wk (q.k + 1)).wset 0) _ o h4 h0 h1
        have s143 : ∀ (o : Int32), (o = 1 ∧ (tk tx q.k).1 = 21 ∨ o = 0 ∧ (tk tx q.k).1 = 26) → P (143, [some (.ref 17), some (.int (nI s.ars.length)), some (.int l2), none], [.int o], (m_SH, J, M), 0, 0) := by
          intro o ho3
          have ho01 : o = 0 ∨ o = 1 := by
            rcases ho3 with h | h
            · exact Or.inr h.1
            · exact Or.inl h.1
          have mix : (1 < q.ars.length ∧ ¬ q.old = o) → jam2 tx q = jfal tx 4 (.ok q) := by
            intro h
            unfold jam2
            rcases ho3 with ⟨rfl, g2⟩ | ⟨rfl, g2⟩
            · rw [if_pos g2, if_pos ⟨h.1, by
                rcases ho with t | t
                · rw [r2]; exact t
                · exact absurd (r2.trans t) h.2⟩]
            · rw [if_neg (by omega), if_pos g2, if_pos h]
          have same : ¬ (1 < q.ars.length ∧ ¬ q.old = o) → P (168, [some (.ref 17), some (.int (nI s.ars.length)), some (.int l2), some (.int o)], [], (m_SH, J, M), 0, 0) := by
            intro h
            refine s168O o ho01 (fun w => ?_) (fun w => ?_)
            · rcases ho3 with t | ⟨-, g2⟩
              · exact absurd (t.1.symm.trans w) (by decide)
              · subst w
                have hold : s.old = 0 := by
                  by_cases y : 1 < q.ars.length
                  · have : ¬ ¬ q.old = 0 := fun t => h ⟨y, t⟩
                    have := Classical.byContradiction this
                    rw [r2] at this
                    exact this
                  · exact ho2 (by omega)
                refine ⟨?_, by rw [r3]; exact hn hold⟩
                unfold jam2
                rw [if_neg (by omega), if_pos g2, if_neg h]
            · rcases ho3 with ⟨t, g2⟩ | t
              · subst t
                unfold jam2
                rw [if_pos g2, if_neg (fun y => h ⟨y.1, by rw [y.2]; decide⟩)]
              · exact absurd t.1 w
          iterate 3 (refine hP _ ?_; conv => whnf)
          refine ⟨fun w => ?_, fun w => same (fun y => w (show nI 0 < nI s.ars.length from nI_lt (by omega) (by omega)))⟩
          have hpos : 1 < q.ars.length := by
            have := (nI_ltI (a := 0) (b := s.ars.length) (by omega) (by omega)).mp w
            omega
          repeat (refine hP _ ?_; conv => whnf)
          rw [w6]
          refine ⟨fun y => same (fun t => t.2 y.symm), fun y => ?_⟩
          have hmx : 1 < q.ars.length ∧ ¬ q.old = o := ⟨hpos, fun t => y t.symm⟩
          have hm4 := mix hmx
          repeat (refine hP _ ?_; conv => whnf)
          refine c_failX (a := 4) (n := n + 38) hC' hJ (by decide) (by decide) (fun I' h' => ?_)
          obtain ⟨e, he⟩ := jfal_err (tx := tx) (a := 4) (r := .ok q)
          rw [he] at h' hm4
          exact s168E e I' o h' hm4 ho01
        have e21q := nI_eq (a := jkd tx (.ok q)) (b := 21) (jkd_lt tx _) (by omega)
        repeat (refine hP _ ?_; conv => whnf)
        refine c_kindX (n := n + 38) hC' hJ ?_
        repeat (refine hP _ ?_; conv => whnf)
        refine ⟨fun z => ?_, fun z => ?_⟩
        · iterate 2 (refine hP _ ?_; conv => whnf)
          exact s143 1 (Or.inl ⟨rfl, e21q.mp z⟩)
        · iterate 1 (refine hP _ ?_; conv => whnf)
          exact s143 0 (Or.inr ⟨rfl, g.resolve_left (fun t => z (e21q.mpr t))⟩)
    repeat (refine hP _ ?_; conv => whnf)
    refine c_kindX (n := n + 38) hC' hJ ?_
    repeat (refine hP _ ?_; conv => whnf)
    refine ⟨fun z => s129 (Or.inl (e21.mp z)), fun z => ?_⟩
    repeat (refine hP _ ?_; conv => whnf)
    refine c_kindX (n := n + 38) hC' hJ ?_
    repeat (refine hP _ ?_; conv => whnf)
    refine ⟨fun y => s129 (Or.inr (e26.mp y)), fun y => ?_⟩
    have hjn : jb r (jam2 tx) = jfal tx 2 r := by
      cases r with
      | error e => rfl
      | ok q =>
        show jam2 tx q = _
        unfold jam2
        rw [if_neg (show ¬ (tk tx q.k).1 = 21 from fun t => z (e21.mpr t)), if_neg (show ¬ (tk tx q.k).1 = 26 from fun t => y (e26.mpr t))]
    rw [hjn] at hk
    repeat (refine hP _ ?_; conv => whnf)
    refine c_failX (a := 2) (n := n + 38) hC' hJ (by decide) (by decide) (fun I' h' => ?_)
    repeat (refine hP _ ?_; conv => whnf)
    exact hk _ _ (Or.inl h')
  -- an arm that comes
  have s65 : ¬ ((tk tx s.k).1 = 7 ∧ ¬ s.dfl < 0) → ¬ 20 ≤ s.ars.length → ∀ v, v = (if (tk tx s.k).1 = 7 then (1 : Int32) else 0) → P (57, [some (.ref 17), some (.int (nI s.ars.length)), some (.int v), none], [], (m_SH, I, L), 0, 0) := by
    intro c1 c2 v hv
    rw [if_neg c1, if_neg c2] at hK
    have h0 : I 17 9 = 0 := hX.ok.1.1
    have hA : CX tx m I0 L0 (.ok (s.wars (s.ars ++ [s.cd.length]))) (m_up (m_up I 9 s.ars.length (I 13 3)) 8 4 (nI (s.ars.length + 1))) L := hX.ad ((Fr.rf.up rfl).up rfl) rfl rfl rfl rfl rfl (by
      obtain ⟨z1, z2, z3⟩ := hX.car
      have he : (s.wars (s.ars ++ [s.cd.length])).u.2.1 = s.ars ++ [s.cd.length] := rfl
      refine ⟨by rw [he, List.length_append]; simp [m_upr], by rw [he, List.length_append]; simp; omega, fun j hj => ?_⟩
      rw [he] at hj ⊢
      by_cases g : j < s.ars.length
      · have g2 : ¬ j = s.ars.length := by omega
        rw [List.getD_eq_getElem?_getD, List.getElem?_append_left g, ← List.getD_eq_getElem?_getD]
        exact Eq.trans (by simp [m_upr, g2]) (z3 j g)
      · have g2 : j = s.ars.length := by rw [List.length_append, List.length_singleton] at hj; omega
        subst g2
        simp [m_upr, cl]) rfl rfl rfl rfl rfl rfl (by simp [m_upr]; exact u5) (by simp [m_upr]; exact u6)
    have hA2 := hA.adv (fun z e => by cases e; exact ⟨by show ¬ (tk tx s.k).1 = 27; omega, by show ¬ (tk tx s.k).1 = 28; omega⟩)
    repeat (refine hP _ ?_; conv => whnf)
    rw [h0]
    refine ⟨fun _ => ?_, fun w => absurd rfl w⟩
    repeat (refine hP _ ?_; conv => whnf)
    refine c_addArm (n := n + 38) hC' a1 (by omega) ?_
    repeat (refine hP _ ?_; conv => whnf)
    by_cases g7 : (tk tx s.k).1 = 7
    · rw [if_pos g7] at hK hv
      subst hv
      refine ⟨fun w => absurd w (by decide), fun _ => ?_⟩
      have hA3 : CX tx m I0 L0 (.ok (((s.wars (s.ars ++ [s.cd.length])).wdfl (nI s.ars.length)).wk (s.k + 1))) (m_up (m_up (m_up (m_up I 9 s.ars.length (I 13 3)) 8 4 (nI (s.ars.length + 1))) 17 8 (m_up (m_up I 9 s.ars.length (I 13 3)) 8 4 (nI (s.ars.length + 1)) 17 8 + 1)) 8 7 (nI s.ars.length)) L := by
        refine CX.ad (s := (s.wars (s.ars ++ [s.cd.length])).wk (s.k + 1)) hA2 (Fr.rf.up rfl) rfl rfl rfl rfl rfl ?_ rfl rfl rfl rfl rfl rfl (by simp [m_upr]; rfl) (by simp [m_upr]; exact u6)
        obtain ⟨z1, z2, z3⟩ := CX.car (s := (s.wars (s.ars ++ [s.cd.length])).wk (s.k + 1)) hA2
        exact ⟨Eq.trans (by simp [m_upr]) z1, z2, fun j hj => Eq.trans (by simp [m_upr]) (z3 j hj)⟩
      iterate 5 (refine hP _ ?_; conv => whnf)
      refine s101 (.ok (((s.wars (s.ars ++ [s.cd.length])).wdfl (nI s.ars.length)).wk (s.k + 1))) _ L _ hA3 (by omega) (fun q e => ?_) hK
      cases e
      exact ⟨by show (s.ars ++ [_]).length = _; rw [List.length_append]; rfl, rfl, rfl⟩
    · rw [if_neg g7] at hK hv
      subst hv
      refine ⟨fun _ => ?_, fun w => absurd rfl w⟩
      repeat (refine hP _ ?_; conv => whnf)
      refine c_labels (n := n + 34) hC' hA2 (fun q e => ?_) (fun I2 L2 h2 => ?_)
      · cases e
        refine ⟨?_, hq⟩
        show 0 < (s.ars ++ [_]).length
        rw [List.length_append]
        simp
      · refine s101 _ I2 L2 _ h2 (by omega) (fun q e => ?_) hK
        obtain ⟨l, k, e2⟩ := jlbs_ok e
        rw [e2]
        exact ⟨by show (s.ars ++ [_]).length = _; rw [List.length_append]; rfl, rfl, rfl⟩
  have ret : ∀ (e : Nat × Nat) J l2, CX tx m I0 L0 (.error e) J L → (∀ I' L', CXa tx m I0 L0 (.error e) I' L' → K none (m_SH, I', L')) → P (57, [some (.ref 17), some (.int (nI s.ars.length)), some (.int l2), none], [], (m_SH, J, L), 0, 0) := by
    intro e J l2 hJ hk
    have h9 : ¬ J 17 9 = 0 := fun z => by obtain ⟨q, hq⟩ := hJ.ft.mp z; cases hq
    repeat (refine hP _ ?_; conv => whnf)
    refine ⟨fun w => absurd w h9, fun _ => ?_⟩
    repeat (refine hP _ ?_; conv => whnf)
    exact hk _ _ (Or.inl hJ)
  have s41 : ¬ ((tk tx s.k).1 = 7 ∧ ¬ s.dfl < 0) → ∀ v, v = (if (tk tx s.k).1 = 7 then (1 : Int32) else 0) → P (41, [some (.ref 17), some (.int (nI s.ars.length)), some (.int v), none], [], (m_SH, I, L), 0, 0) := by
    intro c1 v hv
    iterate 3 (refine hP _ ?_; conv => whnf)
    refine ⟨fun w => ?_, fun w => ?_⟩
    · have := (nI_ltI (a := s.ars.length) (b := 20) (by omega) (by omega)).mp w
      exact s65 c1 (by omega) v hv
    · have h20 : 20 ≤ s.ars.length := by
        by_cases y : 20 ≤ s.ars.length
        · exact y
        · exact absurd (show nI s.ars.length < nI 20 from nI_lt (by omega) (by omega)) w
      rw [if_neg c1, if_pos h20] at hK
      repeat (refine hP _ ?_; conv => whnf)
      refine c_failX (a := 12) (n := n + 38) hC' hX (by decide) (by decide) (fun I' h' => ?_)
      obtain ⟨e, he⟩ := jfal_err (tx := tx) (a := 12) (r := .ok s)
      rw [he] at h' hK
      exact ret e I' v h' hK
  have e7 := nI_eq (a := jkd tx (.ok s)) (b := 7) (jkd_lt tx _) (by omega)
  repeat (refine hP _ ?_; conv => whnf)
  refine c_kindX (n := n + 38) hC' hX ?_
  repeat (refine hP _ ?_; conv => whnf)
  refine ⟨fun z => ?_, fun z => ?_⟩
  · have g7 : (tk tx s.k).1 = 7 := e7.mp z
    repeat (refine hP _ ?_; conv => whnf)
    refine ⟨fun w => absurd w (by decide), fun _ => ?_⟩
    repeat (refine hP _ ?_; conv => whnf)
    rw [u5]
    refine ⟨fun w => s41 (fun y => y.2 w) 1 (by rw [if_pos g7]), fun w => ?_⟩
    rw [if_pos ⟨g7, w⟩] at hK
    repeat (refine hP _ ?_; conv => whnf)
    refine c_failX (a := 3) (n := n + 38) hC' hX (by decide) (by decide) (fun I' h' => ?_)
    obtain ⟨e, he⟩ := jfal_err (tx := tx) (a := 3) (r := .ok s)
    rw [he] at h' hK
    iterate 1 (refine hP _ ?_; conv => whnf)
    exact ret e I' _ h' hK
  · have g7 : ¬ (tk tx s.k).1 = 7 := fun t => z (e7.mpr t)
    repeat (refine hP _ ?_; conv => whnf)
    refine ⟨fun _ => ?_, fun w => absurd rfl w⟩
    exact s41 (fun y => g7 y.1) 0 (by rw [if_neg g7])
