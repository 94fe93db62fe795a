/-! ===== the reference reads a label ===== -/
theorem h_wrongAt {XL : Nat} {XS : Nat → Int32} {n : Nat} {C : mC} {I : Nat → Nat → Int32} {L : Nat → Nat → Int64} {K : mK} {tx : List Nat} {m : Nat} {I0 : Nat → Nat → Int32} {L0 : Nat → Nat → Int64} {hd : Bool} {p : Nat} {s s' : JSt} {a j : Nat} (hC : m_Ge XL XS (n + 1) C) (h : RH tx m I0 L0 hd p (.ok s) I L) (ha2 : a ≠ 2) (ha0 : a ≠ 0) (ha : a ≤ 12) (hK : ∀ I', RH tx m I0 L0 hd p (jflt tx a j (.ok s')) I' L → K none (m_SH, I', L)) : C 112 [.ref 30, .int (nI a), .int (nI (tk tx j).2.1)] (m_SH, I, L) K := by
  obtain ⟨u0, x, hX⟩ := h.2.1
  refine r_wrongAt hC (hK _ ?_)
  have e : wrF (nI a) (nI (tk tx j).2.1) I = m_up (m_up I 30 8 (nI a)) 30 9 (nI (tk tx j).2.1) := by
    unfold wrF
    rw [if_pos hX.flt_ok]
  rw [e]
  have hj : jflt tx a j (.ok s') = .error (a, (tk tx j).2.1) := by
    show Except.error (if a = 2 ∧ (tk tx j).1 = 28 then 1 else a, (tk tx j).2.1) = _
    rw [if_neg (fun z => ha2 z.1)]
  rw [hj]
  have hcdb := hX.cdb
  refine h.opE (b := 260) (u0 := u0) (st := []) (hX.mk ((Fr.rf.up rfl).up rfl) Fr.rf (by omega) ?_) (by omega)
  show RE 260 _ _
  exact ⟨ha0, ha, by simp [m_upr], by simp [m_upr], _, hcdb, by simp [m_upr]; exact hX.fct.2.2.1⟩
theorem RU.lb {s : JSt} {x z : Int32} {t : Int64} {cs : List Nat} {I : Nat → Nat → Int32} {L : Nat → Nat → Int64} (h : RU true 1 s I L) (hl : s.lbs.length < 32) (ht : s.srt = 1 → t = lN (pkB 256 cs) ∧ z = nI cs.length ∧ NmOk cs) : RU true 1 (s.wlbs (s.lbs ++ [(s.ars.length - 1, x, cs)])) (m_up (m_up (m_up (m_up I 37 s.lbs.length (I 30 19)) 38 s.lbs.length x) 40 s.lbs.length z) 30 21 (nI (s.lbs.length + 1))) (m_upL L 39 s.lbs.length t) := by
  obtain ⟨⟨a1, a2, a3⟩, b, ⟨c1, c2, c3, c4⟩, ⟨d1, d2, d3⟩, f1, f2, f3, f4, f5, f6, f7⟩ := h
  have he : (s.wlbs (s.lbs ++ [(s.ars.length - 1, x, cs)])).lbs = s.lbs ++ [(s.ars.length - 1, x, cs)] := rfl
  refine ⟨⟨?_, a2, fun e y hy => ?_⟩, fun w => ?_, ⟨?_, c2, c3, fun j hj => ?_⟩, ⟨?_, ?_, fun j y hy => ?_⟩, ?_, ?_, f3, ?_, f5, fun q1 q2 => absurd q1 (by decide), f7⟩
  · simp [m_upr]; exact a1
  · obtain ⟨z1, z2, z3, z4, z5, z6⟩ := a3 e y hy
    exact ⟨by simp [m_uprL]; exact z1, z2, by simp [m_upr]; exact z3, z4, fun j hj => by simp [m_uprL]; simpa using z5 j hj, z6⟩
  · obtain ⟨b1, b2, b3, b4, b5⟩ := b w
    exact ⟨by simp [m_upr]; exact b1, b2, by simp [m_upr]; exact b3, b4, fun q => by
      obtain ⟨e, e1, e2, e3, e4⟩ := b5 q
      exact ⟨e, e1, e2, by simp [m_upr]; exact e3, e4⟩⟩
  · simp [m_upr]; exact c1
  · exact Eq.trans (by simp [m_upr]) (c4 j hj)
  · rw [he, List.length_append]; simp [m_upr]
  · rw [he, List.length_append]; simp; omega
  · rw [he] at hy
    by_cases g : j < s.lbs.length
    · rw [List.getElem?_append_left g] at hy
      obtain ⟨z1, z2, z3⟩ := d3 j y hy
      have g2 : ¬ j = s.lbs.length := by omega
      exact ⟨by simp [m_upr, g2]; exact z1, by simp [m_upr, g2]; exact z2, fun q => by simp [m_upr, m_uprL, g2]; exact z3 q⟩
    · by_cases g2 : j = s.lbs.length
      · subst g2
        simp at hy
        subst hy
        refine ⟨by simp [m_upr]; exact c1, by simp [m_upr], fun q => ?_⟩
        simp [m_upr, m_uprL]
        exact ht q
      · rw [List.getElem?_eq_none (by rw [List.length_append]; simp; omega)] at hy
        cases hy
  · simp [m_upr]; exact f1
  · simp [m_upr]; exact f2
  · exact Eq.trans (by simp [m_upr]) f4
theorem r_readLabel {XL : Nat} {XS : Nat → Int32} {n : Nat} {C : mC} {I : Nat → Nat → Int32} {L : Nat → Nat → Int64} {K : mK} {tx : List Nat} {m : Nat} {I0 : Nat → Nat → Int32} {L0 : Nat → Nat → Int64} {s : JSt} (hC : m_Ge XL XS (n + 6) C) (h : RH tx m I0 L0 true 1 (.ok s) I L) (hK : ∀ I' L', RH tx m I0 L0 true 1 (jlab tx false (.ok s)) I' L' → K none (m_SH, I', L')) : C 124 [.ref 30] (m_SH, I, L) K := by
  have hj : jlab tx false (.ok s) = if (tk tx s.k).1 = 25 then
    (if ¬ s.srt = 0 then jfal tx 5 (.ok s)
     else if (tk tx (s.k + 1)).1 = 17 then jlb2 tx s.k (-(nI (tk tx (s.k + 1)).2.2.2.1)) [] (s.wk (s.k + 1))
     else if false = true ∧ 32 ≤ s.lbs.length then jfal tx 12 (.ok s)
     else jfal tx 2 (.ok (s.wk (s.k + 1))))
  else if (tk tx s.k).1 = 17 then (if s.srt = 0 then jlb2 tx s.k (nI (tk tx s.k).2.2.2.1) [] s else jfal tx 5 (.ok s))
  else if (tk tx s.k).1 = 18 then (if s.srt = 1 then jlb2 tx s.k (jhs (jnam tx s)) (jnam tx s) s else jfal tx 5 (.ok s))
  else if (tk tx s.k).1 = 16 then (if s.srt = 2 ∧ jnam tx s ∈ ccs s then jlb2 tx s.k (nI ((ccs s).idxOf (jnam tx s))) [] s else jfal tx 5 (.ok s))
  else jfal tx 2 (.ok s) := rfl
  obtain ⟨h16, hv01, h17, h012, hs2⟩ := h.2.2.2.1 rfl
  have tE := tcl_eq (tk_29 tx s.k)
  have hcl := h.cl
  have hpl := h.plc
  refine e_X9_readLabel hC (Nat.le_of_ble_eq_true rfl) ?_
  intro C' hC' P hP
  -- a label that can be one
  have s202 : ∀ (x : Int32) (t : Int64) (z : Int32) (cs : List Nat) (q : JSt) (J : Nat → Nat → Int32) (M : Nat → Nat → Int64) (l2 l3 : Int32), RH tx m I0 L0 true 1 (.ok (q.wk (if s.srt = 0 then q.k + 1 else q.k))) J M → J 30 17 = s.srt → (tk tx q.k).1 < 27 → q.srt = s.srt → (s.srt = 1 → t = lN (pkB 256 cs) ∧ z = nI cs.length ∧ NmOk cs) → (∀ I' L', RH tx m I0 L0 true 1 (jlb2 tx s.k x cs q) I' L' → K none (m_SH, I', L')) →
      P (202, [some (.ref 30), some (.int (nI (tk tx s.k).2.1)), some (.int l2), some (.int l3), some (.long t), none, some (.int z), some (.int x)], [], (m_SH, J, M), 0, 0) := by
    intro x t z cs q J M l2 l3 hJ hJ17 hq27 hqs ht hk
    unfold jlb2 at hk
    have hdup : jdup (q.wk (if s.srt = 0 then q.k + 1 else q.k)) x cs = jdup q x cs := rfl
    have hlen : (q.wk (if s.srt = 0 then q.k + 1 else q.k)).lbs = q.lbs := rfl
    have l1 : J 30 21 = nI q.lbs.length := hJ.2.2.2.2.2.1.1
    have l2' : q.lbs.length ≤ 32 := hJ.2.2.2.2.2.1.2.1
    repeat (refine hP _ ?_; conv => whnf)
    refine h_isOther (cs := cs) (n := n + 4) hC' hJ (fun w => ht (hqs.symm.trans w)) ?_
    rw [hdup]
    by_cases gd : jdup q x cs = true
    · rw [if_pos gd] at hk ⊢
      repeat (refine hP _ ?_; conv => whnf)
      refine ⟨fun _ => ?_, fun w => absurd rfl w⟩
      repeat (refine hP _ ?_; conv => whnf)
      refine h_wrongAt (a := 3) (j := s.k) (s' := q) (n := n + 4) hC' hJ (by decide) (by decide) (by decide) (fun I' h' => ?_)
      repeat (refine hP _ ?_; conv => whnf)
      exact hk _ _ h'
    rw [if_neg gd] at hk ⊢
    repeat (refine hP _ ?_; conv => whnf)
    refine ⟨fun w => absurd w (by decide), fun _ => ?_⟩
    repeat (refine hP _ ?_; conv => whnf)
    rw [l1]
    refine ⟨fun w => ?_, fun w => ?_⟩
    · have h32 : 32 ≤ q.lbs.length := by
        have := (nI_eq (a := q.lbs.length) (b := 32) (by omega) (by omega)).mp w
        omega
      rw [if_pos h32] at hk
      repeat (refine hP _ ?_; conv => whnf)
      refine h_wrongAt (a := 12) (j := s.k) (s' := q) (n := n + 4) hC' hJ (by decide) (by decide) (by decide) (fun I' h' => ?_)
      repeat (refine hP _ ?_; conv => whnf)
      exact hk _ _ h'
    · have h32 : ¬ 32 ≤ q.lbs.length := fun u => w (by rw [show q.lbs.length = 32 by omega]; rfl)
      rw [if_neg h32] at hk
      repeat (refine hP _ ?_; conv => whnf)
      rw [l1]
      refine ⟨vp_in_nI (by omega) (by omega), ?_⟩
      rw [nI_clamp (by omega)]
      repeat (refine hP _ ?_; conv => whnf)
      rw [show m_up J 37 q.lbs.length (J 30 19) 30 21 = nI q.lbs.length by simp [m_upr, l1]]
      refine ⟨vp_in_nI (by omega) (by omega), ?_⟩
      rw [nI_clamp (by omega)]
      repeat (refine hP _ ?_; conv => whnf)
      rw [show m_up (m_up J 37 q.lbs.length (J 30 19)) 38 q.lbs.length x 30 21 = nI q.lbs.length by simp [m_upr, l1]]
      refine ⟨vp_in_nI (by omega) (by omega), ?_⟩
      rw [nI_clamp (by omega)]
      repeat (refine hP _ ?_; conv => whnf)
      rw [show m_up (m_up J 37 q.lbs.length (J 30 19)) 38 q.lbs.length x 30 21 = nI q.lbs.length by simp [m_upr, l1]]
      refine ⟨vp_in_nI (by omega) (by omega), ?_⟩
      rw [nI_clamp (by omega)]
      repeat (refine hP _ ?_; conv => whnf)
      rw [show m_up (m_up (m_up J 37 q.lbs.length (J 30 19)) 38 q.lbs.length x) 40 q.lbs.length z 30 21 = nI q.lbs.length by simp [m_upr, l1], nI_1]
      rw [show m_up (m_up (m_up (m_up J 37 q.lbs.length (J 30 19)) 38 q.lbs.length x) 40 q.lbs.length z) 30 21 (nI (q.lbs.length + 1)) 30 17 = s.srt by simp [m_upr, hJ17]]
      have hU := hJ.2.2.lb (x := x) (z := z) (t := t) (cs := cs) (by rw [hlen]; omega) (fun w => ht (hqs.symm.trans w))
      have hnew : RH tx m I0 L0 true 1 (.ok ((q.wlbs (q.lbs ++ [(q.ars.length - 1, x, cs)])).wk (if s.srt = 0 then q.k + 1 else q.k))) (m_up (m_up (m_up (m_up J 37 q.lbs.length (J 30 19)) 38 q.lbs.length x) 40 q.lbs.length z) 30 21 (nI (q.lbs.length + 1))) (m_upL M 39 q.lbs.length t) :=
        hJ.un ((((Fr.rf.up rfl).up rfl).up rfl).up rfl) (Fr.rf.upL rfl) rfl rfl rfl rfl hU
      refine ⟨fun w => ?_, fun w => ?_⟩
      · rw [if_pos w] at hnew
        repeat (refine hP _ ?_; conv => whnf)
        exact hk _ _ hnew
      · rw [if_neg w] at hnew
        repeat (refine hP _ ?_; conv => whnf)
        refine h_next (n := n + 2) hC' hnew hq27 (fun I' L' h' => ?_)
        repeat (refine hP _ ?_; conv => whnf)
        exact hk _ _ h'
  have s136 : (∀ I', RH tx m I0 L0 true 1 (jfal tx 5 (.ok s)) I' L → K none (m_SH, I', L)) → ∀ v3, P (136, [some (.ref 30), some (.int (nI (tk tx s.k).2.1)), some (.int 1), some (.int v3), none, none, none, none], [], (m_SH, I, L), 0, 0) := by
    intro hk v3
    repeat (refine hP _ ?_; conv => whnf)
    refine h_wrong (a := 5) (n := n + 4) hC' h (by decide) (by decide) (by decide) (fun I' h' => ?_)
    repeat (refine hP _ ?_; conv => whnf)
    exact hk _ h'
  -- behind the place of a constant
  have s85 : ((tk tx s.k).1 = 25 ∨ (tk tx s.k).1 = 17 ∨ (tk tx s.k).1 = 18 ∨ (tk tx s.k).1 = 16) → ∀ v3, (s.srt = 2 → (tk tx s.k).1 = 16 → (v3 < 0 ↔ ¬ jnam tx s ∈ ccs s) ∧ (jnam tx s ∈ ccs s → v3 = nI ((ccs s).idxOf (jnam tx s)))) → (¬ (s.srt = 2 ∧ (tk tx s.k).1 = 16) → v3 = -1) → P (85, [some (.ref 30), some (.int (nI (tk tx s.k).2.1)), some (.int 1), none, none, none, none, none], [.int v3], (m_SH, I, L), 0, 0) := by
    intro hk4 v3 hv3 hv3n
    rcases h012 with g0 | g1 | g2
    · -- numbers
      have s142 : ((tk tx s.k).1 = 25 ∨ (tk tx s.k).1 = 17) → P (142, [some (.ref 30), some (.int (nI (tk tx s.k).2.1)), some (.int 1), some (.int v3), none, none, none, none], [], (m_SH, I, L), 0, 0) := by
        intro g
        obtain ⟨u0, x0, hX⟩ := h.2.1
        rw [hj] at hK
        repeat (refine hP _ ?_; conv => whnf)
        rw [h17]
        refine ⟨fun _ => ?_, fun w => absurd g0 w⟩
        repeat (refine hP _ ?_; conv => whnf)
        refine r_signedX hC' hX (fun I1 L1 h1 => ?_)
        rcases g with g | g
        · rw [if_pos g, if_neg (fun w => w g0)] at hK
          have e1 : jsgn tx (.ok ((s.wset x0).wu u0)) = jnmb tx (.ok (((s.wk (s.k + 1)).wset x0).wu u0)) := by
            unfold jsgn
            rw [if_pos (show jkd tx (.ok ((s.wset x0).wu u0)) = 25 from g)]
            rfl
          have e2 : jsgv tx (.ok ((s.wset x0).wu u0)) = -(jnmv tx (.ok (((s.wk (s.k + 1)).wset x0).wu u0))) := by
            unfold jsgv
            rw [if_pos (show jkd tx (.ok ((s.wset x0).wu u0)) = 25 from g)]
            rfl
          rw [e1] at h1
          rw [e2]
          by_cases g17 : (tk tx (s.k + 1)).1 = 17
          · rw [if_pos g17] at hK
            have e3 : jnmb tx (.ok (((s.wk (s.k + 1)).wset x0).wu u0)) = .ok (((s.wk (s.k + 1 + 1)).wset x0).wu u0) := by
              unfold jnmb
              rw [if_pos (show jkd tx (.ok (((s.wk (s.k + 1)).wset x0).wu u0)) = 17 from g17)]
              rfl
            have e4 : jnmv tx (.ok (((s.wk (s.k + 1)).wset x0).wu u0)) = nI (tk tx (s.k + 1)).2.2.2.1 := by
              unfold jnmv
              rw [if_pos (show jkd tx (.ok (((s.wk (s.k + 1)).wset x0).wu u0)) = 17 from g17)]
              rfl
            rw [e3] at h1
            rw [e4]
            have h2 := h.op (s' := s.wk (s.k + 1 + 1)) h1 rfl rfl rfl
            have h1f := h1.flt_ok
            have h117 : I1 30 17 = s.srt := by rw [h1.2.1.1 30 17 rfl]; exact h17
            repeat (refine hP _ ?_; conv => whnf)
            refine ⟨fun w => absurd w (by rw [h1f]; decide), fun _ => ?_⟩
            refine s202 _ _ _ [] (s.wk (s.k + 1)) I1 L1 _ _ ?_ h117 (by show (tk tx (s.k + 1)).1 < 27; omega) rfl (fun w => absurd (g0.symm.trans w) (by decide)) hK
            rw [if_pos g0]
            exact h2
          · rw [if_neg g17, if_neg (fun w => absurd w.1 (by decide))] at hK
            have e3 : jnmb tx (.ok (((s.wk (s.k + 1)).wset x0).wu u0)) = jfal tx 2 (.ok (s.wk (s.k + 1))) := by
              unfold jnmb
              rw [if_neg (show ¬ jkd tx (.ok (((s.wk (s.k + 1)).wset x0).wu u0)) = 17 from g17)]
              rfl
            rw [e3] at h1
            obtain ⟨e, he⟩ := jfal_err (tx := tx) (a := 2) (r := .ok (s.wk (s.k + 1)))
            rw [he] at h1 hK
            have h1f := h1.flt_er.1
            have h2 := h.opE (hd' := true) (p' := 1) h1 (by omega)
            repeat (refine hP _ ?_; conv => whnf)
            refine ⟨fun _ => ?_, fun w => absurd h1f w⟩
            repeat (refine hP _ ?_; conv => whnf)
            exact hK _ _ h2
        · rw [if_neg (by omega), if_pos g, if_pos g0] at hK
          have e1 : jsgn tx (.ok ((s.wset x0).wu u0)) = .ok (((s.wk (s.k + 1)).wset x0).wu u0) := by
            unfold jsgn
            rw [if_neg (show ¬ jkd tx (.ok ((s.wset x0).wu u0)) = 25 from (by show ¬ (tk tx s.k).1 = 25; omega))]
            unfold jnmb
            rw [if_pos (show jkd tx (.ok ((s.wset x0).wu u0)) = 17 from g)]
            rfl
          have e2 : jsgv tx (.ok ((s.wset x0).wu u0)) = nI (tk tx s.k).2.2.2.1 := by
            unfold jsgv
            rw [if_neg (show ¬ jkd tx (.ok ((s.wset x0).wu u0)) = 25 from (by show ¬ (tk tx s.k).1 = 25; omega))]
            unfold jnmv
            rw [if_pos (show jkd tx (.ok ((s.wset x0).wu u0)) = 17 from g)]
            rfl
          rw [e1] at h1
          rw [e2]
          have h2 := h.op (s' := s.wk (s.k + 1)) h1 rfl rfl rfl
          have h1f := h1.flt_ok
          have h117 : I1 30 17 = s.srt := by rw [h1.2.1.1 30 17 rfl]; exact h17
          repeat (refine hP _ ?_; conv => whnf)
          refine ⟨fun w => absurd w (by rw [h1f]; decide), fun _ => ?_⟩
          refine s202 _ _ _ [] s I1 L1 _ _ ?_ h117 (by omega) rfl (fun w => absurd (g0.symm.trans w) (by decide)) hK
          rw [if_pos g0]
          exact h2
      repeat (refine hP _ ?_; conv => whnf)
      rw [h17]
      refine ⟨fun _ => ?_, fun w => absurd g0 w⟩
      repeat (refine hP _ ?_; conv => whnf)
      refine h_isSign (k := 25) (n := n + 4) hC' h (by decide) (by decide) ?_
      by_cases g25 : (tk tx s.k).1 = 25
      · rw [if_pos g25]
        iterate 1 (refine hP _ ?_; conv => whnf)
        exact ⟨fun w => absurd w (by decide), fun _ => s142 (Or.inl g25)⟩
      rw [if_neg g25]
      repeat (refine hP _ ?_; conv => whnf)
      refine ⟨fun _ => ?_, fun w => absurd rfl w⟩
      repeat (refine hP _ ?_; conv => whnf)
      rw [hcl]
      refine ⟨fun w => s142 (Or.inr (tE.2.2.1.mp w)), fun w => ?_⟩
      have g17 : ¬ (tk tx s.k).1 = 17 := fun y => w (tE.2.2.1.mpr y)
      iterate 1 (refine hP _ ?_; conv => whnf)
      refine s136 (fun I' h' => hK _ _ ?_) _
      rw [hj, if_neg g25, if_neg g17]
      by_cases g18 : (tk tx s.k).1 = 18
      · rw [if_pos g18, if_neg (by rw [g0]; decide)]; exact h'
      · rw [if_neg g18, if_pos (by omega), if_neg (fun y => absurd (g0.symm.trans y.1) (by decide))]; exact h'
    · -- texts
      repeat (refine hP _ ?_; conv => whnf)
      rw [h17]
      refine ⟨fun w => absurd (g1.symm.trans w) (by decide), fun _ => ?_⟩
      repeat (refine hP _ ?_; conv => whnf)
      rw [h17]
      refine ⟨fun _ => ?_, fun w => absurd g1 w⟩
      repeat (refine hP _ ?_; conv => whnf)
      rw [hcl]
      refine ⟨fun w => ?_, fun w => ?_⟩
      · have g18 := tE.2.2.2.1.mp w
        obtain ⟨t1, t2, t3⟩ := h.txt g18
        rw [hj, if_neg (by omega), if_neg (by omega), if_pos g18, if_pos g1] at hK
        repeat (refine hP _ ?_; conv => whnf)
        rw [h17]
        refine ⟨fun w => absurd (g1.symm.trans w) (by decide), fun _ => ?_⟩
        repeat (refine hP _ ?_; conv => whnf)
        rw [h17]
        refine ⟨fun _ => ?_, fun w => absurd g1 w⟩
        repeat (refine hP _ ?_; conv => whnf)
        rw [t1, t2]
        refine r_hashOf (n := n + 4) hC' t3 ?_
        repeat (refine hP _ ?_; conv => whnf)
        refine ⟨fun w => absurd w (by rw [h.flt_ok]; decide), fun _ => ?_⟩
        refine s202 _ _ _ (jnam tx s) s I L _ _ ?_ h17 (by omega) rfl (fun _ => ⟨rfl, rfl, t3⟩) hK
        rw [if_neg (fun w => absurd (g1.symm.trans w) (by decide))]
        exact h
      · have g18 : ¬ (tk tx s.k).1 = 18 := fun y => w (tE.2.2.2.1.mpr y)
        iterate 1 (refine hP _ ?_; conv => whnf)
        refine s136 (fun I' h' => hK _ _ ?_) _
        rw [hj]
        by_cases g25 : (tk tx s.k).1 = 25
        · rw [if_pos g25, if_pos (by rw [g1]; decide)]; exact h'
        rw [if_neg g25]
        by_cases g17 : (tk tx s.k).1 = 17
        · rw [if_pos g17, if_neg (by rw [g1]; decide)]; exact h'
        rw [if_neg g17, if_neg g18, if_pos (by omega), if_neg (fun y => absurd (g1.symm.trans y.1) (by decide))]; exact h'
    · -- constants
      repeat (refine hP _ ?_; conv => whnf)
      rw [h17]
      refine ⟨fun w => absurd (g2.symm.trans w) (by decide), fun _ => ?_⟩
      repeat (refine hP _ ?_; conv => whnf)
      rw [h17]
      refine ⟨fun w => absurd (g2.symm.trans w) (by decide), fun _ => ?_⟩
      repeat (refine hP _ ?_; conv => whnf)
      by_cases g16 : (tk tx s.k).1 = 16
      · obtain ⟨w1, w2⟩ := hv3 g2 g16
        by_cases gm : jnam tx s ∈ ccs s
        · have hv := w2 gm
          refine ⟨fun w => absurd gm (w1.mp w), fun _ => ?_⟩
          rw [hj, if_neg (by omega), if_neg (by omega), if_neg (by omega), if_pos g16, if_pos ⟨g2, gm⟩, ← hv] at hK
          repeat (refine hP _ ?_; conv => whnf)
          rw [h17]
          refine ⟨fun w => absurd (g2.symm.trans w) (by decide), fun _ => ?_⟩
          repeat (refine hP _ ?_; conv => whnf)
          rw [h17]
          refine ⟨fun w => absurd (g2.symm.trans w) (by decide), fun _ => ?_⟩
          repeat (refine hP _ ?_; conv => whnf)
          refine ⟨fun w => absurd w (by rw [h.flt_ok]; decide), fun _ => ?_⟩
          refine s202 _ _ _ [] s I L _ _ ?_ h17 (by omega) rfl (fun w => absurd (g2.symm.trans w) (by decide)) hK
          rw [if_neg (fun w => absurd (g2.symm.trans w) (by decide))]
          exact h
        · refine ⟨fun _ => ?_, fun w => absurd (w1.mpr gm) w⟩
          refine s136 (fun I' h' => hK _ _ ?_) _
          rw [hj, if_neg (by omega), if_neg (by omega), if_neg (by omega), if_pos g16, if_neg (fun y => gm y.2)]
          exact h'
      · have hv := hv3n (fun y => g16 y.2)
        rw [hv]
        refine ⟨fun _ => ?_, fun w => absurd (by decide) w⟩
        refine s136 (fun I' h' => hK _ _ ?_) _
        rw [hj]
        by_cases g25 : (tk tx s.k).1 = 25
        · rw [if_pos g25, if_pos (by rw [g2]; decide)]; exact h'
        rw [if_neg g25]
        by_cases g17 : (tk tx s.k).1 = 17
        · rw [if_pos g17, if_neg (by rw [g2]; decide)]; exact h'
        rw [if_neg g17, if_pos (by omega), if_neg (by rw [g2]; decide)]; exact h'
  have s53 : ((tk tx s.k).1 = 25 ∨ (tk tx s.k).1 = 17 ∨ (tk tx s.k).1 = 18 ∨ (tk tx s.k).1 = 16) → P (53, [some (.ref 30), some (.int (nI (tk tx s.k).2.1)), some (.int 1), none, none, none, none, none], [], (m_SH, I, L), 0, 0) := by
    intro hk4
    repeat (refine hP _ ?_; conv => whnf)
    rw [h17]
    refine ⟨fun w => ?_, fun w => ?_⟩
    · have w : s.srt = 2 := w
      repeat (refine hP _ ?_; conv => whnf)
      rw [hcl]
      refine ⟨fun y => ?_, fun y => ?_⟩
      · have g16 := tE.2.1.mp y
        obtain ⟨e, e1, e2, e3, e4⟩ := hs2 w
        have hx : s.ens[e]? = some s.ens[e] := List.getElem?_eq_getElem e1
        have hel := h.2.2.1.2.1
        have hcc : ccs s = s.ens[e].2 := by
          unfold ccs
          rw [e2, nI_clamp (by omega), hx]
        repeat (refine hP _ ?_; conv => whnf)
        rw [show m_fv I L 9 30 18 none = .int (nI e) from congrArg Value.int e3]
        refine h_constantOf (n := n + 4) hC' h g16 hx (fun v a1 a2 a3 => ?_)
        rw [← hcc] at a1 a2
        iterate 1 (refine hP _ ?_; conv => whnf)
        exact s85 hk4 v (fun _ _ => ⟨a1, a2⟩) (fun q => absurd ⟨w, g16⟩ q)
      · have g16 : ¬ (tk tx s.k).1 = 16 := fun q => y (tE.2.1.mpr q)
        iterate 1 (refine hP _ ?_; conv => whnf)
        exact s85 hk4 (-1) (fun _ q => absurd q g16) (fun _ => rfl)
    · have w : ¬ s.srt = 2 := w
      iterate 1 (refine hP _ ?_; conv => whnf)
      exact s85 hk4 (-1) (fun q _ => absurd q w) (fun _ => rfl)
  have s38 : ((tk tx s.k).1 = 25 ∨ (tk tx s.k).1 = 17 ∨ (tk tx s.k).1 = 18 ∨ (tk tx s.k).1 = 16) → P (38, [some (.ref 30), some (.int (nI (tk tx s.k).2.1)), none, none, none, none, none, none], [], (m_SH, I, L), 0, 0) := by
    intro hk4
    iterate 5 (refine hP _ ?_; conv => whnf)
    exact ⟨fun w => absurd w (by decide), fun _ => s53 hk4⟩
  repeat (refine hP _ ?_; conv => whnf)
  rw [hpl]
  refine h_isSign (k := 25) (n := n + 4) hC' h (by decide) (by decide) ?_
  by_cases g25 : (tk tx s.k).1 = 25
  · rw [if_pos g25]
    iterate 1 (refine hP _ ?_; conv => whnf)
    exact ⟨fun w => absurd w (by decide), fun _ => s38 (Or.inl g25)⟩
  rw [if_neg g25]
  repeat (refine hP _ ?_; conv => whnf)
  refine ⟨fun _ => ?_, fun w => absurd rfl w⟩
  repeat (refine hP _ ?_; conv => whnf)
  rw [hcl]
  refine ⟨fun w => s38 (Or.inr (Or.inl (tE.2.2.1.mp w))), fun w => ?_⟩
  have g17 : ¬ (tk tx s.k).1 = 17 := fun y => w (tE.2.2.1.mpr y)
  repeat (refine hP _ ?_; conv => whnf)
  rw [hcl]
  refine ⟨fun w => s38 (Or.inr (Or.inr (Or.inl (tE.2.2.2.1.mp w)))), fun w => ?_⟩
  have g18 : ¬ (tk tx s.k).1 = 18 := fun y => w (tE.2.2.2.1.mpr y)
  repeat (refine hP _ ?_; conv => whnf)
  rw [hcl]
  refine ⟨fun w => s38 (Or.inr (Or.inr (Or.inr (tE.2.1.mp w)))), fun w => ?_⟩
  have g16 : ¬ (tk tx s.k).1 = 16 := fun y => w (tE.2.1.mpr y)
  rw [hj, if_neg g25, if_neg g17, if_neg g18, if_neg g16] at hK
  repeat (refine hP _ ?_; conv => whnf)
  refine ⟨fun _ => ?_, fun w => absurd rfl w⟩
  repeat (refine hP _ ?_; conv => whnf)
  refine h_cannot (n := n + 3) hC' h (fun I' h' => ?_)
  repeat (refine hP _ ?_; conv => whnf)
  exact hK _ _ h'
