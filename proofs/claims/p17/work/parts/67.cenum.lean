/-! ===== the class judges enumerations ===== -/
theorem CEn.app {s : JSt} {c : List Nat} {v : Int64} {I : Nat → Nat → Int32} {L : Nat → Nat → Int64} (h : CEn s.u I L) (hc : NmOk c) (hl : s.ens.length < 4) (hv : v = lN (pkB 256 c)) : CEn (s.wens (s.ens ++ [(c, [])])).u (m_up (m_up I 21 s.ens.length 0) 17 6 (nI (s.ens.length + 1))) (m_upL L 20 s.ens.length v) := by
  obtain ⟨h1, h2, h3⟩ := h
  have he : (s.wens (s.ens ++ [(c, [])])).u.2.2.2 = s.ens ++ [(c, [])] := rfl
  refine ⟨?_, ?_, fun e x hx => ?_⟩
  · rw [he, List.length_append]; simp [m_upr]
  · rw [he, List.length_append]; simp; omega
  · rw [he] at hx
    by_cases g : e < s.ens.length
    · rw [List.getElem?_append_left g] at hx
      obtain ⟨z1, z2, z3, z4, z5, z6⟩ := h3 e x hx
      have g2 : ¬ e = s.ens.length := by omega
      refine ⟨by simp [m_uprL, g2]; exact z1, z2, by simp [m_upr, g2]; exact z3, z4, fun j hj => by simp [m_uprL]; simpa using z5 j hj, z6⟩
    · by_cases g2 : e = s.ens.length
      · subst g2
        simp at hx
        subst hx
        refine ⟨by simp [m_uprL, hv], hc, by simp [m_upr]; rfl, by simp, fun j hj => absurd hj (by simp), fun c hc => absurd hc (by simp)⟩
      · rw [List.getElem?_eq_none (by rw [List.length_append]; simp; omega)] at hx
        cases hx
theorem CEn.add {s : JSt} {c : List Nat} {e : Nat} {v : Int64} {I : Nat → Nat → Int32} {L : Nat → Nat → Int64} (h : CEn s.u I L) (hc : NmOk c) (he : e + 1 = s.ens.length) (hl : (lcs s).length < 16) (hv : v = lN (pkB 256 c)) : CEn (acs c s).u (m_up I 21 e (nI ((lcs s).length + 1))) (m_upL L 22 (e * 16 + (lcs s).length) v) := by
  obtain ⟨h1, h2, h3⟩ := h
  obtain ⟨y, y1, y2⟩ := lcs_some (s := s) (by omega)
  have he1 : s.ens.length - 1 = e := by omega
  rw [he1] at y1
  have hen : (acs c s).u.2.2.2 = s.ens.modify e (fun x => (x.1, x.2 ++ [c])) := by
    show s.ens.modify (s.ens.length - 1) _ = _
    rw [he1]
  have hll : (acs c s).u.2.2.2.length = s.ens.length := by rw [hen, List.length_modify]
  rw [y2] at hl ⊢
  refine ⟨by rw [hll]; simp [m_upr]; exact h1, by rw [hll]; exact h2, fun i x hx => ?_⟩
  rw [hen, List.getElem?_modify] at hx
  by_cases g : e = i
  · subst g
    rw [y1] at hx
    have hx : some (y.1, y.2 ++ [c]) = some x := by simpa using hx
    have hx := Option.some.inj hx
    obtain ⟨z1, z2, z3, z4, z5, z6⟩ := h3 e y y1
    subst hx
    refine ⟨by simp [m_uprL]; exact z1, z2, by simp [m_upr], by simp; omega, fun j hj => ?_, fun w hw => ?_⟩
    · by_cases g2 : j = y.2.length
      · subst g2
        simp [m_uprL, hv]
      · have hj : j < y.2.length := by simp at hj; omega
        have g3 : ¬ e * 16 + j = e * 16 + y.2.length := by omega
        rw [m_uprL, if_pos rfl, if_neg g3, z5 j hj]
        congr 2
        rw [List.getD_eq_getElem?_getD, List.getD_eq_getElem?_getD, List.getElem?_append_left hj]
    · rcases List.mem_append.mp hw with hw | hw
      · exact z6 w hw
      · rw [List.mem_singleton.mp hw]; exact hc
  · have hx : s.ens[i]? = some x := by simpa [g] using hx
    obtain ⟨z1, z2, z3, z4, z5, z6⟩ := h3 i x hx
    have hi : i < s.ens.length := by
      by_cases q : i < s.ens.length
      · exact q
      · rw [List.getElem?_eq_none (by omega)] at hx; cases hx
    have g' : ¬ i = e := fun z => g z.symm
    refine ⟨by simp [m_uprL]; exact z1, z2, by simp [m_upr, g']; exact z3, z4, fun j hj => ?_, z6⟩
    have g3 : ¬ i * 16 + j = e * 16 + y.2.length := by omega
    rw [m_uprL, if_pos rfl, if_neg g3]
    exact z5 j hj
/-- a change of what is kept of enumerations alone -/
theorem CX.en {tx : List Nat} {m : Nat} {I0 : Nat → Nat → Int32} {L0 : Nat → Nat → Int64} {I : Nat → Nat → Int32} {L : Nat → Nat → Int64} {s : JSt} {x : List (List Nat × List (List Nat))} {I' : Nat → Nat → Int32} {L' : Nat → Nat → Int64} (h : CX tx m I0 L0 (.ok s) I L) (hF : Fr (fun p q => (p == 17 && q == 6) || p == 21) I I') (hL : Fr (fun p _ => p == 20 || p == 22) L L') (hE : CEn (s.wens x).u I' L') (hB : (∃ c, c ≤ 4 ∧ I' 17 6 = nI c) ∧ (∀ e, e < 4 → ∃ c, c ≤ 16 ∧ I' 21 e = nI c)) : CX tx m I0 L0 (.ok (s.wens x)) I' L' := by
  refine h.gen (hF.mono (fun p q hs => by unfold S_jd at hs; simp at hs ⊢; omega)) (hL.mono (fun p q hs => by unfold S_jdL at hs; simp at hs ⊢; omega)) (fun hb => ?_) (fun q e hq hm => ?_) (fun e q => by cases q)
  · obtain ⟨b1, b2, b3, b4, b5, b6, b7⟩ := hb
    refine ⟨?_, ?_, ?_, ?_, hB.1, hB.2, ?_⟩
    · rw [hF 13 3 rfl]; exact b1
    · rw [hF 18 1 rfl]; exact b2
    · rw [hF 8 5 rfl]; exact b3
    · rw [hF 8 4 rfl]; exact b4
    · rw [hF 17 7 rfl]; exact b7
  · cases e
    obtain ⟨⟨a1, a2, a3, a4⟩, ⟨b1, b2⟩, c1, ⟨d1, d2, d3, d4⟩, ⟨e1, e2, e3⟩, ⟨f1, f2, f3, f4, f5, f6⟩, ⟨g1, g2, g3⟩, ⟨l1, l2, l3, l4⟩, -⟩ := hq
    refine ⟨⟨?_, ?_, ?_, a4⟩, ⟨?_, b2⟩, ?_, ⟨?_, d2, fun j hj => ?_, d4⟩, ⟨?_, e2, fun j hj => ?_⟩, ⟨?_, ?_, ?_, ?_, ?_, ?_⟩, ⟨?_, g2, fun j hj => ?_⟩, ⟨?_, l2, fun j y hy => ?_, l4⟩, hE⟩
    · rw [hF 17 9 rfl]; exact a1
    · rw [hF 17 10 rfl]; exact a2
    · rw [hF 17 8 rfl]; exact a3
    · rw [hF 8 6 rfl]; exact b1
    · rw [hF 18 2 rfl]; exact c1
    · rw [hF 18 1 rfl]; exact d1
    · rw [hL 19 j rfl]; exact d3 j hj
    · rw [hF 13 3 rfl]; exact e1
    · rw [hF 14 j rfl, hF 15 j rfl, hF 16 j rfl]; exact e3 j hj
    · rw [hF 8 1 rfl]; exact f1
    · rw [hF 8 2 rfl]; exact f2
    · rw [hF 17 7 rfl]; exact f3
    · rw [hF 8 3 rfl]; exact f4
    · rw [hF 8 7 rfl]; exact f5
    · rw [hF 8 8 rfl]; exact f6
    · rw [hF 8 4 rfl]; exact g1
    · rw [hF 9 j rfl]; exact g3 j hj
    · rw [hF 8 5 rfl]; exact l1
    · rw [hF 10 j rfl, hF 11 j rfl, hL 12 j rfl]; exact l3 j y hy
theorem CX.cen {tx : List Nat} {m : Nat} {I0 : Nat → Nat → Int32} {L0 : Nat → Nat → Int64} {I : Nat → Nat → Int32} {L : Nat → Nat → Int64} {s : JSt} (h : CX tx m I0 L0 (.ok s) I L) : CEn s.u I L := h.ok.2.2.2.2.2.2.2.2
theorem c_constant {XL : Nat} {XS : Nat → Int32} {n : Nat} {C : mC} {I : Nat → Nat → Int32} {L : Nat → Nat → Int64} {K : mK} {tx : List Nat} {m : Nat} {I0 : Nat → Nat → Int32} {L0 : Nat → Nat → Int64} {r : JRs} {e : Nat} (hC : m_Ge XL XS (n + 3) C) (hX : CX tx m I0 L0 r I L) (he : e < 4) (hs : ∀ s, r = .ok s → e + 1 = s.ens.length) (hK : ∀ I' L', CX tx m I0 L0 (jcon tx r) I' L' → K none (m_SH, I', L')) : C 12 [.ref 17, .int (nI e)] (m_SH, I, L) K := by
  have hcc : ccF (nI e) I = I 21 e := by
    unfold ccF
    rw [if_neg (nI_pos (by omega)), if_pos (show nI e < 4 from nI_lt (a := e) (b := 4) (by omega) (by omega)), nI_clamp (by omega)]
  refine e_X1_constant hC (Nat.le_of_ble_eq_true rfl) ?_
  intro C' hC' P hP
  repeat (refine hP _ ?_; conv => whnf)
  refine c_constantCount (n := n + 1) hC' ?_
  rw [hcc]
  repeat (refine hP _ ?_; conv => whnf)
  refine c_kindX (n := n + 1) hC' hX ?_
  cases r with
  | error er =>
    repeat (refine hP _ ?_; conv => whnf)
    refine ⟨fun z => absurd (show nI 0 = nI 16 from z) (by decide), fun _ => ?_⟩
    repeat (refine hP _ ?_; conv => whnf)
    refine c_failX (a := 2) (n := n + 1) hC' hX (by decide) (by decide) (fun I' h' => ?_)
    repeat (refine hP _ ?_; conv => whnf)
    exact hK _ _ h'
  | ok s =>
    have hse := hs s rfl
    have hjc : jcon tx (.ok s) = if ¬ (tk tx s.k).1 = 16 then jfal tx 2 (.ok s) else if jnam tx s ∈ lcs s then jfal tx 3 (.ok s) else if 16 ≤ (lcs s).length then jfal tx 12 (.ok s) else jadv (.ok (acs (jnam tx s) s)) := rfl
    rw [hjc] at hK
    have h29 := tk_29 tx s.k
    have ek := nI_eq (a := jkd tx (.ok s)) (b := 16) (jkd_lt tx _) (by omega)
    repeat (refine hP _ ?_; conv => whnf)
    refine ⟨fun z => ?_, fun z => ?_⟩
    rotate_left
    · have g : ¬ (tk tx s.k).1 = 16 := fun y => z (ek.mpr y)
      rw [if_pos g] at hK
      repeat (refine hP _ ?_; conv => whnf)
      refine c_failX (a := 2) (n := n + 1) hC' hX (by decide) (by decide) (fun I' h' => ?_)
      repeat (refine hP _ ?_; conv => whnf)
      exact hK _ _ h'
    · have g : (tk tx s.k).1 = 16 := ek.mp z
      rw [if_neg (fun y => y g)] at hK
      obtain ⟨x, x1, x2⟩ := lcs_some (s := s) (by omega)
      rw [show s.ens.length - 1 = e by omega] at x1
      obtain ⟨z1, z2, z3, z4, z5, z6⟩ := hX.cen.2.2 e x x1
      have hnm : NmOk (jnam tx s) := tk_nm hX.1.1 (Or.inl g)
      have htv : tvF I L = lN (pkB 256 (jnam tx s)) := by rw [hX.tv, cval_nm (Or.inl g)]; rfl
      have hi := ix_srch (f := fun j => L 22 (e * 16 + j) == tvF I L) (cs := jnam tx s) (ns := x.2) (by omega) (fun j hj => by
        show (L 22 (e * 16 + j) == tvF I L) = _
        rw [z5 j hj, htv]
        refine beq_of_iff (nm_inj8 (z6 _ ?_) hnm)
        rw [List.getD_eq_getElem?_getD, List.getElem?_eq_getElem hj]
        exact List.getElem_mem _)
      rw [← x2] at hi z3 z4
      repeat (refine hP _ ?_; conv => whnf)
      refine c_tokenValue (n := n + 1) hC' ?_
      repeat (refine hP _ ?_; conv => whnf)
      refine c_findConstant (n := n) hC' he z3 z4 ?_
      repeat (refine hP _ ?_; conv => whnf)
      refine ⟨fun y => ?_, fun y => ?_⟩
      · have gm := hi.1.mp y
        rw [if_neg gm] at hK
        have bad : 16 ≤ (lcs s).length → P (66, [some (.ref 17), some (.int (nI e)), some (.int (I 21 e))], [], (m_SH, I, L), 0, 0) := by
          intro h16
          rw [if_pos h16] at hK
          repeat (refine hP _ ?_; conv => whnf)
          refine c_failX (a := 12) (n := n + 1) hC' hX (by decide) (by decide) (fun I' h' => ?_)
          repeat (refine hP _ ?_; conv => whnf)
          exact hK _ _ h'
        repeat (refine hP _ ?_; conv => whnf)
        refine ⟨fun w => absurd w (nI_pos (by omega)), fun _ => ?_⟩
        repeat (refine hP _ ?_; conv => whnf)
        refine ⟨fun _ => ?_, fun w => absurd (show nI e < nI 4 from nI_lt (by omega) (by omega)) w⟩
        repeat (refine hP _ ?_; conv => whnf)
        rw [z3]
        rw [z3] at bad
        refine ⟨fun w => ?_, fun w => bad ?_⟩
        · have h16 : ¬ 16 ≤ (lcs s).length := by
            have := (nI_ltI (a := (lcs s).length) (b := 16) (by omega) (by omega)).mp w
            omega
          rw [if_neg h16] at hK
          repeat (refine hP _ ?_; conv => whnf)
          rw [nI_mul16 he (by omega)]
          refine c_tokenValue (n := n + 1) hC' ?_
          repeat (refine hP _ ?_; conv => whnf)
          refine ⟨vp_in_nI (by omega) (by omega), ?_⟩
          rw [nI_clamp (by omega)]
          repeat (refine hP _ ?_; conv => whnf)
          refine ⟨vp_in_nI (by omega) (by omega), ?_⟩
          rw [nI_clamp (by omega), nI_1]
          have hnew : CX tx m I0 L0 (.ok (acs (jnam tx s) s)) (m_up I 21 e (nI ((lcs s).length + 1))) (m_upL L 22 (e * 16 + (lcs s).length) (tvF I L)) := by
            refine hX.en (Fr.rf.up rfl) (Fr.rf.upL rfl) (hX.cen.add hnm hse (by omega) htv) ⟨by simp [m_upr]; exact hX.bd.2.2.2.2.1, fun i hi => ?_⟩
            by_cases q : i = e
            · exact ⟨(lcs s).length + 1, by omega, by simp [m_upr, q]⟩
            · obtain ⟨c, c1, c2⟩ := hX.bd.2.2.2.2.2.1 i hi
              exact ⟨c, c1, by simp [m_upr, q]; exact c2⟩
          have hadv := hnew.adv (fun q e => by cases e; exact ⟨by show ¬ (tk tx s.k).1 = 27; omega, by show ¬ (tk tx s.k).1 = 28; omega⟩)
          repeat (refine hP _ ?_; conv => whnf)
          exact hK _ _ hadv
        · by_cases q : 16 ≤ (lcs s).length
          · exact q
          · exact absurd (show nI (lcs s).length < nI 16 from nI_lt (by omega) (by omega)) w
      · have gm : jnam tx s ∈ lcs s := by
          by_cases u : jnam tx s ∈ lcs s
          · exact u
          · exact absurd (hi.1.mpr u) y
        rw [if_pos gm] at hK
        repeat (refine hP _ ?_; conv => whnf)
        refine c_failX (a := 3) (n := n + 1) hC' hX (by decide) (by decide) (fun I' h' => ?_)
        repeat (refine hP _ ?_; conv => whnf)
        exact hK _ _ h'
