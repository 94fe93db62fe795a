theorem CX.addn {tx : List Nat} {m : Nat} {I0 : Nat → Nat → Int32} {L0 : Nat → Nat → Int64} {I : Nat → Nat → Int32} {L : Nat → Nat → Int64} {s : JSt} (h : CX tx m I0 L0 (.ok s) I L) (hk : (tk tx s.k).1 = 16) (hl : s.nm.length < 20) : CX tx m I0 L0 (.ok (s.wnm (s.nm ++ [(tk tx s.k).2.2.1]))) (m_up I 18 1 (I 18 1 + 1)) (m_upL L 19 s.nm.length (tvF I L)) := by
  have hn1 := h.ok.2.2.2.1.1
  have hcs := tk_nm h.1.1 (Or.inl hk)
  have htv := h.tv
  rw [cval_nm (Or.inl hk)] at htv
  refine h.gen (Fr.rf.up rfl) (Fr.rf.upL rfl) (fun hb => ?_) (fun s' e q hm => ?_) (fun e q => by cases q)
  · obtain ⟨b1, b2, b3⟩ := hb
    refine ⟨by simpa [m_upr] using b1, ⟨s.nm.length + 1, by omega, by simp [m_upr, hn1, nI_1]⟩, by simpa [m_upr] using b3⟩
  · cases e
    obtain ⟨q1, q2, q3, ⟨n1, n2, n3, n4⟩, q5, q6⟩ := q
    refine ⟨by simpa [m_upr, JSt.k, JSt.sm, JSt.set, JSt.nm, JSt.cd, JSt.u, JSt.val, JSt.wk, JSt.wsm, JSt.wset, JSt.wnm, JSt.wcd, JSt.wu] using q1, by simpa [m_upr, JSt.k, JSt.sm, JSt.set, JSt.nm, JSt.cd, JSt.u, JSt.val, JSt.wk, JSt.wsm, JSt.wset, JSt.wnm, JSt.wcd, JSt.wu] using q2, by simpa [m_upr, JSt.k, JSt.sm, JSt.set, JSt.nm, JSt.cd, JSt.u, JSt.val, JSt.wk, JSt.wsm, JSt.wset, JSt.wnm, JSt.wcd, JSt.wu] using q3, ?_, by simpa [CCd, m_upr, JSt.k, JSt.sm, JSt.set, JSt.nm, JSt.cd, JSt.u, JSt.val, JSt.wk, JSt.wsm, JSt.wset, JSt.wnm, JSt.wcd, JSt.wu] using q5, by simpa [CU, CAr, CLb, CEn, m_upr, m_uprL, JSt.k, JSt.sm, JSt.set, JSt.nm, JSt.cd, JSt.u, JSt.val, JSt.wk, JSt.wsm, JSt.wset, JSt.wnm, JSt.wcd, JSt.wu] using q6⟩
    have hnm : (s.wnm (s.nm ++ [(tk tx s.k).2.2.1])).nm = s.nm ++ [(tk tx s.k).2.2.1] := rfl
    unfold CNm
    rw [hnm, List.length_append, List.length_singleton]
    refine ⟨by simp [m_upr, n1, nI_1], by omega, fun j hj => ?_, fun x hx => ?_⟩
    · rw [m_uprL, if_pos rfl]
      by_cases hj2 : j = s.nm.length
      · subst hj2
        rw [if_pos rfl, htv]
        congr 2
        rw [List.getD_eq_getElem?_getD, List.getElem?_append_right (Nat.le_refl _)]
        simp
      · rw [if_neg hj2, n3 j (by omega)]
        congr 2
        rw [List.getD_eq_getElem?_getD, List.getD_eq_getElem?_getD, List.getElem?_append_left (by omega)]
    · rcases List.mem_append.mp hx with hx | hx
      · exact n4 x hx
      · rw [List.mem_singleton.mp hx]; exact hcs
theorem c_let {XL : Nat} {XS : Nat → Int32} {n : Nat} {C : mC} {I : Nat → Nat → Int32} {L : Nat → Nat → Int64} {K : mK} {tx : List Nat} {m : Nat} {I0 : Nat → Nat → Int32} {L0 : Nat → Nat → Int64} {r : JRs} (hC : m_Ge XL XS (n + 3) C) (hX : CX tx m I0 L0 r I L) (hK : ∀ I' L', CX tx m I0 L0 (jlet tx r) I' L' → K none (m_SH, I', L')) : C 29 [.ref 17] (m_SH, I, L) K := by
  refine e_X1_let hC (Nat.le_of_ble_eq_true rfl) ?_
  intro C' hC' P hP
  repeat (refine hP _ ?_; conv => whnf)
  refine c_kindX hC' hX ?_
  repeat (refine hP _ ?_; conv => whnf)
  refine ⟨fun q => ?_, fun q => ?_⟩
  · have hk : jkd tx r = 16 := (jkd_eq (a := 16) (by decide)).mp q
    cases r with
    | error e => exact (no_kd hk (by decide)).elim
    | ok s =>
      have hk' : (tk tx s.k).1 = 16 := hk
      have hu : jlet tx (.ok s) = if ¬ jfnd tx (.ok s) < 0 then jfal tx 6 (.ok s) else if 20 ≤ s.nm.length then jfal tx 12 (.ok s) else (if jkd tx (jadv (.ok (s.wnm (s.nm ++ [(tk tx s.k).2.2.1])))) = 24 then jstn (nI s.nm.length) (jnmv tx (jadv (jadv (.ok (s.wnm (s.nm ++ [(tk tx s.k).2.2.1])))))) (jnmb tx (jadv (jadv (.ok (s.wnm (s.nm ++ [(tk tx s.k).2.2.1])))))) else jadv (.ok (s.wnm (s.nm ++ [(tk tx s.k).2.2.1])))) := by
        simp only [jlet, jb]
        rw [if_neg (fun z => z hk')]
      rw [hu] at hK
      have hn1 := hX.ok.2.2.2.1.1
      have hn2 := hX.ok.2.2.2.1.2.1
      repeat (refine hP _ ?_; conv => whnf)
      refine c_tokenValue hC' ?_
      repeat (refine hP _ ?_; conv => whnf)
      refine c_findX hC' hX (fun v hv => ?_)
      have hv := hv s rfl hk'
      subst hv
      repeat (refine hP _ ?_; conv => whnf)
      refine ⟨fun z => ?_, fun z => ?_⟩
      · rw [if_neg (fun y => y z)] at hK
        repeat (refine hP _ ?_; conv => whnf)
        rw [hn1]
        refine ⟨fun y => ?_, fun y => ?_⟩
        · have hl : s.nm.length < 20 := (nI_ltI (a := s.nm.length) (b := 20) (by omega) (by omega)).mp y
          rw [if_neg (by omega)] at hK
          repeat (refine hP _ ?_; conv => whnf)
          refine c_tokenValue hC' ?_
          repeat (refine hP _ ?_; conv => whnf)
          refine c_add hC' (by rw [hn1]; exact nI_pos (by omega)) (by rw [hn1]; exact y) ?_
          have ha := hX.addn hk' hl
          have e1 : I 18 1 + 1 - 1 = nI s.nm.length := by
            rw [hn1, nI_1, show (1 : Int32) = nI 1 from rfl, sub_nI (by omega)]
            rfl
          have e2 : (I 18 1).toNatClampNeg = s.nm.length := by rw [hn1, nI_clamp (by omega)]
          rw [e1, e2]
          have ha2 := ha.adv (fun s2 hs2 => by cases hs2; have : (tk tx (s.wnm (s.nm ++ [(tk tx s.k).2.2.1])).k).1 = 16 := hk'; omega)
          repeat (refine hP _ ?_; conv => whnf)
          refine c_kindX hC' ha2 ?_
          repeat (refine hP _ ?_; conv => whnf)
          refine ⟨fun w => ?_, fun w => ?_⟩
          · have hk2 := (jkd_eq (a := 24) (by decide)).mp w
            rw [if_pos hk2] at hK
            repeat (refine hP _ ?_; conv => whnf)
            refine c_numberX hC' (ha2.adv (fun s2 hs2 => by rw [hs2] at hk2; have : (tk tx s2.k).1 = 24 := hk2; omega)) (fun I' h' => ?_)
            repeat (refine hP _ ?_; conv => whnf)
            refine c_setNameX hC' h' (fun _ _ => rfl) (fun I'' h'' => ?_)
            repeat (refine hP _ ?_; conv => whnf)
            exact hK _ _ h''
          · rw [if_neg (fun y => w (by rw [y]; rfl))] at hK
            repeat (refine hP _ ?_; conv => whnf)
            exact hK _ _ ha2
        · have hl : 20 ≤ s.nm.length := by
            by_cases g : 20 ≤ s.nm.length
            · exact g
            · exact absurd (nI_lt (a := s.nm.length) (b := 20) (by omega) (by omega)) y
          rw [if_pos hl] at hK
          repeat (refine hP _ ?_; conv => whnf)
          refine c_failX (a := 12) hC' hX (by decide) (by decide) (fun I' h' => ?_)
          repeat (refine hP _ ?_; conv => whnf)
          exact hK _ _ h'
      · rw [if_pos z] at hK
        repeat (refine hP _ ?_; conv => whnf)
        refine c_failX (a := 6) hC' hX (by decide) (by decide) (fun I' h' => ?_)
        repeat (refine hP _ ?_; conv => whnf)
        exact hK _ _ h'
  · have hk : ¬ jkd tx r = 16 := fun z => q (by rw [z]; rfl)
    have hu : jlet tx r = jfal tx 2 r := by
      cases r with
      | error e => rfl
      | ok s =>
        have hk' : ¬ (tk tx s.k).1 = 16 := hk
        simp only [jlet, jb]
        rw [if_pos hk']
    rw [hu] at hK
    repeat (refine hP _ ?_; conv => whnf)
    refine c_failX (a := 2) hC' hX (by decide) (by decide) (fun I' h' => ?_)
    repeat (refine hP _ ?_; conv => whnf)
    exact hK _ _ h'
theorem c_simple {XL : Nat} {XS : Nat → Int32} {n : Nat} {C : mC} {I : Nat → Nat → Int32} {L : Nat → Nat → Int64} {K : mK} {tx : List Nat} {m : Nat} {I0 : Nat → Nat → Int32} {L0 : Nat → Nat → Int64} {r : JRs} (hC : m_Ge XL XS (n + 3) C) (hX : CX tx m I0 L0 r I L) (hk0 : jkd tx r < 27) (hK : ∀ I', CX tx m I0 L0 (jsmp tx r) I' L → K none (m_SH, I', L)) : C 31 [.ref 17] (m_SH, I, L) K := by
  unfold jsmp at hK
  have hA := hX.adv (fun s hs => by subst hs; have : (tk tx s.k).1 < 27 := hk0; omega)
  refine e_X1_simple hC (Nat.le_of_ble_eq_true rfl) ?_
  intro C' hC' P hP
  repeat (refine hP _ ?_; conv => whnf)
  refine c_kindX hC' hX ?_
  repeat (refine hP _ ?_; conv => whnf)
  refine c_tokenValue hC' ?_
  repeat (refine hP _ ?_; conv => whnf)
  refine c_findX hC' hX (fun v hv => ?_)
  repeat (refine hP _ ?_; conv => whnf)
  refine ⟨fun q => ?_, fun q => ?_⟩
  · rw [if_pos ((jkd_eq (a := 8) (by decide)).mp q)] at hK
    repeat (refine hP _ ?_; conv => whnf)
    refine c_numberX hC' hA (fun I' h' => ?_)
    repeat (refine hP _ ?_; conv => whnf)
    refine c_stepX hC' h' (by decide) (fun I'' h'' => ?_)
    repeat (refine hP _ ?_; conv => whnf)
    exact hK _ h''
  · rw [if_neg (fun z => q (by rw [z]; rfl))] at hK
    repeat (refine hP _ ?_; conv => whnf)
    refine ⟨fun q => ?_, fun q => ?_⟩
    · rw [if_pos ((jkd_eq (a := 10) (by decide)).mp q)] at hK
      repeat (refine hP _ ?_; conv => whnf)
      refine c_useName hC' hA (fun I'' h'' => ?_)
      repeat (refine hP _ ?_; conv => whnf)
      exact hK _ h''
    · rw [if_neg (fun z => q (by rw [z]; rfl))] at hK
      repeat (refine hP _ ?_; conv => whnf)
      refine ⟨fun q => ?_, fun q => ?_⟩
      · have hk := (jkd_eq (a := 16) (by decide)).mp q
        rw [if_pos hk] at hK
        repeat (refine hP _ ?_; conv => whnf)
        refine c_expectX (k := 24) hC' hA (by decide) (by decide) (fun I' h' => ?_)
        repeat (refine hP _ ?_; conv => whnf)
        refine c_numberX hC' h' (fun I'' h'' => ?_)
        repeat (refine hP _ ?_; conv => whnf)
        refine c_setNameX (a' := jfnd tx r) hC' h'' (fun s hs => ?_) (fun I3 h3 => ?_)
        · cases r with
          | error e => exact (no_kd hk (by decide)).elim
          | ok s2 => exact hv s2 rfl hk
        · repeat (refine hP _ ?_; conv => whnf)
          exact hK _ h3
      · rw [if_neg (fun z => q (by rw [z]; rfl))] at hK
        repeat (refine hP _ ?_; conv => whnf)
        refine ⟨fun q => ?_, fun q => ?_⟩
        · rw [if_pos ((jkd_eq (a := 11) (by decide)).mp q)] at hK
          repeat (refine hP _ ?_; conv => whnf)
          refine c_leaveX hC' hA (fun I'' h'' => ?_)
          repeat (refine hP _ ?_; conv => whnf)
          exact hK _ h''
        · rw [if_neg (fun z => q (by rw [z]; rfl))] at hK
          repeat (refine hP _ ?_; conv => whnf)
          refine c_numberX hC' hA (fun I' h' => ?_)
          repeat (refine hP _ ?_; conv => whnf)
          refine c_leaveX hC' h' (fun I'' h'' => ?_)
          repeat (refine hP _ ?_; conv => whnf)
          exact hK _ h''
theorem CX.stm_er {tx : List Nat} {m : Nat} {I0 : Nat → Nat → Int32} {L0 : Nat → Nat → Int64} {I : Nat → Nat → Int32} {L : Nat → Nat → Int64} {e : Nat × Nat} {x : Int32} (h : CX tx m I0 L0 (.error e) I L) : CX tx m I0 L0 (.error e) (m_up I 8 6 x) L :=
  h.junk (Fr.rf.up rfl) Fr.rf (by simp [BD, m_upr]) (by simp [m_upr]) (by simp [m_upr])
theorem CX.stm_ok {tx : List Nat} {m : Nat} {I0 : Nat → Nat → Int32} {L0 : Nat → Nat → Int64} {I : Nat → Nat → Int32} {L : Nat → Nat → Int64} {s : JSt} (h : CX tx m I0 L0 (.ok s) I L) (hs : s.sm < 120) : CX tx m I0 L0 (.ok (s.wsm (s.sm + 1))) (m_up I 8 6 (I 8 6 + 1)) L := by
  refine h.gen (Fr.rf.up rfl) Fr.rf (by simp [BD, m_upr]) (fun s' e q hm => ?_) (fun e q => by cases q)
  cases e
  obtain ⟨q1, ⟨a1, a2⟩, q3⟩ := q
  refine ⟨by simpa [m_upr, JSt.k, JSt.sm, JSt.set, JSt.nm, JSt.cd, JSt.u, JSt.val, JSt.wk, JSt.wsm, JSt.wset, JSt.wnm, JSt.wcd, JSt.wu] using q1, ⟨by simp [m_upr, a1, nI_1, JSt.k, JSt.sm, JSt.set, JSt.nm, JSt.cd, JSt.u, JSt.val, JSt.wk, JSt.wsm, JSt.wset, JSt.wnm, JSt.wcd, JSt.wu], hs⟩, ?_⟩
  simpa [CS, CNm, CCd, CU, CAr, CLb, CEn, m_upr, JSt.k, JSt.sm, JSt.set, JSt.nm, JSt.cd, JSt.u, JSt.val, JSt.wk, JSt.wsm, JSt.wset, JSt.wnm, JSt.wcd, JSt.wu] using q3
theorem c_isReachedX {XL : Nat} {XS : Nat → Int32} {n : Nat} {C : mC} {I : Nat → Nat → Int32} {L : Nat → Nat → Int64} {K : mK} {tx : List Nat} {m : Nat} {I0 : Nat → Nat → Int32} {L0 : Nat → Nat → Int64} {r : JRs} (hC : m_Ge XL XS (n + 1) C) (hX : CX tx m I0 L0 r I L) (hK : ∀ v : Int32, (∀ s, r = .ok s → (v = 0 ↔ s.set = -1)) → K (some (.int v)) (m_SH, I, L)) : C 55 [.ref 18] (m_SH, I, L) K := by
  refine c_isReached hC (hK _ (fun s hs => ?_))
  subst hs
  rw [hX.ok.2.2.1]
  by_cases g : s.set = -1
  · rw [if_pos g]; simp [g]
  · rw [if_neg g]; simp [g]
theorem c_openStmt {XL : Nat} {XS : Nat → Int32} {n : Nat} {C : mC} {I : Nat → Nat → Int32} {L : Nat → Nat → Int64} {K : mK} {tx : List Nat} {m : Nat} {I0 : Nat → Nat → Int32} {L0 : Nat → Nat → Int64} {r : JRs} {d : Nat} (hC : m_Ge XL XS (n + 2) C) (hX : CX tx m I0 L0 r I L) (hd : d ≤ 11) (hK : ∀ I', CX tx m I0 L0 (jopn tx d r) I' L → K none (m_SH, I', L)) : C 25 [.ref 17, .int (nI d)] (m_SH, I, L) K := by
  refine e_X1_openStmt hC (Nat.le_of_ble_eq_true rfl) ?_
  intro C' hC' P hP
  have tail : ∀ (J : Nat → Nat → Int32) (l2 : Option Value), CX tx m I0 L0 (jopn tx d r) (m_up J 8 6 (J 8 6 + 1)) L → P (146, [some (.ref 17), some (.int (nI d)), l2], [], (m_SH, J, L), 0, 0) := by
    intro J l2 hJ
    repeat (refine hP _ ?_; conv => whnf)
    exact hK _ hJ
  have bad : ∀ (a : Nat) (l2 : Option Value), (∀ s, r = .ok s → jopn tx d r = jfal tx a r) → a ≠ 0 → a ≤ 12 → ∀ J, CX tx m I0 L0 (jfal tx a r) J L → P (146, [some (.ref 17), some (.int (nI d)), l2], [], (m_SH, J, L), 0, 0) := by
    intro a l2 ha ha0 ha1 J hJ
    refine tail J l2 ?_
    cases r with
    | error e => exact CX.stm_er hJ
    | ok s =>
      rw [ha s rfl]
      exact CX.stm_er hJ
  have main : ∀ (w : Int32), (∀ s, r = .ok s → (w = 0 ↔ ¬ (if s.val = 0 then (tk tx s.k).1 = 12 else (tk tx s.k).1 = 11))) → P (42, [some (.ref 17), some (.int (nI d)), some (.int w)], [], (m_SH, I, L), 0, 0) := by
    intro w hw
    have rest : (∀ s, r = .ok s → ¬ ((tk tx s.k).1 = 16 ∧ jfnd tx r < 0)) → P (78, [some (.ref 17), some (.int (nI d)), some (.int w)], [], (m_SH, I, L), 0, 0) := by
      intro h16
      repeat (refine hP _ ?_; conv => whnf)
      refine ⟨fun q => ?_, fun q => ?_⟩
      · repeat (refine hP _ ?_; conv => whnf)
        refine c_isReachedX hC' hX (fun v hv => ?_)
        repeat (refine hP _ ?_; conv => whnf)
        refine ⟨fun y => ?_, fun y => ?_⟩
        · repeat (refine hP _ ?_; conv => whnf)
          refine c_failX (a := 9) hC' hX (by decide) (by decide) (fun I' h' => ?_)
          iterate 1 (refine hP _ ?_; conv => whnf)
          refine bad 9 _ (fun s hs => ?_) (by decide) (by decide) I' h'
          subst hs
          simp only [jopn, jb]
          rw [if_neg (h16 s rfl), if_neg ((hw s rfl).mp q), if_pos ((hv s rfl).mp y)]
        · have fin : (∀ s, r = .ok s → ¬ (120 ≤ s.sm ∨ 10 < d)) → P (146, [some (.ref 17), some (.int (nI d)), some (.int w)], [], (m_SH, I, L), 0, 0) := by
            intro h12
            refine tail I _ ?_
            cases r with
            | error e => exact CX.stm_er hX
            | ok s =>
              have := h12 s rfl
              have hu : jopn tx d (.ok s) = .ok (s.wsm (s.sm + 1)) := by
                simp only [jopn, jb]
                rw [if_neg (h16 s rfl), if_neg ((hw s rfl).mp q), if_neg (fun z => y ((hv s rfl).mpr z)), if_neg this]
              rw [hu]
              exact hX.stm_ok (by omega)
          have f12 : (∀ s, r = .ok s → (120 ≤ s.sm ∨ 10 < d)) → P (136, [some (.ref 17), some (.int (nI d)), some (.int w)], [], (m_SH, I, L), 0, 0) := by
            intro h12
            repeat (refine hP _ ?_; conv => whnf)
            refine c_failX (a := 12) hC' hX (by decide) (by decide) (fun I' h' => ?_)
            refine bad 12 _ (fun s hs => ?_) (by decide) (by decide) I' h'
            subst hs
            simp only [jopn, jb]
            rw [if_neg (h16 s rfl), if_neg ((hw s rfl).mp q), if_neg (fun z => y ((hv s rfl).mpr z)), if_pos (h12 s rfl)]
          repeat (refine hP _ ?_; conv => whnf)
          refine ⟨fun z => ?_, fun z => ?_⟩
          · repeat (refine hP _ ?_; conv => whnf)
            refine ⟨fun y2 => ?_, fun y2 => ?_⟩
            · refine f12 (fun s hs => Or.inr ?_)
              exact (nI_ltI (a := 10) (b := d) (by omega) (by omega)).mp y2
            · refine fin (fun s hs => ?_)
              subst hs
              have e1 := hX.ok.2.1.1
              have e2 := hX.ok.2.1.2
              rw [e1] at z
              have := (nI_ltI (a := s.sm) (b := 120) (by omega) (by omega)).mp z
              have : ¬ 10 < d := fun g => y2 (nI_lt (a := 10) g (by omega))
              omega
          · refine f12 (fun s hs => Or.inl ?_)
            subst hs
            have e1 := hX.ok.2.1.1
            rw [e1] at z
            by_cases g : 120 ≤ s.sm
            · exact g
            · exact absurd (nI_lt (a := s.sm) (b := 120) (by omega) (by omega)) z
      · repeat (refine hP _ ?_; conv => whnf)
        refine c_failX (a := 8) hC' hX (by decide) (by decide) (fun I' h' => ?_)
        iterate 1 (refine hP _ ?_; conv => whnf)
        refine bad 8 _ (fun s hs => ?_) (by decide) (by decide) I' h'
        subst hs
        simp only [jopn, jb]
        rw [if_neg (h16 s rfl), if_pos]
        by_cases g : (if s.val = 0 then (tk tx s.k).1 = 12 else (tk tx s.k).1 = 11)
        · exact g
        · exact absurd ((hw s rfl).mpr g) q
    repeat (refine hP _ ?_; conv => whnf)
    refine c_kindX hC' hX ?_
    repeat (refine hP _ ?_; conv => whnf)
    refine ⟨fun q => ?_, fun q => ?_⟩
    · have hk := (jkd_eq (a := 16) (by decide)).mp q
      cases r with
      | error e => exact (no_kd hk (by decide)).elim
      | ok s =>
        repeat (refine hP _ ?_; conv => whnf)
        refine c_tokenValue hC' ?_
        repeat (refine hP _ ?_; conv => whnf)
        refine c_findX hC' hX (fun v hv => ?_)
        have hv := hv s rfl hk
        subst hv
        repeat (refine hP _ ?_; conv => whnf)
        refine ⟨fun z => ?_, fun z => ?_⟩
        · repeat (refine hP _ ?_; conv => whnf)
          refine c_failX (a := 7) hC' hX (by decide) (by decide) (fun I' h' => ?_)
          iterate 1 (refine hP _ ?_; conv => whnf)
          refine bad 7 _ (fun s hs => ?_) (by decide) (by decide) I' h'
          cases hs
          simp only [jopn, jb]
          rw [if_pos ⟨hk, z⟩]
        · exact rest (fun s2 hs2 y => z (by cases hs2; exact y.2))
    · exact rest (fun s hs y => q (by subst hs; show nI (tk tx s.k).1 = 16; rw [y.1]; rfl))
  repeat (refine hP _ ?_; conv => whnf)
  refine ⟨fun q => ?_, fun q => ?_⟩
  · repeat (refine hP _ ?_; conv => whnf)
    refine c_kindX hC' hX ?_
    repeat (refine hP _ ?_; conv => whnf)
    refine ⟨fun y => ?_, fun y => ?_⟩
    · iterate 3 (refine hP _ ?_; conv => whnf)
      refine main 1 (fun s hs => ⟨fun z => absurd z (by decide), fun z => absurd ?_ z⟩)
      subst hs
      rw [if_pos (show s.val = 0 from hX.ok.2.2.2.2.2.1.1.symm.trans q)]
      exact (jkd_eq (a := 12) (by decide)).mp y
    · iterate 2 (refine hP _ ?_; conv => whnf)
      refine main 0 (fun s hs => ⟨fun _ => ?_, fun _ => rfl⟩)
      subst hs
      rw [if_pos (show s.val = 0 from hX.ok.2.2.2.2.2.1.1.symm.trans q)]
      exact fun z => y (by show nI (tk tx s.k).1 = 12; rw [z]; rfl)
  · repeat (refine hP _ ?_; conv => whnf)
    refine c_kindX hC' hX ?_
    repeat (refine hP _ ?_; conv => whnf)
    refine ⟨fun y => ?_, fun y => ?_⟩
    · iterate 3 (refine hP _ ?_; conv => whnf)
      refine main 1 (fun s hs => ⟨fun z => absurd z (by decide), fun z => absurd ?_ z⟩)
      subst hs
      rw [if_neg (show ¬ s.val = 0 from fun z => q (hX.ok.2.2.2.2.2.1.1.trans z))]
      exact (jkd_eq (a := 11) (by decide)).mp y
    · iterate 3 (refine hP _ ?_; conv => whnf)
      refine main 0 (fun s hs => ⟨fun _ => ?_, fun _ => rfl⟩)
      subst hs
      rw [if_neg (show ¬ s.val = 0 from fun z => q (hX.ok.2.2.2.2.2.1.1.trans z))]
      exact fun z => y (by show nI (tk tx s.k).1 = 11; rw [z]; rfl)
