theorem RX.addn {tx : List Nat} {m : Nat} {I0 : Nat → Nat → Int32} {L0 : Nat → Nat → Int64} {u0 : JU} {b : Nat} {st : List Fm} {I : Nat → Nat → Int32} {L : Nat → Nat → Int64} {s : JSt} (h : RX tx m I0 L0 u0 b st (.ok s) I L) (hk : (tk tx s.k).1 = 16) (hl : s.nm.length < 20) (hs : bitsB s.nm.length s.set) : RX tx m I0 L0 u0 b st (.ok (s.wnm (s.nm ++ [(tk tx s.k).2.2.1]))) (m_up (m_up I 30 35 (nI (s.nm.length + 1))) 30 36 (s.set &&& (((1 : Int32) <<< (nI s.nm.length &&& 31)) ^^^ -1))) (m_upL L 44 s.nm.length (L 30 6)) := by
  have hbb := h.2.2.2.1
  have hcdb := h.cdb
  rw [hs.clr (by omega)]
  obtain ⟨⟨q1, q2, q3⟩, ⟨b1, b2⟩, ⟨c1, c2, c3⟩, ⟨d1, d2, d3, d4⟩, e, ⟨g1, g2, g3, g4, g5⟩⟩ := h.ok
  have hv : L 30 6 = lN (pkB 128 (tk tx s.k).2.2.1) := (q1.1.2.2.2.2.1 hk).2
  have hcs := tk_nm h.1.1 (Or.inl hk)
  have hnm : (s.wnm (s.nm ++ [(tk tx s.k).2.2.1])).nm = s.nm ++ [(tk tx s.k).2.2.1] := rfl
  refine h.mk ((Fr.rf.up rfl).up rfl) (Fr.rf.upL rfl) hbb ⟨⟨⟨?_, ?_, q3⟩, ⟨?_, b2⟩, ⟨?_, ?_, c3⟩, ?_, ?_, ?_, ?_, g3, g4, ?_⟩, hcdb⟩
  · exact q1.fr (by simp [m_upr]) (by simp [m_upr]) (by simp [m_upr]) (by simp [m_upr]) (by simp [m_uprL])
  · simp [m_upr]; exact q2
  · simp [m_upr]; exact b1
  · simp [m_upr]; rfl
  · simp [m_upr]; exact c2
  · unfold RNm
    rw [hnm, List.length_append, List.length_singleton]
    refine ⟨by simp [m_upr], by omega, fun j hj => ?_, fun x hx => ?_⟩
    · rw [m_uprL, if_pos rfl]
      by_cases hj2 : j = s.nm.length
      · subst hj2
        rw [if_pos rfl, hv]
        congr 2
        rw [List.getD_eq_getElem?_getD, List.getElem?_append_right (Nat.le_refl _)]
        simp
      · rw [if_neg hj2, d3 j (by omega)]
        congr 2
        rw [List.getD_eq_getElem?_getD, List.getD_eq_getElem?_getD, List.getElem?_append_left (by omega)]
    · rcases List.mem_append.mp hx with hx | hx
      · exact d4 x hx
      · rw [List.mem_singleton.mp hx]; exact hcs
  · unfold RCd at e ⊢
    refine ⟨by simp [m_upr]; exact e.1, fun j y hy => ?_⟩
    simpa [m_upr] using e.2 j y hy
  · simp [m_upr]; exact g1
  · simp [m_upr]; exact g2
  · refine FrS.mono (fun i k hq => hq) st s.nm.length _ (by rw [hnm, List.length_append]; omega) (FrS.fr (fun p j h1 h2 => ?_) st _ g5)
    have : ¬ p = 30 := by omega
    simp [m_upr, this]
theorem RX.stn {tx : List Nat} {m : Nat} {I0 : Nat → Nat → Int32} {L0 : Nat → Nat → Int64} {u0 : JU} {b : Nat} {st : List Fm} {r : JRs} {I : Nat → Nat → Int32} {L : Nat → Nat → Int64} {k : Nat} {v : Int32} (h : RX tx m I0 L0 u0 b st (jemt 2 (nI k) v r) I L) (hk : k < 20) : RX tx m I0 L0 u0 b st (jstn (nI k) v r) (m_up I 30 36 (I 30 36 ||| (1 <<< (nI k &&& 31)))) L := by
  unfold jstn
  generalize jemt 2 (nI k) v r = r1 at h ⊢
  cases r1 with
  | error e => exact h.sst (y := 0) (fun s e => by cases e)
  | ok q =>
    have h1 := h.sst (x := I 30 36 ||| (1 <<< (nI k &&& 31))) (y := q.set ||| (1 <<< (nI k &&& 31))) (fun s e => by cases e; rw [h.fct.2.1])
    show RX tx m I0 L0 u0 b st (.ok (q.wset (if nI k < 0 then q.set else q.set ||| (1 <<< (nI k &&& 31))))) _ L
    rw [if_neg (nI_pos (by omega))]
    exact h1
theorem r_let {XL : Nat} {XS : Nat → Int32} {n : Nat} {C : mC} {I : Nat → Nat → Int32} {L : Nat → Nat → Int64} {K : mK} {tx : List Nat} {m : Nat} {I0 : Nat → Nat → Int32} {L0 : Nat → Nat → Int64} {u0 : JU} {b : Nat} {st : List Fm} {s : JSt} (hC : m_Ge XL XS (n + 6) C) (hX : RX tx m I0 L0 u0 b st (.ok s) I L) (hb : b + 3 ≤ 600) (hE : Ends st s I) (hR : Rch st s) (hs : SetOk s) (hl : lst st) (hk : (tk tx s.k).1 = 9) (hn : s.cd.length + nth st ≤ 2 * s.sm + 20)
    (hK : ∀ I' L', POut tx m I0 L0 u0 (b + 2) st (jb (jopn tx (dep st) (.ok s)) fun s2 => jxpc tx 22 (jlet tx (jadv (.ok s2)))) I' L' → K none (m_SH, I', L')) : C 135 [.ref 30] (m_SH, I, L) K := by
  have ho : jopn tx (dep st) (.ok s) = jop2 tx (dep st) s := jop2_opn (fun w => by omega) (by split <;> omega)
  rw [ho] at hK
  refine e_X9_let hC (Nat.le_of_ble_eq_true rfl) ?_
  intro C' hC' P hP
  repeat (refine hP _ ?_; conv => whnf)
  refine r_begin hC' hX hE hR (fun I' h' _ => ?_)
  cases h2 : jop2 tx (dep st) s with
  | error e =>
    rw [h2] at h' hK
    repeat (refine hP _ ?_; conv => whnf)
    refine ⟨fun _ => ?_, fun w => absurd h'.flt_er.1 w⟩
    repeat (refine hP _ ?_; conv => whnf)
    exact hK _ _ (h'.mono (by omega) (by omega)).out_er
  | ok s2 =>
    rw [h2] at h' hK
    obtain ⟨rfl, hset, hsm, hd⟩ := jop2_ok h2
    have hbits : bitsB s.nm.length s.set := hs.resolve_left hset
    simp only [jb] at hK
    repeat (refine hP _ ?_; conv => whnf)
    refine ⟨fun w => absurd w (by rw [h'.flt_ok]; decide), fun _ => ?_⟩
    repeat (refine hP _ ?_; conv => whnf)
    refine r_nextX (n := n + 2) hC' h' (by show (tk tx s.k).1 < 27; omega) (fun I3 L3 h3 => ?_)
    have h3' : RX tx m I0 L0 u0 b st (.ok ((s.wsm (s.sm + 1)).wk (s.k + 1))) I3 L3 := h3
    have hK' : ∀ I' L', POut tx m I0 L0 u0 (b + 2) st (jxpc tx 22 (jlet tx (.ok ((s.wsm (s.sm + 1)).wk (s.k + 1))))) I' L' → K none (m_SH, I', L') := hK
    have hfs : ((s.wsm (s.sm + 1)).wk (s.k + 1)).nm = s.nm ∧ ((s.wsm (s.sm + 1)).wk (s.k + 1)).set = s.set ∧ ((s.wsm (s.sm + 1)).wk (s.k + 1)).cd = s.cd := ⟨rfl, rfl, rfl⟩
    clear h3 hK h' h2 ho hX
    generalize (s.wsm (s.sm + 1)).wk (s.k + 1) = q at h3' hK' hfs
    obtain ⟨hq1, hq2, hq3⟩ := hfs
    rw [← hq1, ← hq2] at hbits
    rw [← hq2] at hset
    have hcl : q.cd.length + 1 + nth st ≤ 260 := by rw [hq3]; omega
    have hj : jlet tx (.ok q) = if ¬ (tk tx q.k).1 = 16 then jfal tx 2 (.ok q) else if ¬ jfnd tx (.ok q) < 0 then jfal tx 6 (.ok q) else if 20 ≤ q.nm.length then jfal tx 12 (.ok q) else (if jkd tx (jadv (.ok (q.wnm (q.nm ++ [(tk tx q.k).2.2.1])))) = 24 then jstn (nI q.nm.length) (jnmv tx (jadv (jadv (.ok (q.wnm (q.nm ++ [(tk tx q.k).2.2.1])))))) (jnmb tx (jadv (jadv (.ok (q.wnm (q.nm ++ [(tk tx q.k).2.2.1])))))) else jadv (.ok (q.wnm (q.nm ++ [(tk tx q.k).2.2.1])))) := rfl
    rw [hj] at hK'
    have ht1 := (tcl_eq (tk_29 tx q.k)).2.1
    obtain ⟨f44, f36, f33, f35, fn, fst⟩ := h3'.fct
    repeat (refine hP _ ?_; conv => whnf)
    rw [h3'.cl]
    refine ⟨fun z => ?_, fun z => ?_⟩
    · have hk16 := ht1.mp z
      rw [if_neg (fun y => y hk16)] at hK'
      repeat (refine hP _ ?_; conv => whnf)
      refine r_inScopeX (n := n + 4) hC' h3' hk16 ?_
      repeat (refine hP _ ?_; conv => whnf)
      refine ⟨fun y => ?_, fun y => ?_⟩
      · rw [if_neg (fun w => w y)] at hK'
        repeat (refine hP _ ?_; conv => whnf)
        rw [f35]
        refine ⟨fun w => ?_, fun w => ?_⟩
        · have hge : 20 ≤ q.nm.length := by
            have := (nI_eq (a := q.nm.length) (b := 20) (by omega) (by omega)).mp w
            omega
          rw [if_pos hge] at hK'
          repeat (refine hP _ ?_; conv => whnf)
          refine r_wrongX (a := 12) hC' h3' (by decide) (by decide) (by decide) (fun I' h' => ?_)
          repeat (refine hP _ ?_; conv => whnf)
          obtain ⟨e, he⟩ := jfal_err (tx := tx) (a := 12) (r := .ok q)
          rw [he] at h' hK'
          rw [jxpc_er] at hK'
          exact hK' _ _ (RX.out_er (h'.mono (by omega) (by omega)))
        · have hlt : q.nm.length < 20 := by
            have : ¬ q.nm.length = 20 := fun x => w (by rw [x]; rfl)
            omega
          rw [if_neg (by omega)] at hK'
          have ha := h3'.addn hk16 hlt hbits
          repeat (refine hP _ ?_; conv => whnf)
          rw [f35]
          refine ⟨vp_in_nI (by omega) (by omega), ?_⟩
          rw [nI_clamp (by omega)]
          repeat (refine hP _ ?_; conv => whnf)
          rw [f35, nI_1]
          rw [show m_up I3 30 35 (nI (q.nm.length + 1)) 30 36 = q.set by simp [m_upr, f36]]
          have hqc : (q.wnm (q.nm ++ [(tk tx q.k).2.2.1])).k = q.k ∧ (q.wnm (q.nm ++ [(tk tx q.k).2.2.1])).cd = q.cd ∧ (q.wnm (q.nm ++ [(tk tx q.k).2.2.1])).set = q.set ∧ (q.wnm (q.nm ++ [(tk tx q.k).2.2.1])).nm.length = q.nm.length + 1 := ⟨rfl, rfl, rfl, by show (q.nm ++ [_]).length = _; rw [List.length_append]; rfl⟩
          generalize q.wnm (q.nm ++ [(tk tx q.k).2.2.1]) = w1 at ha hK' hqc
          obtain ⟨w2, w3, w4, w5⟩ := hqc
          refine r_nextX (n := n + 2) hC' ha (by rw [w2]; omega) (fun I4 L4 h4 => ?_)
          have hbw : bitsB w1.nm.length w1.set := by rw [w4, w5]; exact hbits.mono (by omega)
          have tail : ∀ (r3 : JRs) (J : Nat → Nat → Int32) (M : Nat → Nat → Int64), RX tx m I0 L0 u0 (b + 1) st r3 J M → PG (q.cd.length + 1) r3 → (∀ q', r3 = .ok q' → ¬ q'.set = -1) → (∀ I' L', POut tx m I0 L0 u0 (b + 2) st (jxpc tx 22 r3) I' L' → K none (m_SH, I', L')) → P (149, [some (.ref 30), some (.int (nI q.nm.length))], [], (m_SH, J, M), 0, 0) := by
            intro r3 J M h3 hpg hv hk3
            repeat (refine hP _ ?_; conv => whnf)
            refine r_wantsSignX (k := 22) (n := n + 1) hC' h3 (by decide) (by decide) (fun I7 L7 h7 => ?_)
            repeat (refine hP _ ?_; conv => whnf)
            cases hz : jxpc tx 22 r3 with
            | error e =>
              rw [hz] at h7 hk3
              refine ⟨fun y => absurd y h7.flt_er.2, fun _ => ?_⟩
              repeat (refine hP _ ?_; conv => whnf)
              exact hk3 _ _ (RX.out_er (h7.mono (by omega) (by omega)))
            | ok s7 =>
              rw [hz] at h7 hk3
              obtain ⟨q', rfl, rfl, -⟩ := jxpc_ok hz
              have hq := hpg q' rfl
              have hv := hv q' rfl
              refine ⟨fun _ => ?_, fun y => absurd h7.flt_ok y⟩
              repeat (refine hP _ ?_; conv => whnf)
              refine r_throughV (n := n + 1) hC' h7 (by show (1 : Int32) = if q'.set = -1 then 0 else 1; rw [if_neg hv]) (by omega) hq.2 hl (by show q'.cd.length + nth st ≤ 260; omega) (fun I8 L8 h8 he hs8 => ?_)
              repeat (refine hP _ ?_; conv => whnf)
              exact hk3 _ _ ⟨h8, he, hs8⟩
          repeat (refine hP _ ?_; conv => whnf)
          refine ⟨fun _ => ?_, fun x => absurd h4.flt_ok x⟩
          have h4' : RX tx m I0 L0 u0 b st (.ok (w1.wk (w1.k + 1))) I4 L4 := h4
          have hKK : ∀ I' L', POut tx m I0 L0 u0 (b + 2) st (jxpc tx 22 (if jkd tx (.ok (w1.wk (w1.k + 1))) = 24 then jstn (nI q.nm.length) (jnmv tx (jadv (.ok (w1.wk (w1.k + 1))))) (jnmb tx (jadv (.ok (w1.wk (w1.k + 1))))) else .ok (w1.wk (w1.k + 1)))) I' L' → K none (m_SH, I', L') := hK'
          repeat (refine hP _ ?_; conv => whnf)
          refine r_isSignX (k := 24) (n := n + 4) hC' h4' (by decide) (by decide) ?_
          by_cases g24 : (tk tx (w1.wk (w1.k + 1)).k).1 = 24
          · rw [if_pos (show jkd tx (.ok (w1.wk (w1.k + 1))) = 24 from g24)] at hKK
            rw [if_pos g24]
            repeat (refine hP _ ?_; conv => whnf)
            refine ⟨fun x => absurd x (by decide), fun _ => ?_⟩
            repeat (refine hP _ ?_; conv => whnf)
            refine r_nextX (n := n + 2) hC' h4' (by omega) (fun I5 L5 h5 => ?_)
            repeat (refine hP _ ?_; conv => whnf)
            refine r_numberX (n := n + 1) hC' h5 (fun I6 L6 h6 => ?_)
            have hpg : PG q.cd.length (jnmb tx (jadv (.ok (w1.wk (w1.k + 1))))) := PG_nmb (PG_adv (PG_b (by show w1.cd.length ≤ _; rw [w3]; exact Nat.le_refl _) (Or.inr hbw)))
            have hst : ∀ z, jnmb tx (jadv (.ok (w1.wk (w1.k + 1)))) = .ok z → z.set = q.set ∧ z.nm.length = q.nm.length + 1 := by
              intro z e
              obtain ⟨z1, e1, rfl, -⟩ := jnmb_ok e
              cases e1
              exact ⟨w4, w5⟩
            generalize jnmb tx (jadv (.ok (w1.wk (w1.k + 1)))) = r6 at h6 hKK hpg hst
            generalize jnmv tx (jadv (.ok (w1.wk (w1.k + 1)))) = v6 at hKK
            repeat (refine hP _ ?_; conv => whnf)
            refine r_emitX (k := 2) (a := nI q.nm.length) (c := v6) hC' h6 (by omega) (fun z e => by have := (hpg z e).1; omega) rfl (fun v7 I7 _ h7 => ?_)
            have h8 := h7.stn (by omega)
            iterate 9 (refine hP _ ?_; conv => whnf)
            have hsb : ∀ z, jstn (nI q.nm.length) v6 r6 = .ok z → z.cd.length ≤ q.cd.length + 1 ∧ bitsB z.nm.length z.set ∧ z.nm.length ≤ 20 := by
              intro z e
              unfold jstn at e
              cases hz : jemt 2 (nI q.nm.length) v6 r6 with
              | error _ => rw [hz] at e; cases e
              | ok y =>
                rw [hz] at e
                cases e
                obtain ⟨y1, rfl, e1⟩ := jemt_ok hz
                have hy := hpg y1 rfl
                have hy2 := hst y1 rfl
                have hyc : y.cd.length ≤ q.cd.length + 1 ∧ y.set = q.set ∧ y.nm.length = q.nm.length + 1 := by
                  rcases e1 with rfl | rfl
                  · refine ⟨by rw [semt_len]; omega, hy2.1, hy2.2⟩
                  · refine ⟨by omega, hy2.1, hy2.2⟩
                refine ⟨hyc.1, ?_, by show y.nm.length ≤ 20; omega⟩
                show bitsB y.nm.length (if nI q.nm.length < 0 then y.set else y.set ||| (1 <<< (nI q.nm.length &&& 31)))
                rw [if_neg (nI_pos (by omega)), hyc.2.1, hyc.2.2]
                exact bitsB.ins (by omega) (by omega) (hbits.mono (by omega))
            exact tail _ _ L6 h8 (fun z e => ⟨(hsb z e).1, Or.inr (hsb z e).2.1⟩) (fun z e => (hsb z e).2.1.ne (hsb z e).2.2) hKK
          · rw [if_neg (show ¬ jkd tx (.ok (w1.wk (w1.k + 1))) = 24 from g24)] at hKK
            rw [if_neg g24]
            repeat (refine hP _ ?_; conv => whnf)
            refine ⟨fun _ => ?_, fun x => absurd rfl x⟩
            refine tail _ I4 L4 (h4'.mono (by omega) (by omega)) (PG_b (by show w1.cd.length ≤ _; rw [w3]; omega) (Or.inr hbw)) (fun z e => ?_) hKK
            cases e
            show ¬ w1.set = -1
            rw [w4]
            exact hset
      · rw [if_pos y] at hK'
        repeat (refine hP _ ?_; conv => whnf)
        refine r_wrongX (a := 6) hC' h3' (by decide) (by decide) (by decide) (fun I' h' => ?_)
        repeat (refine hP _ ?_; conv => whnf)
        obtain ⟨e, he⟩ := jfal_err (tx := tx) (a := 6) (r := .ok q)
        rw [he] at h' hK'
        rw [jxpc_er] at hK'
        exact hK' _ _ (RX.out_er (h'.mono (by omega) (by omega)))
    · have hk16 : ¬ (tk tx q.k).1 = 16 := fun y => z (ht1.mpr y)
      rw [if_pos hk16] at hK'
      repeat (refine hP _ ?_; conv => whnf)
      refine r_cannotX hC' h3' (fun I' h' => ?_)
      repeat (refine hP _ ?_; conv => whnf)
      obtain ⟨e, he⟩ := jfal_err (tx := tx) (a := 2) (r := .ok q)
      rw [he] at h' hK'
      rw [jxpc_er] at hK'
      exact hK' _ _ (RX.out_er (h'.mono (by omega) (by omega)))
