/-! the end of a stmt: its semicolon, and through -/
theorem RX.out_er {tx : List Nat} {m : Nat} {I0 : Nat → Nat → Int32} {L0 : Nat → Nat → Int64} {u0 : JU} {b : Nat} {st : List Fm} {I : Nat → Nat → Int32} {L : Nat → Nat → Int64} {e : Nat × Nat} (h : RX tx m I0 L0 u0 b st (.error e) I L) : POut tx m I0 L0 u0 b st (.error e) I L := h.any (st' := [])
theorem jfal_err {tx : List Nat} {a : Nat} {r : JRs} : ∃ e, jfal tx a r = .error e := by
  cases r with
  | error e => exact ⟨e, rfl⟩
  | ok s => exact ⟨_, rfl⟩
theorem RX.out_f {tx : List Nat} {m : Nat} {I0 : Nat → Nat → Int32} {L0 : Nat → Nat → Int64} {u0 : JU} {b : Nat} {st : List Fm} {I : Nat → Nat → Int32} {L : Nat → Nat → Int64} {r : JRs} {a : Nat} (h : RX tx m I0 L0 u0 b st (jfal tx a r) I L) : POut tx m I0 L0 u0 b st (jfal tx a r) I L := by
  obtain ⟨e, he⟩ := jfal_err (tx := tx) (a := a) (r := r)
  rw [he] at h ⊢
  exact h.out_er
theorem r_throughV {XL : Nat} {XS : Nat → Int32} {n : Nat} {C : mC} {I : Nat → Nat → Int32} {L : Nat → Nat → Int64} {K : mK} {tx : List Nat} {m : Nat} {I0 : Nat → Nat → Int32} {L0 : Nat → Nat → Int64} {u0 : JU} {b : Nat} {st : List Fm} {s : JSt} {v : Int32} (hC : m_Ge XL XS (n + 4) C) (hX : RX tx m I0 L0 u0 b st (.ok s) I L) (hv : v = if s.set = -1 then 0 else 1) (hb : b + 1 ≤ 600) (hs : SetOk s) (hl : lst st) (hn : s.cd.length + nth st ≤ 260)
    (hK : ∀ I' L', RX tx m I0 L0 u0 (b + 1) (thr tx st s).2 (.ok (thr tx st s).1) I' L' → Ends (thr tx st s).2 (thr tx st s).1 I' → SetOk (thr tx st s).1 → K none (m_SH, I', L')) : C 129 [.ref 30, .int v] (m_SH, I, L) K := by
  subst hv
  exact r_through hC hX hb hs hl hn hK
theorem jop2_opn {tx : List Nat} {d : Nat} {s : JSt} (h16 : ¬ ((tk tx s.k).1 = 16 ∧ jfnd tx (.ok s) < 0)) (h8 : ¬ (if s.val = 0 then (tk tx s.k).1 = 12 else (tk tx s.k).1 = 11)) : jopn tx d (.ok s) = jop2 tx d s := by
  simp only [jopn, jb, jop2]
  rw [if_neg h16, if_neg h8]
theorem jop2_ok {tx : List Nat} {d : Nat} {s s2 : JSt} (h : jop2 tx d s = .ok s2) : s2 = s.wsm (s.sm + 1) ∧ ¬ s.set = -1 ∧ s.sm < 120 ∧ d ≤ 10 := by
  unfold jop2 at h
  split at h
  · cases h
  · split at h
    · cases h
    · cases h
      exact ⟨rfl, by assumption, by omega, by omega⟩
theorem jlve_set {a v : Int32} {r : JRs} {q : JSt} (e : jsst (-1) (jemt 5 a v r) = .ok q) : q.set = -1 := by
  cases hz : jemt 5 a v r with
  | error _ => rw [hz] at e; cases e
  | ok w => rw [hz] at e; cases e; rfl
theorem r_yieldStmt {XL : Nat} {XS : Nat → Int32} {n : Nat} {C : mC} {I : Nat → Nat → Int32} {L : Nat → Nat → Int64} {K : mK} {tx : List Nat} {m : Nat} {I0 : Nat → Nat → Int32} {L0 : Nat → Nat → Int64} {u0 : JU} {b : Nat} {st : List Fm} {s : JSt} (hC : m_Ge XL XS (n + 6) C) (hX : RX tx m I0 L0 u0 b st (.ok s) I L) (hb : b + 3 ≤ 600) (hE : Ends st s I) (hR : Rch st s) (hs : SetOk s) (hl : lst st) (hk : (tk tx s.k).1 = 12) (hn : s.cd.length + nth st ≤ 2 * s.sm + 20)
    (hK : ∀ I' L', POut tx m I0 L0 u0 (b + 2) st (jb (jopn tx (dep st) (.ok s)) fun s2 => jxpc tx 22 (jyld tx (jadv (.ok s2)))) I' L' → K none (m_SH, I', L')) : C 136 [.ref 30] (m_SH, I, L) K := by
  have hval : I 30 16 = s.val := hX.ok.2.2.1.2.1
  refine e_X9_yieldStmt hC (Nat.le_of_ble_eq_true rfl) ?_
  intro C' hC' P hP
  repeat (refine hP _ ?_; conv => whnf)
  rw [hval]
  refine ⟨fun z => ?_, fun z => ?_⟩
  · have ho : jopn tx (dep st) (.ok s) = jfal tx 8 (.ok s) := by
      simp only [jopn, jb]
      rw [if_neg (fun w => by omega), if_pos (by rw [if_pos z]; exact hk)]
    rw [ho] at hK
    repeat (refine hP _ ?_; conv => whnf)
    refine r_wrongX (a := 8) hC' hX (by decide) (by decide) (by decide) (fun I' h' => ?_)
    repeat (refine hP _ ?_; conv => whnf)
    exact hK _ _ ((h'.mono (by omega) (by omega)).out_f (a := 8) (r := .ok s))
  · have ho : jopn tx (dep st) (.ok s) = jop2 tx (dep st) s := jop2_opn (fun w => by omega) (by rw [if_neg z]; omega)
    rw [ho] at hK
    repeat (refine hP _ ?_; conv => whnf)
    refine r_begin hC' hX hE hR (fun I' h' _ => ?_)
    cases h2 : jop2 tx (dep st) s with
    | error e =>
      rw [h2] at h' hK
      repeat (refine hP _ ?_; conv => whnf)
      refine ⟨fun _ => ?_, fun y => absurd h'.flt_er.1 y⟩
      repeat (refine hP _ ?_; conv => whnf)
      exact hK _ _ (h'.mono (by omega) (by omega)).out_er
    | ok s2 =>
      rw [h2] at h' hK
      obtain ⟨rfl, hset, hsm, hd⟩ := jop2_ok h2
      have hlt : s.cd.length + 1 + nth st ≤ 260 := by omega
      simp only [jb] at hK
      repeat (refine hP _ ?_; conv => whnf)
      refine ⟨fun y => absurd y (by rw [h'.flt_ok]; decide), fun _ => ?_⟩
      repeat (refine hP _ ?_; conv => whnf)
      refine r_nextX (n := n + 2) hC' h' (by show (tk tx s.k).1 < 27; omega) (fun I3 L3 h3 => ?_)
      repeat (refine hP _ ?_; conv => whnf)
      refine r_signedX hC' h3 (fun I4 L4 h4 => ?_)
      have hpg : PG s.cd.length (jsgn tx (jadv (.ok (s.wsm (s.sm + 1))))) := by
        unfold jsgn
        split
        · exact PG_nmb (PG_adv (PG_adv (PG_b (Nat.le_refl _) hs)))
        · exact PG_nmb (PG_adv (PG_b (Nat.le_refl _) hs))
      have hy : jyld tx (jadv (.ok (s.wsm (s.sm + 1)))) = jlve 2 (jsgv tx (jadv (.ok (s.wsm (s.sm + 1))))) (jsgn tx (jadv (.ok (s.wsm (s.sm + 1))))) := by
        unfold jyld jsgv jsgn
        split <;> rfl
      rw [hy] at hK
      generalize jsgn tx (jadv (.ok (s.wsm (s.sm + 1)))) = r4 at h4 hK hpg
      generalize jsgv tx (jadv (.ok (s.wsm (s.sm + 1)))) = v4 at hK
      repeat (refine hP _ ?_; conv => whnf)
      refine r_emitX (k := 5) (a := 2) (c := v4) hC' h4 (by omega) (fun q e => by have := (hpg q e).1; omega) rfl (fun v5 I5 _ h5 => ?_)
      repeat (refine hP _ ?_; conv => whnf)
      refine r_deadX hC' h5 (fun I6 h6 => ?_)
      have hpg6 : PG (s.cd.length + 1) (jlve 2 v4 r4) := PG_dead (PG_emt hpg)
      have h6' : RX tx m I0 L0 u0 (b + 1) st (jlve 2 v4 r4) I6 L4 := h6
      have hdead : ∀ q, jlve 2 v4 r4 = .ok q → q.set = -1 := by
        intro q e
        exact jlve_set e
      generalize jlve 2 v4 r4 = r6 at h6' hK hpg6 hdead
      repeat (refine hP _ ?_; conv => whnf)
      refine r_wantsSignX (k := 22) (n := n + 1) hC' h6' (by decide) (by decide) (fun I7 L7 h7 => ?_)
      repeat (refine hP _ ?_; conv => whnf)
      cases hz : jxpc tx 22 r6 with
      | error e =>
        rw [hz] at h7 hK
        refine ⟨fun y => absurd y h7.flt_er.2, fun _ => ?_⟩
        repeat (refine hP _ ?_; conv => whnf)
        exact hK _ _ (h7.mono (by omega) (by omega)).out_er
      | ok s7 =>
        rw [hz] at h7 hK
        obtain ⟨q, rfl, rfl, -⟩ := jxpc_ok hz
        have hq := hpg6 q rfl
        have hqd := hdead q rfl
        refine ⟨fun _ => ?_, fun y => absurd h7.flt_ok y⟩
        repeat (refine hP _ ?_; conv => whnf)
        refine r_throughV (n := n + 1) hC' h7 (by show (0 : Int32) = if q.set = -1 then 0 else 1; rw [if_pos hqd]) (by omega) (Or.inl hqd) hl (by show q.cd.length + nth st ≤ 260; omega) (fun I8 L8 h8 he hs8 => ?_)
        repeat (refine hP _ ?_; conv => whnf)
        exact hK _ _ ⟨h8, he, hs8⟩
theorem r_simple {XL : Nat} {XS : Nat → Int32} {n : Nat} {C : mC} {I : Nat → Nat → Int32} {L : Nat → Nat → Int64} {K : mK} {tx : List Nat} {m : Nat} {I0 : Nat → Nat → Int32} {L0 : Nat → Nat → Int64} {u0 : JU} {b : Nat} {st : List Fm} {s : JSt} (hC : m_Ge XL XS (n + 6) C) (hX : RX tx m I0 L0 u0 b st (.ok s) I L) (hb : b + 3 ≤ 600) (hE : Ends st s I) (hR : Rch st s) (hs : SetOk s) (hl : lst st) (hk : (tk tx s.k).1 = 16 ∨ (tk tx s.k).1 = 8 ∨ (tk tx s.k).1 = 10 ∨ (tk tx s.k).1 = 11 ∨ (tk tx s.k).1 = 13) (hn : s.cd.length + nth st ≤ 2 * s.sm + 20)
    (hK : ∀ I' L', POut tx m I0 L0 u0 (b + 2) st (jb (jopn tx (dep st) (.ok s)) fun s2 => jxpc tx 22 (jsmp tx (.ok s2))) I' L' → K none (m_SH, I', L')) : C 133 [.ref 30] (m_SH, I, L) K := by
  have hval : I 30 16 = s.val := hX.ok.2.2.1.2.1
  have hn20 := hX.fct.2.2.2.2.1
  have ht1 := (tcl_eq (tk_29 tx s.k)).2.1
  refine e_X9_simple hC (Nat.le_of_ble_eq_true rfl) ?_
  intro C' hC' P hP
  repeat (refine hP _ ?_; conv => whnf)
  rw [hX.cl]
  refine ⟨fun z => ?_, fun z => ?_⟩
  · have hk16 := ht1.mp z
    repeat (refine hP _ ?_; conv => whnf)
    refine r_inScopeX (n := n + 4) hC' hX hk16 ?_
    repeat (refine hP _ ?_; conv => whnf)
    refine ⟨fun y => ?_, fun y => ?_⟩
    · have ho : jopn tx (dep st) (.ok s) = jfal tx 7 (.ok s) := by
        simp only [jopn, jb]
        rw [if_pos ⟨hk16, y⟩]
      rw [ho] at hK
      repeat (refine hP _ ?_; conv => whnf)
      refine r_wrongX (a := 7) hC' hX (by decide) (by decide) (by decide) (fun I' h' => ?_)
      repeat (refine hP _ ?_; conv => whnf)
      exact hK _ _ ((h'.mono (by omega) (by omega)).out_f (a := 7) (r := .ok s))
    · have ho : jopn tx (dep st) (.ok s) = jop2 tx (dep st) s := jop2_opn (fun w => y w.2) (by split <;> omega)
      rw [ho] at hK
      obtain ⟨i, hi, hf⟩ : ∃ i, i < s.nm.length ∧ jfnd tx (.ok s) = nI i := by
        rcases jfnd_cs (tx := tx) (s := s) with h | h
        · rw [h] at y; exact absurd (by decide) y
        · exact h
      repeat (refine hP _ ?_; conv => whnf)
      refine r_begin hC' hX hE hR (fun I' h' _ => ?_)
      cases h2 : jop2 tx (dep st) s with
      | error e =>
        rw [h2] at h' hK
        repeat (refine hP _ ?_; conv => whnf)
        refine ⟨fun _ => ?_, fun w => absurd h'.flt_er.1 w⟩
        repeat (refine hP _ ?_; conv => whnf)
        exact hK _ _ (h'.mono (by omega) (by omega)).out_er
      | ok s2 =>
        rw [h2] at h' hK
        obtain ⟨rfl, hset, hsm, hd⟩ := jop2_ok h2
        have hbits : bitsB s.nm.length s.set := hs.resolve_left hset
        simp only [jb] at hK
        have hfn : jfnd tx (.ok (s.wsm (s.sm + 1))) = jfnd tx (.ok s) := rfl
        have hj : jsmp tx (.ok (s.wsm (s.sm + 1))) = jstn (jfnd tx (.ok s)) (jnmv tx (jxpc tx 24 (jadv (.ok (s.wsm (s.sm + 1)))))) (jnmb tx (jxpc tx 24 (jadv (.ok (s.wsm (s.sm + 1)))))) := by
          unfold jsmp
          have e : jkd tx (.ok (s.wsm (s.sm + 1))) = 16 := hk16
          rw [if_neg (by omega), if_neg (by omega), if_pos e, hfn]
        rw [hj, jxpc_stn] at hK
        have hpg : PG s.cd.length (jxpc tx 22 (jnmb tx (jxpc tx 24 (jadv (.ok (s.wsm (s.sm + 1))))))) := PG_xpc (PG_nmb (PG_xpc (PG_adv (PG_b (Nat.le_refl _) hs))))
        have hfct : ∀ q, jxpc tx 22 (jnmb tx (jxpc tx 24 (jadv (.ok (s.wsm (s.sm + 1)))))) = .ok q → q.set = s.set ∧ q.nm = s.nm := by
          intro q e
          obtain ⟨q1, e1, rfl, -⟩ := jxpc_ok e
          obtain ⟨q2, e2, rfl, -⟩ := jnmb_ok e1
          obtain ⟨q3, e3, rfl, -⟩ := jxpc_ok e2
          cases e3
          exact ⟨rfl, rfl⟩
        repeat (refine hP _ ?_; conv => whnf)
        refine ⟨fun w => absurd w (by rw [h'.flt_ok]; decide), fun _ => ?_⟩
        repeat (refine hP _ ?_; conv => whnf)
        refine r_nextX (n := n + 2) hC' h' (by show (tk tx s.k).1 < 27; omega) (fun I3 L3 h3 => ?_)
        repeat (refine hP _ ?_; conv => whnf)
        refine r_wantsSignX (k := 24) (n := n + 1) hC' h3 (by decide) (by decide) (fun I4 L4 h4 => ?_)
        repeat (refine hP _ ?_; conv => whnf)
        refine r_numberX (n := n + 1) hC' h4 (fun I5 L5 h5 => ?_)
        repeat (refine hP _ ?_; conv => whnf)
        refine r_wantsSignX (k := 22) (n := n + 1) hC' h5 (by decide) (by decide) (fun I6 L6 h6 => ?_)
        generalize jxpc tx 22 (jnmb tx (jxpc tx 24 (jadv (.ok (s.wsm (s.sm + 1)))))) = r6 at h6 hK hpg hfct
        generalize jnmv tx (jxpc tx 24 (jadv (.ok (s.wsm (s.sm + 1))))) = v6 at hK
        repeat (refine hP _ ?_; conv => whnf)
        cases r6 with
        | error e =>
          refine ⟨fun w => absurd w h6.flt_er.2, fun _ => ?_⟩
          repeat (refine hP _ ?_; conv => whnf)
          exact hK _ _ (RX.out_er (h6.mono (by omega) (by omega)))
        | ok q =>
          have hq := hpg q rfl
          obtain ⟨hq1, hq2⟩ := hfct q rfl
          refine ⟨fun _ => ?_, fun w => absurd h6.flt_ok w⟩
          repeat (refine hP _ ?_; conv => whnf)
          rw [hf]
          refine r_emitX (k := 2) (a := nI i) (c := v6) hC' h6 (by omega) (fun q' e => by cases e; omega) rfl (fun v7 I7 _ h7 => ?_)
          have hem : jemt 2 (nI i) v6 (.ok q) = .ok (semt 2 (nI i) v6 q) := by
            simp only [jemt, jb]
            rw [if_pos (by omega)]
            rfl
          have hst : jstn (nI i) v6 (.ok q) = .ok ((semt 2 (nI i) v6 q).wset (q.set ||| (1 <<< (nI i &&& 31)))) := by
            unfold jstn
            rw [hem]
            show Except.ok _ = _
            rw [if_neg (nI_pos (by omega))]
            rfl
          rw [hem] at h7
          have hnn := h7.fct.2.2.2.2.1
          have f36 : I7 30 36 = q.set := h7.fct.2.1
          rw [hf, hst] at hK
          repeat (refine hP _ ?_; conv => whnf)
          rw [f36]
          have h8 := h7.sst (x := q.set ||| (1 <<< (nI i &&& 31))) (y := q.set ||| (1 <<< (nI i &&& 31))) (fun _ _ => rfl)
          have hbq : bitsB q.nm.length (q.set ||| (1 <<< (nI i &&& 31))) := by
            rw [hq1, hq2]
            exact bitsB.ins hi (by rw [← hq2]; have : q.nm.length ≤ 20 := hnn; omega) hbits
          have hne : ¬ q.set ||| (1 <<< (nI i &&& 31)) = -1 := hbq.ne hnn
          refine r_throughV (s := (semt 2 (nI i) v6 q).wset (q.set ||| (1 <<< (nI i &&& 31)))) (n := n + 1) hC' h8 (by show (1 : Int32) = if (q.set ||| (1 <<< (nI i &&& 31))) = -1 then 0 else 1; rw [if_neg hne]) (by omega) (Or.inr hbq) hl (by show (q.cd ++ [_]).length + nth st ≤ 260; rw [List.length_append, List.length_singleton]; omega) (fun I9 L9 h9 he hs9 => ?_)
          repeat (refine hP _ ?_; conv => whnf)
          exact hK _ _ ⟨h9, he, hs9⟩
  · have hk16 : ¬ (tk tx s.k).1 = 16 := fun y => z (ht1.mpr y)
    have hk2 : (tk tx s.k).1 = 8 ∨ (tk tx s.k).1 = 10 ∨ (tk tx s.k).1 = 11 ∨ (tk tx s.k).1 = 13 := hk.resolve_left hk16
    have hw : I 30 7 = nI ((tk tx s.k).1 - 1) := (hX.ok.1.1.1.2.2.2.1 (by omega)).2
    have tail : ∀ (w : Int32) (r3 : JRs) (J : Nat → Nat → Int32) (M : Nat → Nat → Int64), RX tx m I0 L0 u0 (b + 1) st r3 J M → PG (s.cd.length + 1) r3 → s.cd.length + 1 + nth st ≤ 260 → (∀ q, r3 = .ok q → (if w = 7 then 1 else if w = 9 then 1 else 0) = (if q.set = -1 then (0 : Int32) else 1)) → (∀ I' L', POut tx m I0 L0 u0 (b + 2) st (jxpc tx 22 r3) I' L' → K none (m_SH, I', L')) → P (204, [some (.ref 30), some (.int w), none], [], (m_SH, J, M), 0, 0) := by
      intro w r3 J M h3 hpg hlt hv hk3
      repeat (refine hP _ ?_; conv => whnf)
      refine r_wantsSignX (k := 22) (n := n + 1) hC' h3 (by decide) (by decide) (fun I7 L7 h7 => ?_)
      repeat (refine hP _ ?_; conv => whnf)
      cases hz : jxpc tx 22 r3 with
      | error e =>
        rw [hz] at h7 hk3
        refine ⟨fun y => absurd y h7.flt_er.2, fun _ => ?_⟩
        repeat (refine hP _ ?_; conv => whnf)
        exact hk3 _ _ (RX.out_er (h7.mono (by omega) (by omega)))
      | ok s7 =>
        rw [hz] at h7 hk3
        obtain ⟨q, rfl, rfl, -⟩ := jxpc_ok hz
        have hq := hpg q rfl
        have hv := hv q rfl
        refine ⟨fun _ => ?_, fun y => absurd h7.flt_ok y⟩
        have fin : ∀ v : Int32, v = (if q.set = -1 then 0 else 1) → P (235, [some (.ref 30), some (.int w), none], [.int v, .ref 30], (m_SH, I7, L7), 0, 0) := by
          intro v hvv
          repeat (refine hP _ ?_; conv => whnf)
          refine r_throughV (n := n + 1) hC' h7 hvv (by omega) hq.2 hl (by show q.cd.length + nth st ≤ 260; omega) (fun I8 L8 h8 he hs8 => ?_)
          repeat (refine hP _ ?_; conv => whnf)
          exact hk3 _ _ ⟨h8, he, hs8⟩
        repeat (refine hP _ ?_; conv => whnf)
        refine ⟨fun y => ?_, fun y => ?_⟩
        · iterate 2 (refine hP _ ?_; conv => whnf)
          exact fin 1 (by rw [← hv, if_pos y])
        · repeat (refine hP _ ?_; conv => whnf)
          refine ⟨fun x => ?_, fun x => ?_⟩
          · iterate 2 (refine hP _ ?_; conv => whnf)
            exact fin 1 (by rw [← hv, if_neg y, if_pos x])
          · iterate 1 (refine hP _ ?_; conv => whnf)
            exact fin 0 (by rw [← hv, if_neg y, if_neg x])
    have main : ¬ (nI ((tk tx s.k).1 - 1) = 10 ∧ ¬ s.val = 0) → P (119, [some (.ref 30), some (.int (nI ((tk tx s.k).1 - 1))), none], [], (m_SH, I, L), 0, 0) := by
      intro h8
      have ho : jopn tx (dep st) (.ok s) = jop2 tx (dep st) s := jop2_opn (fun w => hk16 w.1) (by
        split
        · omega
        · intro y
          rw [y] at h8
          exact h8 ⟨rfl, by assumption⟩)
      rw [ho] at hK
      repeat (refine hP _ ?_; conv => whnf)
      refine r_begin hC' hX hE hR (fun I' h' _ => ?_)
      cases h2 : jop2 tx (dep st) s with
      | error e =>
        rw [h2] at h' hK
        repeat (refine hP _ ?_; conv => whnf)
        refine ⟨fun _ => ?_, fun w => absurd h'.flt_er.1 w⟩
        repeat (refine hP _ ?_; conv => whnf)
        exact hK _ _ (h'.mono (by omega) (by omega)).out_er
      | ok s2 =>
        rw [h2] at h' hK
        obtain ⟨rfl, hset, hsm, hd⟩ := jop2_ok h2
        simp only [jb] at hK
        have hkd : jkd tx (.ok (s.wsm (s.sm + 1))) = (tk tx s.k).1 := rfl
        unfold jsmp at hK
        rw [hkd] at hK
        have hA : PG s.cd.length (jadv (.ok (s.wsm (s.sm + 1)))) := PG_adv (PG_b (Nat.le_refl _) hs)
        have hlt : s.cd.length + 1 + nth st ≤ 260 := by omega
        repeat (refine hP _ ?_; conv => whnf)
        refine ⟨fun w => absurd w (by rw [h'.flt_ok]; decide), fun _ => ?_⟩
        repeat (refine hP _ ?_; conv => whnf)
        refine r_nextX (n := n + 2) hC' h' (by show (tk tx s.k).1 < 27; omega) (fun I3 L3 h3 => ?_)
        repeat (refine hP _ ?_; conv => whnf)
        have hsame : ∀ (r : JRs) (q : JSt), (r = jnmb tx (jadv (.ok (s.wsm (s.sm + 1)))) ∨ r = jadv (.ok (s.wsm (s.sm + 1)))) → r = .ok q → q.set = s.set := by
          intro r q h e
          rcases h with h | h
          · rw [e] at h
            obtain ⟨q1, e1, rfl, -⟩ := jnmb_ok h.symm
            cases e1
            rfl
          · rw [e] at h
            cases h
            rfl
        rcases hk2 with g | g | g | g
        · rw [g] at hK ⊢
          rw [if_pos rfl] at hK
          refine ⟨fun _ => ?_, fun w => absurd rfl w⟩
          repeat (refine hP _ ?_; conv => whnf)
          refine r_numberX (n := n + 1) hC' h3 (fun I4 L4 h4 => ?_)
          have hpg := PG_nmb (tx := tx) hA
          have hs4 := fun q => hsame _ q (Or.inl rfl)
          generalize jnmb tx (jadv (.ok (s.wsm (s.sm + 1)))) = r4 at h4 hK hpg hs4
          generalize jnmv tx (jadv (.ok (s.wsm (s.sm + 1)))) = v4 at hK
          repeat (refine hP _ ?_; conv => whnf)
          refine r_emitX (k := 0) (a := v4) (c := 0) hC' h4 (by omega) (fun q e => by have := (hpg q e).1; omega) rfl (fun v5 I5 _ h5 => ?_)
          iterate 2 (refine hP _ ?_; conv => whnf)
          refine tail 7 _ I5 L4 h5 (PG_emt hpg) hlt (fun q e => ?_) hK
          obtain ⟨q1, rfl, e1⟩ := jemt_ok e
          have h7 := hs4 q1 rfl
          have : q.set = s.set := by rcases e1 with rfl | rfl <;> exact h7
          rw [this, if_neg hset]
          rfl
        · rw [g] at hK ⊢
          rw [if_neg (by decide), if_pos rfl] at hK
          refine ⟨fun w => absurd w (by decide), fun _ => ?_⟩
          repeat (refine hP _ ?_; conv => whnf)
          refine ⟨fun _ => ?_, fun w => absurd rfl w⟩
          repeat (refine hP _ ?_; conv => whnf)
          have h3' : RX tx m I0 L0 u0 b st (.ok ((s.wsm (s.sm + 1)).wk (s.k + 1))) I3 L3 := h3
          have hK' : ∀ I' L', POut tx m I0 L0 u0 (b + 2) st (jxpc tx 22 (juse tx (.ok ((s.wsm (s.sm + 1)).wk (s.k + 1))))) I' L' → K none (m_SH, I', L') := hK
          refine r_use (n := n + 1) hC' h3' (by omega) (by show s.cd.length < 260; omega) (fun I5 L5 h5 => ?_)
          iterate 1 (refine hP _ ?_; conv => whnf)
          have hpu : ∀ q, juse tx (.ok ((s.wsm (s.sm + 1)).wk (s.k + 1))) = .ok q → q.cd.length ≤ s.cd.length + 1 ∧ q.set = s.set ∧ q.nm = s.nm := by
            intro q e
            simp only [juse, jb] at e
            split at e
            · cases e
            · split at e
              · cases e
              · cases hz : jemt 1 (jfnd tx (.ok ((s.wsm (s.sm + 1)).wk (s.k + 1)))) 0 (.ok ((s.wsm (s.sm + 1)).wk (s.k + 1))) with
                | error _ => cases hz
                | ok q1 =>
                  rw [hz] at e
                  cases e
                  obtain ⟨q2, e2, e3⟩ := jemt_ok hz
                  cases e2
                  rcases e3 with rfl | rfl
                  · refine ⟨?_, rfl, rfl⟩
                    show (s.cd ++ [_]).length ≤ _
                    rw [List.length_append, List.length_singleton]
                    omega
                  · exact ⟨Nat.le_succ _, rfl, rfl⟩
          refine tail 9 _ I5 L5 h5 (fun q e => ⟨(hpu q e).1, ?_⟩) hlt (fun q e => ?_) hK'
          · unfold SetOk
            rw [(hpu q e).2.1, (hpu q e).2.2]
            exact hs
          · rw [(hpu q e).2.1, if_neg hset]
            rfl
        · rw [g] at hK ⊢
          rw [if_neg (by decide), if_neg (by decide), if_neg (by decide), if_pos rfl] at hK
          refine ⟨fun w => absurd w (by decide), fun _ => ?_⟩
          repeat (refine hP _ ?_; conv => whnf)
          refine ⟨fun w => absurd w (by decide), fun _ => ?_⟩
          repeat (refine hP _ ?_; conv => whnf)
          refine ⟨fun _ => ?_, fun w => absurd rfl w⟩
          repeat (refine hP _ ?_; conv => whnf)
          refine r_emitX (k := 5) (a := 1) (c := 0) (n := n + 4) hC' h3 (by omega) (fun q e => by have := (hA q e).1; omega) rfl (fun v5 I5 _ h5 => ?_)
          repeat (refine hP _ ?_; conv => whnf)
          refine r_deadX hC' h5 (fun I6 h6 => ?_)
          iterate 1 (refine hP _ ?_; conv => whnf)
          refine tail 10 _ I6 L3 h6 (PG_dead (PG_emt hA)) hlt (fun q e => ?_) hK
          rw [show q.set = -1 from jlve_set e]
          rfl
        · rw [g] at hK ⊢
          rw [if_neg (by decide), if_neg (by decide), if_neg (by decide), if_neg (by decide)] at hK
          refine ⟨fun w => absurd w (by decide), fun _ => ?_⟩
          repeat (refine hP _ ?_; conv => whnf)
          refine ⟨fun w => absurd w (by decide), fun _ => ?_⟩
          repeat (refine hP _ ?_; conv => whnf)
          refine ⟨fun w => absurd w (by decide), fun _ => ?_⟩
          repeat (refine hP _ ?_; conv => whnf)
          refine r_numberX (n := n + 1) hC' h3 (fun I4 L4 h4 => ?_)
          have hpg := PG_nmb (tx := tx) hA
          generalize jnmb tx (jadv (.ok (s.wsm (s.sm + 1)))) = r4 at h4 hK hpg
          generalize jnmv tx (jadv (.ok (s.wsm (s.sm + 1)))) = v4 at hK
          repeat (refine hP _ ?_; conv => whnf)
          refine r_emitX (k := 5) (a := 3) (c := v4) hC' h4 (by omega) (fun q e => by have := (hpg q e).1; omega) rfl (fun v5 I5 _ h5 => ?_)
          repeat (refine hP _ ?_; conv => whnf)
          refine r_deadX hC' h5 (fun I6 h6 => ?_)
          refine tail 12 _ I6 L4 h6 (PG_dead (PG_emt hpg)) hlt (fun q e => ?_) hK
          rw [show q.set = -1 from jlve_set e]
          rfl
    repeat (refine hP _ ?_; conv => whnf)
    rw [hw]
    refine ⟨fun y => ?_, fun y => ?_⟩
    · repeat (refine hP _ ?_; conv => whnf)
      rw [hval]
      refine ⟨fun x => main (fun w => w.2 x), fun x => ?_⟩
      have hk11 : (tk tx s.k).1 = 11 := by
        have := (nI_eq (a := (tk tx s.k).1 - 1) (b := 10) (by omega) (by omega)).mp y
        omega
      have ho : jopn tx (dep st) (.ok s) = jfal tx 8 (.ok s) := by
        simp only [jopn, jb]
        rw [if_neg (fun w => hk16 w.1), if_pos (by rw [if_neg x]; exact hk11)]
      rw [ho] at hK
      repeat (refine hP _ ?_; conv => whnf)
      refine r_wrongX (a := 8) hC' hX (by decide) (by decide) (by decide) (fun I' h' => ?_)
      repeat (refine hP _ ?_; conv => whnf)
      exact hK _ _ ((h'.mono (by omega) (by omega)).out_f (a := 8) (r := .ok s))
    · exact main (fun w => y w.1)
