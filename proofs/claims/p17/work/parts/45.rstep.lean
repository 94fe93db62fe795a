/-! ===== one step of the reference's loop over stmts ===== -/
def jlf (tx : List Nat) (st : List Fm) : JRs → Except (Nat × Nat) (List Fm × JSt)
  | .error e => .error e
  | .ok s => .ok ((thr tx st s).2, (thr tx st s).1)
def jone (tx : List Nat) (st : List Fm) (s : JSt) : Except (Nat × Nat) (List Fm × JSt) :=
  if (tk tx s.k).1 = 19 then (match jopn tx (dep st) (.ok s) with
    | .error e => .error e
    | .ok s2 => .ok ((1, 0, s2.nm.length) :: st, s2.wk (s2.k + 1)))
  else if (tk tx s.k).1 = 14 then (match jopn tx (dep st) (.ok s) with
    | .error e => .error e
    | .ok s2 => .ok ((2, s2.set, s2.cd.length) :: st, (semt 3 0 0 s2).wk (s2.k + 1)))
  else if (tk tx s.k).1 = 9 then jlf tx st (jb (jopn tx (dep st) (.ok s)) fun s2 => jxpc tx 22 (jlet tx (jadv (.ok s2))))
  else if (tk tx s.k).1 = 12 then jlf tx st (jb (jopn tx (dep st) (.ok s)) fun s2 => jxpc tx 22 (jyld tx (jadv (.ok s2))))
  else if jbgn (tk tx s.k).1 = true then jlf tx st (jb (jopn tx (dep st) (.ok s)) fun s2 => jxpc tx 22 (jsmp tx (.ok s2)))
  else jlf tx st (jfal tx 2 (.ok s))
def POne (tx : List Nat) (m : Nat) (I0 : Nat → Nat → Int32) (L0 : Nat → Nat → Int64) (u0 : JU) (b : Nat) (r : Except (Nat × Nat) (List Fm × JSt)) (I : Nat → Nat → Int32) (L : Nat → Nat → Int64) : Prop := match r with
  | .error e => RX tx m I0 L0 u0 b [] (.error e) I L
  | .ok q => RX tx m I0 L0 u0 b q.1 (.ok q.2) I L ∧ Ends q.1 q.2 I ∧ SetOk q.2
theorem POut.one {tx : List Nat} {m : Nat} {I0 : Nat → Nat → Int32} {L0 : Nat → Nat → Int64} {u0 : JU} {b : Nat} {st : List Fm} {r : JRs} {I : Nat → Nat → Int32} {L : Nat → Nat → Int64} {b' : Nat} (h : POut tx m I0 L0 u0 b st r I L) (hb : b ≤ b') (hb' : b' ≤ 600) : POne tx m I0 L0 u0 b' (jlf tx st r) I L := by
  cases r with
  | error e => exact RX.mono (st := []) (u0 := u0) (r := .error e) h hb hb'
  | ok s => exact ⟨RX.mono h.1 hb hb', h.2.1, h.2.2⟩
theorem RX.psh {tx : List Nat} {m : Nat} {I0 : Nat → Nat → Int32} {L0 : Nat → Nat → Int64} {u0 : JU} {b : Nat} {st : List Fm} {I : Nat → Nat → Int32} {L : Nat → Nat → Int64} {s : JSt} {k : Nat} (h : RX tx m I0 L0 u0 b st (.ok s) I L) (hk : k = 0 ∨ k = 1 ∨ k = 4) (hst : st.length < 20) (hd : dep st < 20) : RX tx m I0 L0 u0 b ((k, 0, s.nm.length) :: st) (.ok s) (pushF (nI k) I) L := by
  have hcdb := h.cdb
  have hbb := h.2.2.2.1
  obtain ⟨⟨q1, q2, q3⟩, ⟨b1, b2⟩, ⟨c1, c2, c3⟩, ⟨d1, d2, d3, d4⟩, e, ⟨g1, g2, g3, g4, g5⟩⟩ := h.ok
  have hdp : dep ((k, 0, s.nm.length) :: st) = dep st + (if k = 1 then 1 else 0) := by
    rw [dep_cons]
    rcases hk with rfl | rfl | rfl
    · simp
    · simp; omega
    · simp
  have hp : pushF (nI k) I = m_up (m_up (m_up (m_up (m_up I 45 st.length (nI k)) 46 st.length 1) 47 st.length (nI s.nm.length)) 30 44 (nI (st.length + 1))) 30 45 (nI (dep ((k, 0, s.nm.length) :: st))) := by
    unfold pushF
    rw [g1, nI_clamp (by omega), d1, nI_1, g2, hdp]
    rcases hk with rfl | rfl | rfl
    · rw [if_neg (by decide), if_neg (by decide), if_neg (by decide)]; congr 1; exact Int32.add_zero _
    · rw [if_pos (show nI 1 = 1 from rfl), if_pos rfl, nI_1]
    · rw [if_neg (by decide), if_neg (by decide), if_neg (by decide)]; congr 1; exact Int32.add_zero _
  rw [hp]
  refine h.mk (((((Fr.rf.up rfl).up rfl).up rfl).up rfl).up rfl) Fr.rf hbb ⟨⟨⟨?_, ?_, q3⟩, ⟨?_, b2⟩, ⟨?_, ?_, c3⟩, ⟨?_, d2, d3, d4⟩, ?_, ?_, ?_, by simp; omega, by rw [hdp]; split <;> omega, ?_⟩, hcdb⟩
  · exact q1.fr (by simp [m_upr]) (by simp [m_upr]) (by simp [m_upr]) (by simp [m_upr]) rfl
  · simp [m_upr]; exact q2
  · simp [m_upr]; exact b1
  · simp [m_upr]; exact c1
  · simp [m_upr]; exact c2
  · simp [m_upr]; exact d1
  · unfold RCd at e ⊢
    refine ⟨by simp [m_upr]; exact e.1, fun j y hy => ?_⟩
    simpa [m_upr] using e.2 j y hy
  · simp [m_upr]
  · simp [m_upr]
  · refine ⟨⟨by show k < 5; omega, by simp [m_upr]⟩, fun z => ⟨by simp [m_upr], Nat.le_refl _⟩, fun z => ?_, fun z => ?_, ?_⟩
    · have z : k = 2 := z
      omega
    · have z : k = 3 := z
      omega
    · have hc : (if k = 1 then s.nm.length else s.nm.length) = s.nm.length := by split <;> rfl
      show FrS _ _ (if k = 1 then s.nm.length else s.nm.length) st
      rw [hc]
      refine FrS_low st _ I _ s.cd (fun p j h1 h2 h3 => ?_) g5
      have : ¬ p = 30 := by omega
      have : ¬ j = st.length := by omega
      simp [m_upr, *]
theorem RX.psi {tx : List Nat} {m : Nat} {I0 : Nat → Nat → Int32} {L0 : Nat → Nat → Int64} {u0 : JU} {b : Nat} {st : List Fm} {I : Nat → Nat → Int32} {L : Nat → Nat → Int64} {s : JSt} (h : RX tx m I0 L0 u0 b st (.ok s) I L) (hb : b + 1 ≤ 600) (hst : st.length < 20) (hd : dep st < 20) (hset : bitsB s.nm.length s.set) : RX tx m I0 L0 u0 (b + 1) ((2, s.set, s.cd.length) :: st) (.ok (semt 3 0 0 s)) (m_up (emF 6 0 0 (m_up (pushF 2 (m_up I 30 36 s.set)) 48 st.length s.set)) 50 st.length (nI s.cd.length)) L := by
  have hcdb := h.cdb
  have hbb := h.2.2.2.1
  obtain ⟨⟨q1, q2, q3⟩, ⟨b1, b2⟩, ⟨c1, c2, c3⟩, ⟨d1, d2, d3, d4⟩, e, ⟨g1, g2, g3, g4, g5⟩⟩ := h.ok
  have hdp : dep ((2, s.set, s.cd.length) :: st) = dep st + 1 := by
    rw [dep_cons]
    simp; omega
  have hp : pushF 2 (m_up I 30 36 s.set) = m_up (m_up (m_up (m_up (m_up (m_up I 30 36 s.set) 45 st.length 2) 46 st.length 1) 47 st.length (nI s.nm.length)) 30 44 (nI (st.length + 1))) 30 45 (nI (dep st + 1)) := by
    unfold pushF
    have e1 : m_up I 30 36 s.set 30 44 = nI st.length := by simp [m_upr, g1]
    have e2 : m_up I 30 36 s.set 30 35 = nI s.nm.length := by simp [m_upr, d1]
    have e3 : m_up I 30 36 s.set 30 45 = nI (dep st) := by simp [m_upr, g2]
    rw [e1, e2, e3, nI_clamp (by omega), nI_1, if_neg (by decide), if_pos rfl, nI_1]
  rw [hp]
  have e0 : RCd s (m_up (m_up (m_up (m_up (m_up (m_up (m_up I 30 36 s.set) 45 st.length 2) 46 st.length 1) 47 st.length (nI s.nm.length)) 30 44 (nI (st.length + 1))) 30 45 (nI (dep st + 1))) 48 st.length s.set) := by
    unfold RCd at e ⊢
    refine ⟨by simpa [m_upr] using e.1, fun j y hy => ?_⟩
    simpa [m_upr] using e.2 j y hy
  have e1 := e0.emt (k := 3) (a := 0) (b := 0) (ka := 6) (kb := 0) (kc := 0) (by omega) rfl
  have e2 : RCd (semt 3 0 0 s) (m_up (emF 6 0 0 (m_up (m_up (m_up (m_up (m_up (m_up (m_up I 30 36 s.set) 45 st.length 2) 46 st.length 1) 47 st.length (nI s.nm.length)) 30 44 (nI (st.length + 1))) 30 45 (nI (dep st + 1))) 48 st.length s.set)) 50 st.length (nI s.cd.length)) := by
    unfold RCd at e1 ⊢
    refine ⟨by simpa [m_upr] using e1.1, fun j y hy => ?_⟩
    simpa [m_upr] using e1.2 j y hy
  have hcd : (semt 3 0 0 s).cd = s.cd ++ [(3, 0, 0)] := rfl
  have hF : Fr S_st I (m_up (emF 6 0 0 (m_up (m_up (m_up (m_up (m_up (m_up (m_up I 30 36 s.set) 45 st.length 2) 46 st.length 1) 47 st.length (nI s.nm.length)) 30 44 (nI (st.length + 1))) 30 45 (nI (dep st + 1))) 48 st.length s.set)) 50 st.length (nI s.cd.length)) := by
    unfold emF
    exact (((((((((((Fr.rf.up rfl).up rfl).up rfl).up rfl).up rfl).up rfl).up rfl).up rfl).up rfl).up rfl).up rfl).up rfl
  refine h.mk hF Fr.rf hb ⟨⟨⟨?_, ?_, q3⟩, ⟨?_, b2⟩, ⟨?_, ?_, c3⟩, ⟨?_, d2, d3, d4⟩, e2, ?_, ?_, by simp; omega, by rw [hdp]; omega, ?_⟩, ?_⟩
  · exact q1.fr (by simp [emF, m_upr]) (by simp [emF, m_upr]) (by simp [emF, m_upr]) (by simp [emF, m_upr]) rfl
  · simp [emF, m_upr]; exact q2
  · simp [emF, m_upr]; exact b1
  · simp [emF, m_upr]; rfl
  · simp [emF, m_upr]; exact c2
  · simp [emF, m_upr]; exact d1
  · simp [emF, m_upr]
  · simp [emF, m_upr]; rw [hdp]
  · refine ⟨⟨by simp, by simp [emF, m_upr]; rfl⟩, fun z => absurd z (by simp), fun _ => ⟨by simp [emF, m_upr], by simp [m_upr], ?_, hset⟩, fun z => absurd z (by simp), ?_⟩
    · rw [hcd]
      unfold kAt
      simp
    · rw [if_neg (by simp)]
      refine FrS.mono (fun i k hq => by rw [hcd]; exact kAt_app hq) st _ _ (Nat.le_refl _) (FrS_low st _ I _ s.cd (fun p j h1 h2 h3 => ?_) g5)
      have : ¬ p = 30 := by omega
      have : ¬ p = 41 := by omega
      have : ¬ p = 42 := by omega
      have : ¬ p = 43 := by omega
      have : ¬ j = st.length := by omega
      simp [emF, m_upr, *]
  · rw [semt_len]; omega
theorem RX.emk {tx : List Nat} {m : Nat} {I0 : Nat → Nat → Int32} {L0 : Nat → Nat → Int64} {u0 : JU} {b : Nat} {st : List Fm} {I : Nat → Nat → Int32} {L : Nat → Nat → Int64} {e : Nat × Nat} {b' : Nat} {st' : List Fm} {I' : Nat → Nat → Int32} {L' : Nat → Nat → Int64} (h : RX tx m I0 L0 u0 b st (.error e) I L) (hF : Fr S_st I I') (hL : Fr S_stL L L') (hb : b' ≤ 600) (h8 : I' 30 8 = I 30 8) (h9 : I' 30 9 = I 30 9) (hc : ∀ c, c ≤ b → I 30 33 = nI c → ∃ c', c' ≤ b' ∧ I' 30 33 = nI c') (hB : BB I → BB I' := by (intro hq; (try unfold emF); (try unfold pushF); (try unfold popF); repeat' (first | exact hq | refine BB.up ?_ (fun z => absurd z (by decide)) | refine BB.up ?_ (fun _ => Or.inr rfl)))) : RX tx m I0 L0 u0 b' st' (.error e) I' L' := by
  obtain ⟨w1, w2, w3, w4, q, w5, w6⟩ := h.er
  obtain ⟨c', w7, w8⟩ := hc q w5 w6
  refine h.mk hF hL hb ?_ hB
  exact ⟨w1, w2, by rw [h8]; exact w3, by rw [h9]; exact w4, c', w7, w8⟩
theorem r_nextE {XL : Nat} {XS : Nat → Int32} {n : Nat} {C : mC} {I : Nat → Nat → Int32} {L : Nat → Nat → Int64} {K : mK} {tx : List Nat} {m : Nat} {I0 : Nat → Nat → Int32} {L0 : Nat → Nat → Int64} {u0 : JU} {b : Nat} {st : List Fm} {s : JSt} {e : Nat × Nat} {I1 : Nat → Nat → Int32} (hC : m_Ge XL XS (n + 3) C) (hX : RX tx m I0 L0 u0 b st (.ok s) I L) (h27 : (tk tx s.k).1 < 27) (hE : RX tx m I0 L0 u0 b st (.error e) I1 L) (hF : Fr S_bg I I1)
    (hK : ∀ I' L', RX tx m I0 L0 u0 b st (.error e) I' L' → I' 30 44 = nI st.length → K none (m_SH, I', L')) : C 107 [.ref 30] (m_SH, I1, L) K := by
  have h := hX.ok
  have hk : s.k < m := tk_lt hX.1.2.1 h.1.2.2 (by omega) (by omega)
  refine r_nextK hC hX.1.1 hX.1.2.1 hk hE.txm hE.wdm (by rw [hF 30 3 rfl]; exact h.1.1.2 (by omega)) (fun I' L' hT hF' hL => ?_)
  refine hK I' L' (hE.emk (hF'.mono (fun _ _ => S_nx_st)) (hL.mono (fun _ _ => S_nxL_st)) hX.2.2.2.1 (hF' 30 8 rfl) (hF' 30 9 rfl) (fun c h1 h2 => ⟨c, h1, by rw [hF' 30 33 rfl]; exact h2⟩) (fun h => h.of (fun j => hF' 46 j rfl))) ?_
  rw [hF' 30 44 rfl, hF 30 44 rfl]
  exact hX.fct.1
theorem jbgn_smp {k : Nat} (h : jbgn k = true) (h19 : ¬ k = 19) (h14 : ¬ k = 14) (h9 : ¬ k = 9) (h12 : ¬ k = 12) : k = 16 ∨ k = 8 ∨ k = 10 ∨ k = 11 ∨ k = 13 := by
  simp [jbgn] at h
  omega
theorem isSi_k {t : Tok} {I : Nat → Nat → Int32} {L : Nat → Nat → Int64} (h : MT t I L) (ht : t.1 < 29) (h0 : 0 < t.1) : isSiF I = if t.1 = 16 ∨ t.1 = 8 ∨ t.1 = 10 ∨ t.1 = 11 ∨ t.1 = 13 then 1 else 0 := by
  unfold isSiF
  rw [h.cl ht]
  have e1 := (tcl_eq ht).1
  have e2 := (tcl_eq ht).2.1
  by_cases g : t.1 = 16
  · rw [if_pos (e2.mpr g), if_pos (Or.inl g)]
  · rw [if_neg (fun z => g (e2.mp z))]
    by_cases g2 : t.1 < 16
    · rw [if_pos (e1.mpr g2), (h.2.2.2.1 g2).2]
      have e7 := nI_eq (a := t.1 - 1) (b := 7) (by omega) (by omega)
      have e9 := nI_eq (a := t.1 - 1) (b := 9) (by omega) (by omega)
      have e10 := nI_eq (a := t.1 - 1) (b := 10) (by omega) (by omega)
      have e12 := nI_eq (a := t.1 - 1) (b := 12) (by omega) (by omega)
      by_cases a7 : t.1 - 1 = 7
      · rw [if_pos (show nI (t.1 - 1) = 7 from e7.mpr a7), if_pos (by omega)]
      rw [if_neg (show ¬ nI (t.1 - 1) = 7 from fun z => a7 (e7.mp z))]
      by_cases a9 : t.1 - 1 = 9
      · rw [if_pos (show nI (t.1 - 1) = 9 from e9.mpr a9), if_pos (by omega)]
      rw [if_neg (show ¬ nI (t.1 - 1) = 9 from fun z => a9 (e9.mp z))]
      by_cases a10 : t.1 - 1 = 10
      · rw [if_pos (show nI (t.1 - 1) = 10 from e10.mpr a10), if_pos (by omega)]
      rw [if_neg (show ¬ nI (t.1 - 1) = 10 from fun z => a10 (e10.mp z))]
      by_cases a12 : t.1 - 1 = 12
      · rw [if_pos (show nI (t.1 - 1) = 12 from e12.mpr a12), if_pos (by omega)]
      rw [if_neg (show ¬ nI (t.1 - 1) = 12 from fun z => a12 (e12.mp z)), if_neg (by omega)]
    · rw [if_neg (fun z => g2 (e1.mp z)), if_neg (by omega)]
theorem r_stmt {XL : Nat} {XS : Nat → Int32} {n : Nat} {C : mC} {I : Nat → Nat → Int32} {L : Nat → Nat → Int64} {K : mK} {tx : List Nat} {m : Nat} {I0 : Nat → Nat → Int32} {L0 : Nat → Nat → Int64} {u0 : JU} {b : Nat} {st : List Fm} {s : JSt} (hC : m_Ge XL XS (n + 7) C) (hX : RX tx m I0 L0 u0 b st (.ok s) I L) (hb : b + 3 ≤ 600) (hE : Ends st s I) (hR : Rch st s) (hs : SetOk s) (hl : lst st) (hst : st.length < 20) (hd : dep st < 20) (hn : s.cd.length + nth st ≤ 2 * s.sm + 20)
    (hK : ∀ I' L', POne tx m I0 L0 u0 (b + 3) (jone tx st s) I' L' → K none (m_SH, I', L')) : C 138 [.ref 30] (m_SH, I, L) K := by
  unfold jone at hK
  refine e_X9_stmt hC (Nat.le_of_ble_eq_true rfl) ?_
  intro C' hC' P hP
  repeat (refine hP _ ?_; conv => whnf)
  refine r_isSignX (k := 19) (n := n + 5) hC' hX (by decide) (by decide) ?_
  by_cases g19 : (tk tx s.k).1 = 19
  · rw [if_pos g19] at hK ⊢
    have ho : jopn tx (dep st) (.ok s) = jop2 tx (dep st) s := jop2_opn (fun w => by omega) (by split <;> omega)
    rw [ho] at hK
    repeat (refine hP _ ?_; conv => whnf)
    refine ⟨fun z => absurd z (by decide), fun _ => ?_⟩
    repeat (refine hP _ ?_; conv => whnf)
    refine r_begin (n := n + 4) hC' hX hE hR (fun I1 h1 hF1 => ?_)
    repeat (refine hP _ ?_; conv => whnf)
    cases h2 : jop2 tx (dep st) s with
    | error e =>
      rw [h2] at h1 hK
      refine r_nextE (n := n + 3) hC' hX (by omega) h1 hF1 (fun I2 L2 h2 h44 => ?_)
      repeat (refine hP _ ?_; conv => whnf)
      refine r_push (n := n + 5) hC' (by rw [h44]; exact vp_in_nI (by omega) (by omega)) ?_
      repeat (refine hP _ ?_; conv => whnf)
      refine hK _ _ (h2.emk (st' := []) ?_ Fr.rf hb (by simp [pushF, m_upr]) (by simp [pushF, m_upr]) (fun c hc e => ⟨c, by omega, by simp [pushF, m_upr]; exact e⟩))
      unfold pushF
      exact ((((Fr.rf.up rfl).up rfl).up rfl).up rfl).up rfl
    | ok s2 =>
      rw [h2] at h1 hK
      obtain ⟨rfl, hset, hsm, hdd⟩ := jop2_ok h2
      refine r_nextX (n := n + 3) hC' h1 (by show (tk tx s.k).1 < 27; omega) (fun I3 L3 h3 => ?_)
      have h3' : RX tx m I0 L0 u0 b st (.ok ((s.wsm (s.sm + 1)).wk (s.k + 1))) I3 L3 := h3
      repeat (refine hP _ ?_; conv => whnf)
      refine r_push (n := n + 5) hC' (by rw [h3'.fct.1]; exact vp_in_nI (by omega) (by omega)) ?_
      repeat (refine hP _ ?_; conv => whnf)
      refine hK _ _ ⟨RX.mono (h3'.psh (k := 1) (Or.inr (Or.inl rfl)) hst hd) (by omega) hb, ?_, hs⟩
      intro _ _
      have f44 := h3'.fct.1
      show pushF 1 I3 46 st.length = if s.set = -1 then 0 else 1
      rw [if_neg hset]
      unfold pushF
      rw [f44, nI_clamp (by omega)]
      simp [m_upr]
  · rw [if_neg g19] at hK ⊢
    repeat (refine hP _ ?_; conv => whnf)
    refine ⟨fun _ => ?_, fun z => absurd rfl z⟩
    repeat (refine hP _ ?_; conv => whnf)
    refine r_isWordX (w := 8) (n := n + 5) hC' hX (by decide) ?_
    by_cases g9 : (tk tx s.k).1 = 9
    · rw [if_neg (by omega), if_pos g9] at hK
      rw [if_pos g9]
      repeat (refine hP _ ?_; conv => whnf)
      refine ⟨fun z => absurd z (by decide), fun _ => ?_⟩
      repeat (refine hP _ ?_; conv => whnf)
      refine r_let hC' hX hb hE hR hs hl g9 hn (fun I' L' h' => ?_)
      repeat (refine hP _ ?_; conv => whnf)
      exact hK _ _ (h'.one (by omega) hb)
    rw [if_neg g9]
    repeat (refine hP _ ?_; conv => whnf)
    refine ⟨fun _ => ?_, fun z => absurd rfl z⟩
    repeat (refine hP _ ?_; conv => whnf)
    refine r_isWordX (w := 13) (n := n + 5) hC' hX (by decide) ?_
    by_cases g14 : (tk tx s.k).1 = 14
    · rw [if_pos g14] at hK ⊢
      have ho : jopn tx (dep st) (.ok s) = jop2 tx (dep st) s := jop2_opn (fun w => by omega) (by split <;> omega)
      rw [ho] at hK
      repeat (refine hP _ ?_; conv => whnf)
      refine ⟨fun z => absurd z (by decide), fun _ => ?_⟩
      repeat (refine hP _ ?_; conv => whnf)
      refine r_begin (n := n + 4) hC' hX hE hR (fun I1 h1 hF1 => ?_)
      repeat (refine hP _ ?_; conv => whnf)
      cases h2 : jop2 tx (dep st) s with
      | error e =>
        rw [h2] at h1 hK
        refine r_nextE (n := n + 3) hC' hX (by omega) h1 hF1 (fun I2 L2 h2 h44 => ?_)
        repeat (refine hP _ ?_; conv => whnf)
        generalize hv : I2 30 36 &&& (1 <<< (I2 30 35 &&& 31) - 1) = v
        refine r_push (n := n + 5) hC' (by simp [m_upr]; rw [h44]; exact vp_in_nI (by omega) (by omega)) ?_
        have hpe : RX tx m I0 L0 u0 b [] (.error e) (pushF 2 (m_up I2 30 36 v)) L2 := by
          refine h2.emk ?_ Fr.rf h2.2.2.2.1 (by simp [pushF, m_upr]) (by simp [pushF, m_upr]) (fun c hc e => ⟨c, hc, by simp [pushF, m_upr]; exact e⟩)
          unfold pushF
          exact (((((Fr.rf.up rfl).up rfl).up rfl).up rfl).up rfl).up rfl
        have hp44 : pushF 2 (m_up I2 30 36 v) 30 44 = nI (st.length + 1) := by
          simp [pushF, m_upr, h44, nI_1]
        generalize pushF 2 (m_up I2 30 36 v) = I3 at hpe hp44
        have hi : I3 30 44 - 1 = nI st.length := by
          rw [hp44, show (1 : Int32) = nI 1 from rfl, sub_nI (by omega)]; rfl
        repeat (refine hP _ ?_; conv => whnf)
        rw [hi]
        refine ⟨vp_in_nI (by omega) (by omega), ?_⟩
        rw [nI_clamp (by omega)]
        have hpe2 : RX tx m I0 L0 u0 b [] (.error e) (m_up I3 48 st.length (I3 30 36)) L2 :=
          hpe.emk (Fr.rf.up rfl) Fr.rf hpe.2.2.2.1 (by simp [m_upr]) (by simp [m_upr]) (fun c hc e => ⟨c, hc, by simp [m_upr]; exact e⟩)
        have hi2 : m_up I3 48 st.length (I3 30 36) 30 44 - 1 = nI st.length := by
          rw [show m_up I3 48 st.length (I3 30 36) 30 44 = I3 30 44 by simp [m_upr]]
          exact hi
        repeat (refine hP _ ?_; conv => whnf)
        rw [hi2]
        refine r_emitX (k := 3) (a := 0) (c := 0) (n := n + 5) hC' hpe2 (by omega) (fun q e => by cases e) rfl (fun w I4 _ h4 => ?_)
        repeat (refine hP _ ?_; conv => whnf)
        refine ⟨vp_in_nI (by omega) (by omega), ?_⟩
        rw [nI_clamp (by omega)]
        repeat (refine hP _ ?_; conv => whnf)
        have h4' : RX tx m I0 L0 u0 (b + 1) [] (.error e) I4 L2 := h4
        exact hK _ _ (h4'.emk (st' := []) (Fr.rf.up rfl) Fr.rf hb (by simp [m_upr]) (by simp [m_upr]) (fun c hc e => ⟨c, by omega, by simp [m_upr]; exact e⟩))
      | ok s2 =>
        rw [h2] at h1 hK
        obtain ⟨rfl, hset, hsm, hdd⟩ := jop2_ok h2
        have hbits : bitsB s.nm.length s.set := hs.resolve_left hset
        refine r_nextX (n := n + 3) hC' h1 (by show (tk tx s.k).1 < 27; omega) (fun I3 L3 h3 => ?_)
        have h3' : RX tx m I0 L0 u0 b st (.ok ((s.wsm (s.sm + 1)).wk (s.k + 1))) I3 L3 := h3
        obtain ⟨f44, f36, f33, f35, fn, fst⟩ := h3'.fct
        have f36' : I3 30 36 = s.set := f36
        have f35' : I3 30 35 = nI s.nm.length := f35
        have fn' : s.nm.length ≤ 20 := fn
        have hcdb := h3'.cdb
        have hcdb' : s.cd.length ≤ b := hcdb
        repeat (refine hP _ ?_; conv => whnf)
        rw [f36', f35', hbits.mask_id (by omega)]
        refine r_push (n := n + 5) hC' (by simp [m_upr]; rw [f44]; exact vp_in_nI (by omega) (by omega)) ?_
        have hi : pushF 2 (m_up I3 30 36 s.set) 30 44 - 1 = nI st.length := by
          rw [show pushF 2 (m_up I3 30 36 s.set) 30 44 = nI (st.length + 1) by simp [pushF, m_upr, f44, nI_1], show (1 : Int32) = nI 1 from rfl, sub_nI (by omega)]; rfl
        have h36 : pushF 2 (m_up I3 30 36 s.set) 30 36 = s.set := by simp [pushF, m_upr]
        repeat (refine hP _ ?_; conv => whnf)
        rw [hi]
        refine ⟨vp_in_nI (by omega) (by omega), ?_⟩
        rw [nI_clamp (by omega), h36]
        have hi2 : m_up (pushF 2 (m_up I3 30 36 s.set)) 48 st.length s.set 30 44 - 1 = nI st.length := by
          rw [show m_up (pushF 2 (m_up I3 30 36 s.set)) 48 st.length s.set 30 44 = pushF 2 (m_up I3 30 36 s.set) 30 44 by simp [m_upr]]
          exact hi
        have hi3 : m_up (pushF 2 (m_up I3 30 36 s.set)) 48 st.length s.set 30 33 = nI s.cd.length := by
          simp [pushF, m_upr]
          exact f33
        repeat (refine hP _ ?_; conv => whnf)
        rw [hi2]
        refine r_emit (n := n + 5) hC' (by rw [hi3]; exact vp_in_nI (by omega) (by omega)) ?_
        rw [hi3]
        repeat (refine hP _ ?_; conv => whnf)
        refine ⟨vp_in_nI (by omega) (by omega), ?_⟩
        rw [nI_clamp (by omega), nI_1, show (1 : Int32) = nI 1 from rfl, sub_nI (by omega), show s.cd.length + 1 - 1 = s.cd.length from rfl]
        have h5 := h3'.psi (by omega) hst hd hbits
        repeat (refine hP _ ?_; conv => whnf)
        refine hK _ _ ⟨RX.mono h5 (by omega) hb, fun z => absurd rfl z, hs⟩
    rw [if_neg g14] at hK ⊢
    rw [if_neg g9] at hK
    repeat (refine hP _ ?_; conv => whnf)
    refine ⟨fun _ => ?_, fun z => absurd rfl z⟩
    repeat (refine hP _ ?_; conv => whnf)
    refine r_isWordX (w := 11) (n := n + 5) hC' hX (by decide) ?_
    by_cases g12 : (tk tx s.k).1 = 12
    · rw [if_pos g12] at hK ⊢
      repeat (refine hP _ ?_; conv => whnf)
      refine ⟨fun z => absurd z (by decide), fun _ => ?_⟩
      repeat (refine hP _ ?_; conv => whnf)
      refine r_yieldStmt hC' hX hb hE hR hs hl g12 hn (fun I' L' h' => ?_)
      repeat (refine hP _ ?_; conv => whnf)
      exact hK _ _ (h'.one (by omega) hb)
    rw [if_neg g12] at hK ⊢
    repeat (refine hP _ ?_; conv => whnf)
    refine ⟨fun _ => ?_, fun z => absurd rfl z⟩
    repeat (refine hP _ ?_; conv => whnf)
    refine r_isSimple (n := n + 5) hC' ?_
    rw [isSi_k hX.ok.1.1.1 (tk_29 tx _) (tk_pos tx _)]
    by_cases gb : jbgn (tk tx s.k).1 = true
    · rw [if_pos gb] at hK
      have gs := jbgn_smp gb g19 g14 g9 g12
      rw [if_pos gs]
      repeat (refine hP _ ?_; conv => whnf)
      refine ⟨fun z => absurd z (by decide), fun _ => ?_⟩
      repeat (refine hP _ ?_; conv => whnf)
      refine r_simple hC' hX hb hE hR hs hl gs hn (fun I' L' h' => ?_)
      repeat (refine hP _ ?_; conv => whnf)
      exact hK _ _ (h'.one (by omega) hb)
    · rw [if_neg gb] at hK
      rw [if_neg (fun z => gb (by simp [jbgn]; omega))]
      repeat (refine hP _ ?_; conv => whnf)
      refine ⟨fun _ => ?_, fun z => absurd rfl z⟩
      repeat (refine hP _ ?_; conv => whnf)
      refine r_cannotX (n := n + 4) hC' hX (fun I' h' => ?_)
      repeat (refine hP _ ?_; conv => whnf)
      refine hK _ _ (POut.one (b := b) ?_ (by omega) hb)
      exact h'.out_f (a := 2) (r := .ok s)
