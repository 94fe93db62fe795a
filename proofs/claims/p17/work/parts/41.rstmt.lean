/-! ===== the reference judges a stmt that has no other in it ===== -/
def jop2 (tx : List Nat) (d : Nat) (s : JSt) : JRs := if s.set = -1 then jfal tx 9 (.ok s) else if 120 ≤ s.sm ∨ 10 < d then jfal tx 12 (.ok s) else .ok (s.wsm (s.sm + 1))
def S_bg : Nat → Nat → Bool := fun p q => p == 30 && (q == 8 || q == 9 || q == 26)
theorem S_bg_st {p q : Nat} (h : S_st p q = false) : S_bg p q = false := by
  unfold S_st at h
  unfold S_bg
  by_cases g : p = 30
  · subst g
    simp at h ⊢
    omega
  · simp [g]
/-- is a list on top, or can one go on -/
def Rch (st : List Fm) (s : JSt) : Prop := match st with
  | [] => False
  | x :: _ => x.1 = 0 ∨ x.1 = 1 ∨ ¬ s.set = -1
theorem RS.stm {tx : List Nat} {m : Nat} {u0 : JU} {st : List Fm} {s : JSt} {I : Nat → Nat → Int32} {L : Nat → Nat → Int64} (h : RS tx m u0 st s I L) (hs : s.sm < 120) : RS tx m u0 st (s.wsm (s.sm + 1)) (m_up I 30 26 (nI (s.sm + 1))) L := by
  obtain ⟨⟨q1, q2, q3⟩, ⟨b1, b2⟩, ⟨c1, c2, c3⟩, ⟨d1, d2, d3, d4⟩, e, ⟨g1, g2, g3, g4, g5⟩⟩ := h
  refine ⟨⟨?_, ?_, q3⟩, ⟨?_, hs⟩, ⟨?_, ?_, c3⟩, ⟨?_, d2, d3, d4⟩, ?_, ?_, ?_, g3, g4, FrS.fr (fun p j h1 h2 => ?_) st _ g5⟩
  · exact q1.fr (by simp [m_upr]) (by simp [m_upr]) (by simp [m_upr]) (by simp [m_upr]) rfl
  · simp [m_upr]; exact q2
  · simp [m_upr]; rfl
  · simp [m_upr]; exact c1
  · simp [m_upr]; exact c2
  · simp [m_upr]; exact d1
  · unfold RCd at e ⊢
    refine ⟨by simp [m_upr]; exact e.1, fun j y hy => ?_⟩
    simpa [m_upr] using e.2 j y hy
  · simp [m_upr]; exact g1
  · simp [m_upr]; exact g2
  · have : ¬ p = 30 := by omega
    simp [m_upr, this]
theorem r_begin {XL : Nat} {XS : Nat → Int32} {n : Nat} {C : mC} {I : Nat → Nat → Int32} {L : Nat → Nat → Int64} {K : mK} {tx : List Nat} {m : Nat} {I0 : Nat → Nat → Int32} {L0 : Nat → Nat → Int64} {u0 : JU} {b : Nat} {st : List Fm} {s : JSt} (hC : m_Ge XL XS (n + 2) C) (hX : RX tx m I0 L0 u0 b st (.ok s) I L) (hE : Ends st s I) (hR : Rch st s) (hK : ∀ I', RX tx m I0 L0 u0 b st (jop2 tx (dep st) s) I' L → Fr S_bg I I' → K none (m_SH, I', L)) : C 131 [.ref 30] (m_SH, I, L) K := by
  cases st with
  | nil => exact hR.elim
  | cons x r =>
    obtain ⟨f44, f36, f33, f35, fn, fst⟩ := hX.fct
    have hlen : (x :: r).length = r.length + 1 := rfl
    have fi : I 30 44 - 1 = nI r.length := by
      rw [f44, hlen, show (1 : Int32) = nI 1 from rfl, sub_nI (by omega)]
      rfl
    obtain ⟨⟨q1, q2, q3⟩, ⟨b1, b2⟩, ⟨c1, c2, c3⟩, ⟨d1, d2, d3, d4⟩, e, ⟨g1, g2, g3, g4, ⟨a1, a2, a3, a4, a5⟩⟩⟩ := hX.ok
    refine e_X9_begin hC (Nat.le_of_ble_eq_true rfl) ?_
    intro C' hC' P hP
    -- behind the first test
    have rest : ¬ s.set = -1 → P (27, [some (.ref 30)], [], (m_SH, I, L), 0, 0) := by
      intro hset
      unfold jop2 at hK
      rw [if_neg hset] at hK
      have h26 : I 30 26 + 1 = nI (s.sm + 1) := by rw [b1, nI_1]
      have bad : (120 ≤ s.sm ∨ 10 < dep (x :: r)) → P (55, [some (.ref 30)], [], (m_SH, m_up I 30 26 (nI (s.sm + 1)), L), 0, 0) := by
        intro h12
        rw [if_pos h12] at hK
        repeat (refine hP _ ?_; conv => whnf)
        refine r_wrong hC' ?_
        repeat (refine hP _ ?_; conv => whnf)
        have hf : RX tx m I0 L0 u0 b (x :: r) (jfal tx 12 (.ok s)) (wrF (nI 12) (m_up I 30 26 (nI (s.sm + 1)) 30 5) (m_up I 30 26 (nI (s.sm + 1)))) L := by
          have e1 : wrF (nI 12) (m_up I 30 26 (nI (s.sm + 1)) 30 5) (m_up I 30 26 (nI (s.sm + 1))) = m_up (m_up (m_up I 30 26 (nI (s.sm + 1))) 30 8 (nI 12)) 30 9 (m_up I 30 26 (nI (s.sm + 1)) 30 5) := by
            unfold wrF
            rw [if_pos (by simp [m_upr, q2])]
          rw [e1]
          refine hX.mk (((Fr.rf.up rfl).up rfl).up rfl) Fr.rf hX.2.2.2.1 ?_
          show RE b _ _
          refine ⟨by simp, by simp, by simp [m_upr], by simp [m_upr, q1.1.1], s.cd.length, hX.cdb, by simp [m_upr, f33]⟩
        refine hK _ hf ?_
        unfold wrF
        split
        · exact ((Fr.rf.up rfl).up rfl).up rfl
        · exact Fr.rf.up rfl
      have good : ¬ (120 ≤ s.sm ∨ 10 < dep (x :: r)) → K none (m_SH, m_up I 30 26 (nI (s.sm + 1)), L) := by
        intro h12
        rw [if_neg h12] at hK
        refine hK _ (hX.mk (Fr.rf.up rfl) Fr.rf hX.2.2.2.1 ⟨hX.ok.stm (by omega), hX.cdb⟩) (Fr.rf.up rfl)
      repeat (refine hP _ ?_; conv => whnf)
      rw [h26]
      rw [show m_up I 30 26 (nI (s.sm + 1)) 30 26 = nI (s.sm + 1) by simp [m_upr]]
      refine ⟨fun z => ?_, fun z => ?_⟩
      · have := (nI_ltI (a := 120) (b := s.sm + 1) (by omega) (by omega)).mp z
        exact bad (Or.inl (by omega))
      · have hz : ¬ 120 < s.sm + 1 := fun y => z (nI_lt (a := 120) y (by omega))
        repeat (refine hP _ ?_; conv => whnf)
        rw [show m_up I 30 26 (nI (s.sm + 1)) 30 45 = nI (dep (x :: r)) by simp [m_upr, g2]]
        refine ⟨fun y => ?_, fun y => ?_⟩
        · have := (nI_ltI (a := 10) (b := dep (x :: r)) (by omega) (by omega)).mp y
          exact bad (Or.inr this)
        · have hy : ¬ 10 < dep (x :: r) := fun w => y (nI_lt (a := 10) w (by omega))
          repeat (refine hP _ ?_; conv => whnf)
          exact good (by omega)
    have hli : isLiF I = if x.1 = 0 ∨ x.1 = 1 then 1 else 0 := by
      unfold isLiF
      rw [fi, nI_clamp (by omega), a1.2]
      have e0 := nI_eq (a := x.1) (b := 0) (by omega) (by omega)
      have e1 := nI_eq (a := x.1) (b := 1) (by omega) (by omega)
      by_cases h0 : x.1 = 0
      · rw [if_pos (show nI x.1 = 0 from e0.mpr h0), if_pos (Or.inl h0)]
      · rw [if_neg (show ¬ nI x.1 = 0 from fun z => h0 (e0.mp z))]
        by_cases h1 : x.1 = 1
        · rw [if_pos (show nI x.1 = 1 from e1.mpr h1), if_pos (Or.inr h1)]
        · rw [if_neg (show ¬ nI x.1 = 1 from fun z => h1 (e1.mp z)), if_neg (by omega)]
    repeat (refine hP _ ?_; conv => whnf)
    refine r_isList hC' (by rw [fi]; exact vp_in_nI (by omega) (by omega)) ?_
    rw [hli]
    by_cases hl : x.1 = 0 ∨ x.1 = 1
    · rw [if_pos hl]
      repeat (refine hP _ ?_; conv => whnf)
      refine ⟨fun z => absurd z (by decide), fun _ => ?_⟩
      repeat (refine hP _ ?_; conv => whnf)
      rw [fi]
      refine ⟨vp_in_nI (by omega) (by omega), ?_⟩
      rw [nI_clamp (by omega), hE (by omega) (by omega)]
      repeat (refine hP _ ?_; conv => whnf)
      refine ⟨fun z => ?_, fun z => ?_⟩
      · have hset : s.set = -1 := by
          by_cases y : s.set = -1
          · exact y
          · rw [if_neg y] at z; exact absurd z (by decide)
        unfold jop2 at hK
        rw [if_pos hset] at hK
        repeat (refine hP _ ?_; conv => whnf)
        refine r_wrong hC' ?_
        have h' : RX tx m I0 L0 u0 b (x :: r) (jfal tx 9 (.ok s)) (wrF 9 (I 30 5) I) L := hX.fail (a := 9) (by decide) (by decide) (by rw [if_neg (fun z => absurd z.1 (by decide))]; rfl)
        have hFb : Fr S_bg I (wrF 9 (I 30 5) I) := by
          unfold wrF
          rw [if_pos q2]
          exact (Fr.rf.up rfl).up rfl
        generalize wrF 9 (I 30 5) I = I' at h' hFb
        have hst : ∀ v, wrF 12 v (m_up I' 30 26 (I' 30 26 + 1)) = m_up I' 30 26 (I' 30 26 + 1) := by
          intro v
          unfold wrF
          rw [if_neg]
          simp [m_upr]
          exact h'.flt_er.2
        have hfin : K none (m_SH, m_up I' 30 26 (I' 30 26 + 1), L) := by
          refine hK _ ?_ (hFb.up rfl)
          obtain ⟨w1, w2, w3, w4, c, w5, w6⟩ := h'.er
          refine h'.mk (Fr.rf.up rfl) Fr.rf h'.2.2.2.1 ?_
          exact ⟨w1, w2, by simpa [m_upr] using w3, by simpa [m_upr] using w4, c, w5, by simpa [m_upr] using w6⟩
        repeat (refine hP _ ?_; conv => whnf)
        refine ⟨fun _ => ?_, fun _ => ?_⟩
        · repeat (refine hP _ ?_; conv => whnf)
          refine r_wrong hC' ?_
          rw [hst]
          repeat (refine hP _ ?_; conv => whnf)
          exact hfin
        · repeat (refine hP _ ?_; conv => whnf)
          refine ⟨fun _ => ?_, fun _ => ?_⟩
          · repeat (refine hP _ ?_; conv => whnf)
            refine r_wrong hC' ?_
            rw [hst]
            repeat (refine hP _ ?_; conv => whnf)
            exact hfin
          · repeat (refine hP _ ?_; conv => whnf)
            exact hfin
      · exact rest (fun y => z (by rw [if_pos y]))
    · rw [if_neg hl]
      repeat (refine hP _ ?_; conv => whnf)
      refine ⟨fun _ => ?_, fun z => absurd rfl z⟩
      refine rest ?_
      rcases hR with h | h | h
      · exact absurd (Or.inl h) hl
      · exact absurd (Or.inr h) hl
      · exact h
/-! what a step leaves -/
def POut (tx : List Nat) (m : Nat) (I0 : Nat → Nat → Int32) (L0 : Nat → Nat → Int64) (u0 : JU) (b : Nat) (st : List Fm) (r : JRs) (I : Nat → Nat → Int32) (L : Nat → Nat → Int64) : Prop := match r with
  | .error e => RX tx m I0 L0 u0 b [] (.error e) I L
  | .ok s => RX tx m I0 L0 u0 b (thr tx st s).2 (.ok (thr tx st s).1) I L ∧ Ends (thr tx st s).2 (thr tx st s).1 I ∧ SetOk (thr tx st s).1
theorem RX.emt {tx : List Nat} {m : Nat} {I0 : Nat → Nat → Int32} {L0 : Nat → Nat → Int64} {u0 : JU} {b : Nat} {st : List Fm} {r : JRs} {I : Nat → Nat → Int32} {L : Nat → Nat → Int64} {k a c ka kb kc : Int32} (h : RX tx m I0 L0 u0 b st r I L) (hb : b + 1 ≤ 600) (hl : ∀ s, r = .ok s → s.cd.length < 260) (he : mcd (k, a, c) = (ka, kb, kc)) : RX tx m I0 L0 u0 (b + 1) st (jemt k a c r) (emF ka kb kc I) L := by
  have hFr : Fr S_st I (emF ka kb kc I) := (((Fr.rf.up rfl).up rfl).up rfl).up rfl
  have hbb := h.2.2.2.1
  cases r with
  | error e =>
    obtain ⟨w1, w2, w3, w4, q, w5, w6⟩ := h.er
    refine h.mk hFr Fr.rf hb ?_
    exact ⟨w1, w2, by simpa [emF, m_upr] using w3, by simpa [emF, m_upr] using w4, q + 1, by omega, by simp [emF, m_upr, w6, nI_1]⟩
  | ok s =>
    have hlt := hl s rfl
    have hcdb := h.cdb
    obtain ⟨⟨q1, q2, q3⟩, ⟨b1, b2⟩, ⟨c1, c2, c3⟩, ⟨d1, d2, d3, d4⟩, e, ⟨g1, g2, g3, g4, g5⟩⟩ := h.ok
    have hu : jemt k a c (.ok s) = .ok (semt k a c s) := by
      simp only [jemt, jb]
      rw [if_pos hlt]
      rfl
    rw [hu]
    refine h.mk hFr Fr.rf hb ⟨⟨⟨?_, ?_, q3⟩, ⟨?_, b2⟩, ⟨?_, ?_, c3⟩, ⟨?_, d2, d3, d4⟩, e.emt (by omega) he, ?_, ?_, g3, g4, ?_⟩, ?_⟩
    · exact q1.fr (by simp [emF, m_upr]) (by simp [emF, m_upr]) (by simp [emF, m_upr]) (by simp [emF, m_upr]) rfl
    · simp [emF, m_upr]; exact q2
    · simp [emF, m_upr]; exact b1
    · simp [emF, m_upr]; exact c1
    · simp [emF, m_upr]; exact c2
    · simp [emF, m_upr]; exact d1
    · simp [emF, m_upr]; exact g1
    · simp [emF, m_upr]; exact g2
    · refine FrS.mono (fun i k hq => kAt_app hq) st _ _ (Nat.le_refl _) (FrS.fr (fun p j h1 h2 => ?_) st _ g5)
      have : ¬ p = 30 := by omega
      have : ¬ p = 41 := by omega
      have : ¬ p = 42 := by omega
      have : ¬ p = 43 := by omega
      simp [emF, m_upr, *]
    · show (s.cd ++ [_]).length ≤ b + 1
      rw [List.length_append, List.length_singleton]; omega
theorem RX.acts {tx : List Nat} {m : Nat} {I0 : Nat → Nat → Int32} {L0 : Nat → Nat → Int64} {u0 : JU} {b : Nat} {st : List Fm} {r : JRs} {I : Nat → Nat → Int32} {L : Nat → Nat → Int64} (h : RX tx m I0 L0 u0 b st r I L) : vp_in (I 30 33) 700 := by
  have hb := h.2.2.2.1
  cases r with
  | error e =>
    obtain ⟨w1, w2, w3, w4, q, w5, w6⟩ := h.er
    rw [w6]; exact vp_in_nI (by omega) (by omega)
  | ok s =>
    have := h.cdb
    rw [h.fct.2.2.1]; exact vp_in_nI (by omega) (by omega)
theorem r_emitX {XL : Nat} {XS : Nat → Int32} {n : Nat} {C : mC} {I : Nat → Nat → Int32} {L : Nat → Nat → Int64} {K : mK} {tx : List Nat} {m : Nat} {I0 : Nat → Nat → Int32} {L0 : Nat → Nat → Int64} {u0 : JU} {b : Nat} {st : List Fm} {r : JRs} {k a c ka kb kc : Int32} (hC : m_Ge XL XS (n + 1) C) (hX : RX tx m I0 L0 u0 b st r I L) (hb : b + 1 ≤ 600) (hl : ∀ s, r = .ok s → s.cd.length < 260) (he : mcd (k, a, c) = (ka, kb, kc)) (hK : ∀ (v : Int32) I', (∀ s, r = .ok s → v = nI s.cd.length) → RX tx m I0 L0 u0 (b + 1) st (jemt k a c r) I' L → K (some (.int v)) (m_SH, I', L)) : C 125 [.ref 30, .int ka, .int kb, .int kc] (m_SH, I, L) K := by
  refine r_emit hC hX.acts (hK _ _ (fun s hs => ?_) (hX.emt hb hl he))
  subst hs
  have hcdb := hX.cdb
  have hb6 := hX.2.2.2.1
  rw [hX.fct.2.2.1, nI_1, show (1 : Int32) = nI 1 from rfl, sub_nI (by omega)]
  rfl
theorem RX.sst {tx : List Nat} {m : Nat} {I0 : Nat → Nat → Int32} {L0 : Nat → Nat → Int64} {u0 : JU} {b : Nat} {st : List Fm} {r : JRs} {I : Nat → Nat → Int32} {L : Nat → Nat → Int64} {x y : Int32} (h : RX tx m I0 L0 u0 b st r I L) (hxy : ∀ s, r = .ok s → x = y) : RX tx m I0 L0 u0 b st (jsst y r) (m_up I 30 36 x) L := by
  have hbb := h.2.2.2.1
  cases r with
  | error e =>
    obtain ⟨w1, w2, w3, w4, q, w5, w6⟩ := h.er
    exact h.mk (Fr.rf.up rfl) Fr.rf hbb ⟨w1, w2, by simpa [m_upr] using w3, by simpa [m_upr] using w4, q, w5, by simpa [m_upr] using w6⟩
  | ok s =>
    have hcdb := h.cdb
    have hx := hxy s rfl
    subst hx
    obtain ⟨⟨q1, q2, q3⟩, ⟨b1, b2⟩, ⟨c1, c2, c3⟩, ⟨d1, d2, d3, d4⟩, e, ⟨g1, g2, g3, g4, g5⟩⟩ := h.ok
    refine h.mk (Fr.rf.up rfl) Fr.rf hbb ⟨⟨⟨?_, ?_, q3⟩, ⟨?_, b2⟩, ⟨?_, ?_, c3⟩, ⟨?_, d2, d3, d4⟩, ?_, ?_, ?_, g3, g4, ?_⟩, hcdb⟩
    · exact q1.fr (by simp [m_upr]) (by simp [m_upr]) (by simp [m_upr]) (by simp [m_upr]) rfl
    · simp [m_upr]; exact q2
    · simp [m_upr]; exact b1
    · simp [m_upr]; rfl
    · simp [m_upr]; exact c2
    · simp [m_upr]; exact d1
    · unfold RCd at e ⊢
      refine ⟨by simp [m_upr]; exact e.1, fun j y hy => ?_⟩
      simpa [m_upr] using e.2 j y hy
    · simp [m_upr]; exact g1
    · simp [m_upr]; exact g2
    · refine FrS.fr (fun p j h1 h2 => ?_) st _ g5
      have : ¬ p = 30 := by omega
      simp [m_upr, this]
theorem r_deadX {XL : Nat} {XS : Nat → Int32} {n : Nat} {C : mC} {I : Nat → Nat → Int32} {L : Nat → Nat → Int64} {K : mK} {tx : List Nat} {m : Nat} {I0 : Nat → Nat → Int32} {L0 : Nat → Nat → Int64} {u0 : JU} {b : Nat} {st : List Fm} {r : JRs} (hC : m_Ge XL XS (n + 1) C) (hX : RX tx m I0 L0 u0 b st r I L) (hK : ∀ I', RX tx m I0 L0 u0 b st (jsst (-1) r) I' L → K none (m_SH, I', L)) : C 132 [.ref 30] (m_SH, I, L) K :=
  r_dead hC (hK _ (hX.sst (fun _ _ => rfl)))
theorem r_inScopeX {XL : Nat} {XS : Nat → Int32} {n : Nat} {C : mC} {I : Nat → Nat → Int32} {L : Nat → Nat → Int64} {K : mK} {tx : List Nat} {m : Nat} {I0 : Nat → Nat → Int32} {L0 : Nat → Nat → Int64} {u0 : JU} {b : Nat} {st : List Fm} {s : JSt} (hC : m_Ge XL XS (n + 1) C) (hX : RX tx m I0 L0 u0 b st (.ok s) I L) (hk : (tk tx s.k).1 = 16) (hK : K (some (.int (jfnd tx (.ok s)))) (m_SH, I, L)) : C 126 [.ref 30, .long (L 30 6)] (m_SH, I, L) K := by
  obtain ⟨d1, d2, d3, d4⟩ := hX.ok.2.2.2.1
  have hv : L 30 6 = lN (pkB 128 (tk tx s.k).2.2.1) := (hX.ok.1.1.1.2.2.2.2.1 hk).2
  have hcs := tk_nm hX.1.1 (Or.inl hk)
  refine r_inScope hC d1 d2 ?_
  rw [hv]
  have := srch_idx (f := fun j => L 44 j == lN (pkB 128 (tk tx s.k).2.2.1)) (cs := (tk tx s.k).2.2.1) s.nm 0 (fun j hj => by
    simp only [Nat.zero_add]
    rw [d3 j hj]
    refine beq_of_iff (nm_inj7 (d4 _ ?_) hcs)
    rw [List.getD_eq_getElem?_getD, List.getElem?_eq_getElem hj]
    exact List.getElem_mem _)
  rw [this, Nat.zero_add]
  exact hK
