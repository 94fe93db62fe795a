/-! ===== the reference reads what is switched over ===== -/
theorem RX.val {tx : List Nat} {m : Nat} {u0 : JU} {b : Nat} {x v : Int32} {s : JSt} {I : Nat → Nat → Int32} {L : Nat → Nat → Int64} (h : RX tx m I L u0 b [] (.ok ((s.wset x).wu u0)) I L) : RX tx m (m_up I 30 16 v) L ((v, u0.1.2), u0.2) b [] (.ok ((s.wset x).wu ((v, u0.1.2), u0.2))) (m_up I 30 16 v) L := by
  have hcdb := h.cdb
  obtain ⟨⟨q1, q2, q3⟩, ⟨b1, b2⟩, ⟨c1, c2, c3⟩, ⟨d1, d2, d3, d4⟩, ⟨e1, e2⟩, ⟨g1, g2, g3, g4, g5⟩⟩ := h.ok
  have hF : Fr (fun p q => p == 30 && q == 16) I (m_up I 30 16 v) := Fr.rf.up rfl
  refine ⟨⟨h.1.1, h.1.2.1, h.1.2.2.1, h.1.2.2.2.1.fr hF rfl (fun _ => rfl), h.1.2.2.2.2⟩, ⟨Fr.rf, h.2.1.2.of (fun j => hF 46 j rfl)⟩, Fr.rf, h.2.2.2.1, ⟨⟨?_, ?_, q3⟩, ⟨?_, b2⟩, ⟨?_, ?_, rfl⟩, ⟨?_, d2, d3, d4⟩, ⟨?_, fun j y hy => ?_⟩, ?_, ?_, g3, g4, trivial⟩, hcdb⟩
  · exact q1.fr (hF 30 3 rfl) (hF 30 4 rfl) (hF 30 5 rfl) (hF 30 7 rfl) rfl
  · rw [hF 30 8 rfl]; exact q2
  · rw [hF 30 26 rfl]; exact b1
  · rw [hF 30 36 rfl]; exact c1
  · simp [m_upr]; rfl
  · rw [hF 30 35 rfl]; exact d1
  · rw [hF 30 33 rfl]; exact e1
  · rw [hF 41 j rfl, hF 42 j rfl, hF 43 j rfl]; exact e2 j y hy
  · rw [hF 30 44 rfl]; exact g1
  · rw [hF 30 45 rfl]; exact g2
theorem RH.val {tx : List Nat} {m : Nat} {I0 : Nat → Nat → Int32} {L0 : Nat → Nat → Int64} {p : Nat} {s : JSt} {v : Int32} {I : Nat → Nat → Int32} {L : Nat → Nat → Int64} (h : RH tx m I0 L0 false p (.ok s) I L) : RH tx m I0 L0 false p (.ok (s.wval v)) (m_up I 30 16 v) L := by
  obtain ⟨u0, x, hX⟩ := h.2.1
  have hF : Fr (fun p q => p == 30 && q == 16) I (m_up I 30 16 v) := Fr.rf.up rfl
  obtain ⟨⟨a1, a2, a3⟩, b, ⟨c1, c2, c3, c4⟩, ⟨d1, d2, d3⟩, f1, f2, f3, f4, f5, f6, f7⟩ := h.2.2
  refine ⟨⟨h.1.1.tr (Fr.rf.up rfl), h.1.2⟩, ⟨_, x, hX.val (s := s) (v := v)⟩, ⟨?_, a2, fun e y hy => ?_⟩, fun q => absurd q (by decide), ⟨?_, c2, c3, fun j hj => ?_⟩, ⟨?_, d2, fun j y hy => ?_⟩, ?_, ?_, f3, ?_, f5, fun q1 q2 => ?_, f7⟩
  · rw [hF 30 12 rfl]; exact a1
  · rw [hF 34 e rfl]; exact a3 e y hy
  · rw [hF 30 19 rfl]; exact c1
  · rw [hF 36 j rfl]; exact c4 j hj
  · rw [hF 30 21 rfl]; exact d1
  · rw [hF 37 j rfl, hF 38 j rfl, hF 40 j rfl]
    exact d3 j y hy
  · rw [hF 30 27 rfl]; exact f1
  · rw [hF 30 28 rfl]; exact f2
  · rw [hF 30 29 rfl]; exact f4
  · rw [hF 30 46 rfl]; exact f6 q1 q2
def S_sl : Nat → Nat → Bool := fun p q => p == 30 && (q == 17 || q == 18)
theorem S_sl_un {p q : Nat} (h : S_un p q = false) : S_sl p q = false := by
  unfold S_un at h
  unfold S_sl
  simp at h ⊢
  intro e
  have := h.1.1.1.1.1 e
  omega
theorem RU.sl {p : Nat} {s : JSt} {x y z v : Int32} {I I' : Nat → Nat → Int32} {L : Nat → Nat → Int64} (h : RU false p (s.wval v) I L) (hl : s.lbs = []) (hF : Fr S_sl I I') (hS : RSl true ((s.wval v).wsel x y z) I') : RU true p ((s.wval v).wsel x y z) I' L := by
  obtain ⟨⟨a1, a2, a3⟩, b, ⟨c1, c2, c3, c4⟩, ⟨d1, d2, d3⟩, f1, f2, f3, f4, f5, f6, f7⟩ := h
  refine ⟨⟨?_, a2, fun e y hy => ?_⟩, hS, ⟨?_, c2, c3, fun j hj => ?_⟩, ⟨?_, d2, fun j y hy => ?_⟩, ?_, ?_, f3, ?_, f5, fun q1 q2 => ?_, f7⟩
  · rw [hF 30 12 rfl]; exact a1
  · rw [hF 34 e rfl]; exact a3 e y hy
  · rw [hF 30 19 rfl]; exact c1
  · rw [hF 36 j rfl]; exact c4 j hj
  · rw [hF 30 21 rfl]; exact d1
  · have hy : s.lbs[j]? = some y := hy
    rw [hl] at hy
    cases hy
  · rw [hF 30 27 rfl]; exact f1
  · rw [hF 30 28 rfl]; exact f2
  · rw [hF 30 29 rfl]; exact f4
  · rw [hF 30 46 rfl]; exact f6 q1 q2
theorem RU.sl0 {p : Nat} {s : JSt} {I I' : Nat → Nat → Int32} {L : Nat → Nat → Int64} (h : RU false p s I L) (hF : Fr S_sl I I') : RU false p s I' L := by
  obtain ⟨⟨a1, a2, a3⟩, b, ⟨c1, c2, c3, c4⟩, ⟨d1, d2, d3⟩, f1, f2, f3, f4, f5, f6, f7⟩ := h
  refine ⟨⟨?_, a2, fun e y hy => ?_⟩, fun w => absurd w (by decide), ⟨?_, c2, c3, fun j hj => ?_⟩, ⟨?_, d2, fun j y hy => ?_⟩, ?_, ?_, f3, ?_, f5, fun q1 q2 => ?_, f7⟩
  · rw [hF 30 12 rfl]; exact a1
  · rw [hF 34 e rfl]; exact a3 e y hy
  · rw [hF 30 19 rfl]; exact c1
  · rw [hF 36 j rfl]; exact c4 j hj
  · rw [hF 30 21 rfl]; exact d1
  · rw [hF 37 j rfl, hF 38 j rfl, hF 40 j rfl]
    exact d3 j y hy
  · rw [hF 30 27 rfl]; exact f1
  · rw [hF 30 28 rfl]; exact f2
  · rw [hF 30 29 rfl]; exact f4
  · rw [hF 30 46 rfl]; exact f6 q1 q2
theorem idx_nd {ns : List (List Nat)} {c : List Nat} (hn : ns.Nodup) {i : Nat} (hi : i < ns.length) : ns.getD i [] = c ↔ ns.idxOf c = i := by
  rw [List.getD_eq_getElem?_getD, List.getElem?_eq_getElem hi]
  show ns[i] = c ↔ _
  constructor
  · intro e
    subst e
    exact List.Nodup.idxOf_getElem hn i hi
  · intro e
    subst e
    exact List.getElem_idxOf hi
theorem h_nextF {XL : Nat} {XS : Nat → Int32} {n : Nat} {C : mC} {I : Nat → Nat → Int32} {L : Nat → Nat → Int64} {K : mK} {tx : List Nat} {m : Nat} {I0 : Nat → Nat → Int32} {L0 : Nat → Nat → Int64} {hd : Bool} {p : Nat} {s : JSt} (hC : m_Ge XL XS (n + 3) C) (h : RH tx m I0 L0 hd p (.ok s) I L) (h27 : (tk tx s.k).1 < 27) (hK : ∀ I' L', RH tx m I0 L0 hd p (.ok (s.wk (s.k + 1))) I' L' → Fr S_st I I' → K none (m_SH, I', L')) : C 107 [.ref 30] (m_SH, I, L) K := by
  obtain ⟨u0, x, hX⟩ := h.2.1
  exact r_nextX hC hX h27 (fun I' L' h' => hK _ _ (h.op (s' := s.wk (s.k + 1)) h' rfl rfl rfl) h'.2.1.1)
theorem r_readHead {XL : Nat} {XS : Nat → Int32} {n : Nat} {C : mC} {I : Nat → Nat → Int32} {L : Nat → Nat → Int64} {K : mK} {tx : List Nat} {m : Nat} {I0 : Nat → Nat → Int32} {L0 : Nat → Nat → Int64} {s : JSt} (hC : m_Ge XL XS (n + 5) C) (h0 : RH tx m I0 L0 false 0 (.ok s) I L) (hl : s.lbs = []) (hnd : (s.ens.map (fun x => x.1)).Nodup) (hK : ∀ I' L', RH tx m I0 L0 true 0 (jsel tx (.ok s)) I' L' → K none (m_SH, I', L')) : C 121 [.ref 30] (m_SH, I, L) K := by
  have hj : jsel tx (.ok s) = if ¬ ((tk tx s.k).1 = 2 ∨ (tk tx s.k).1 = 3) then jfal tx 2 (.ok s) else jxpc tx 19 (jadv (jsl2 tx ((s.wval (if (tk tx s.k).1 = 3 then 1 else 0)).wk (s.k + 1)))) := rfl
  rw [hj] at hK
  refine e_X9_readHead hC (Nat.le_of_ble_eq_true rfl) ?_
  intro C' hC' P hP
  have s21 : (tk tx s.k).1 = 2 ∨ (tk tx s.k).1 = 3 → P (21, [some (.ref 30), none], [], (m_SH, I, L), 0, 0) := by
    intro g
    rw [if_neg (fun w => w g)] at hK
    repeat (refine hP _ ?_; conv => whnf)
    refine h_isWord (w := 2) (n := n + 3) hC' h0 (by decide) ?_
    have hv01 : (if (tk tx s.k).1 = 3 then (1 : Int32) else 0) = 0 ∨ (if (tk tx s.k).1 = 3 then (1 : Int32) else 0) = 1 := by
      split
      · exact Or.inr rfl
      · exact Or.inl rfl
    have e3 : (if (tk tx s.k).1 = 2 + 1 then (1 : Int32) else 0) = (if (tk tx s.k).1 = 3 then (1 : Int32) else 0) := rfl
    rw [e3]
    generalize (if (tk tx s.k).1 = 3 then (1 : Int32) else 0) = v at hv01 hK
    repeat (refine hP _ ?_; conv => whnf)
    refine ⟨hv01, ?_⟩
    repeat (refine hP _ ?_; conv => whnf)
    refine h_nextF (n := n + 1) hC' (h0.val (v := v)) (by show (tk tx s.k).1 < 27; omega) (fun I1 L1 h1 hF1 => ?_)
    have h1' : RH tx m I0 L0 false 0 (.ok ((s.wk (s.k + 1)).wval v)) I1 L1 := h1
    have hK' : ∀ I' L', RH tx m I0 L0 true 0 (jxpc tx 19 (jadv (jsl2 tx ((s.wk (s.k + 1)).wval v)))) I' L' → K none (m_SH, I', L') := hK
    have hl' : (s.wk (s.k + 1)).lbs = [] := hl
    have hnd' : ((s.wk (s.k + 1)).ens.map (fun x => x.1)).Nodup := hnd
    have hval16 : I1 30 16 = v := by
      rw [hF1 30 16 rfl]
      simp [m_upr]
    clear h1 hK hl hnd hj h0 g e3 hF1
    generalize s.wk (s.k + 1) = q at h1' hK' hl' hnd'
    have fin : ∀ (x y z : Int32) J, RH tx m I0 L0 true 0 (.ok ((q.wval v).wsel x y z)) J L1 → (tk tx q.k).1 < 27 → jsl2 tx (q.wval v) = .ok ((q.wval v).wsel x y z) → ∀ l1, P (148, [some (.ref 30), l1], [], (m_SH, J, L1), 0, 0) := by
      intro x y z J hJ h27 e1 l1
      rw [e1] at hK'
      repeat (refine hP _ ?_; conv => whnf)
      refine h_next (n := n + 1) hC' hJ h27 (fun I2 L2 h2 => ?_)
      repeat (refine hP _ ?_; conv => whnf)
      refine h_wantsSign (k := 19) hC' h2 (by decide) (by decide) (fun I3 L3 h3 => ?_)
      repeat (refine hP _ ?_; conv => whnf)
      exact hK' _ _ h3
    have hns : jsl2 tx (q.wval v) = if (tk tx q.k).1 = 4 then .ok ((q.wval v).wsel 0 q.chs q.cns) else if (tk tx q.k).1 = 5 then .ok ((q.wval v).wsel 1 q.chs q.cns) else if (tk tx q.k).1 = 16 then (if jnam tx q ∈ q.ens.map (fun x => x.1) then .ok ((q.wval v).wsel 2 (nI (enx q (jnam tx q))) (nI (enl q (enx q (jnam tx q))))) else jfal tx 5 (.ok (q.wval v))) else jfal tx 2 (.ok (q.wval v)) := rfl
    have hkq : (q.wval v).k = q.k := rfl
    have s50 : (tk tx q.k).1 = 4 ∨ (tk tx q.k).1 = 5 → P (50, [some (.ref 30), none], [], (m_SH, I1, L1), 0, 0) := by
      intro g45
      repeat (refine hP _ ?_; conv => whnf)
      refine h_isWord (w := 3) (n := n + 3) hC' h1' (by decide) ?_
      by_cases g4 : (tk tx q.k).1 = 4
      · rw [if_pos (show (tk tx (q.wval v).k).1 = 3 + 1 from g4)]
        repeat (refine hP _ ?_; conv => whnf)
        refine ⟨fun w => absurd w (by decide), fun _ => ?_⟩
        iterate 4 (refine hP _ ?_; conv => whnf)
        refine fin 0 q.chs q.cns _ ?_ (by omega) (by rw [hns, if_pos g4]) _
        refine h1'.un (s' := (q.wval v).wsel 0 q.chs q.cns) (Fr.rf.up rfl) Fr.rf rfl rfl rfl rfl (h1'.2.2.sl hl' (Fr.rf.up rfl) (fun _ => ⟨by simp [m_upr]; exact hval16, hv01, by simp [m_upr]; rfl, Or.inl rfl, fun w => absurd (show (0 : Int32) = 2 from w) (by decide)⟩))
      · rw [if_neg (show ¬ (tk tx (q.wval v).k).1 = 3 + 1 from g4)]
        have g5 : (tk tx q.k).1 = 5 := g45.resolve_left g4
        repeat (refine hP _ ?_; conv => whnf)
        refine ⟨fun _ => ?_, fun w => absurd rfl w⟩
        iterate 3 (refine hP _ ?_; conv => whnf)
        refine fin 1 q.chs q.cns _ ?_ (by omega) (by rw [hns, if_neg g4, if_pos g5]) _
        refine h1'.un (s' := (q.wval v).wsel 1 q.chs q.cns) (Fr.rf.up rfl) Fr.rf rfl rfl rfl rfl (h1'.2.2.sl hl' (Fr.rf.up rfl) (fun _ => ⟨by simp [m_upr]; exact hval16, hv01, by simp [m_upr]; rfl, Or.inr (Or.inl rfl), fun w => absurd (show (1 : Int32) = 2 from w) (by decide)⟩))
    repeat (refine hP _ ?_; conv => whnf)
    refine h_isWord (w := 3) (n := n + 3) hC' h1' (by decide) ?_
    by_cases g4 : (tk tx q.k).1 = 4
    · rw [if_pos (show (tk tx (q.wval v).k).1 = 3 + 1 from g4)]
      iterate 1 (refine hP _ ?_; conv => whnf)
      exact ⟨fun w => absurd w (by decide), fun _ => s50 (Or.inl g4)⟩
    rw [if_neg (show ¬ (tk tx (q.wval v).k).1 = 3 + 1 from g4)]
    repeat (refine hP _ ?_; conv => whnf)
    refine ⟨fun _ => ?_, fun w => absurd rfl w⟩
    repeat (refine hP _ ?_; conv => whnf)
    refine h_isWord (w := 4) (n := n + 3) hC' h1' (by decide) ?_
    by_cases g5 : (tk tx q.k).1 = 5
    · rw [if_pos (show (tk tx (q.wval v).k).1 = 4 + 1 from g5)]
      iterate 1 (refine hP _ ?_; conv => whnf)
      exact ⟨fun w => absurd w (by decide), fun _ => s50 (Or.inr g5)⟩
    rw [if_neg (show ¬ (tk tx (q.wval v).k).1 = 4 + 1 from g5)]
    rw [hns, if_neg g4, if_neg g5] at hK'
    rw [hns, if_neg g4, if_neg g5] at fin
    repeat (refine hP _ ?_; conv => whnf)
    refine ⟨fun _ => ?_, fun w => absurd rfl w⟩
    repeat (refine hP _ ?_; conv => whnf)
    rw [h1'.cl]
    have ht1 := (tcl_eq (tk_29 tx (q.wval v).k)).2.1
    refine ⟨fun z => ?_, fun z => ?_⟩
    rotate_left
    · have g : ¬ (tk tx q.k).1 = 16 := fun y => z (ht1.mpr y)
      rw [if_neg g] at hK'
      repeat (refine hP _ ?_; conv => whnf)
      refine h_cannot (n := n + 2) hC' h1' (fun I' h' => ?_)
      repeat (refine hP _ ?_; conv => whnf)
      obtain ⟨e, he⟩ := jfal_err (tx := tx) (a := 2) (r := .ok (q.wval v))
      rw [he] at h' hK'
      rw [jadv_er, jxpc_er] at hK'
      exact hK' _ _ h'
    · have g : (tk tx q.k).1 = 16 := ht1.mp z
      rw [if_pos g] at hK' fin
      obtain ⟨hn1, hn2⟩ := h1'.nam g
      have hn1 : L1 30 6 = lN (pkB 128 (jnam tx q)) := hn1
      have hn2 : NmOk (jnam tx q) := hn2
      have hen : REn (q.wval v) I1 L1 := h1'.2.2.1
      have e12 : I1 30 12 = nI q.ens.length := hen.1
      have e4 : q.ens.length ≤ 4 := hen.2.1
      have hix : (q.ens.map (fun x => x.1)).length = q.ens.length := List.length_map ..
      have s130 : ∀ J l1, Fr S_sl I1 J → J 30 17 = 2 → J 30 18 = (if enx q (jnam tx q) < q.ens.length then nI (enx q (jnam tx q)) else -1) → P (130, [some (.ref 30), l1], [], (m_SH, J, L1), 0, 0) := by
        intro J l1 hFJ h17 h18
        by_cases gm : jnam tx q ∈ q.ens.map (fun x => x.1)
        · have hlt : enx q (jnam tx q) < q.ens.length := by
            have := List.idxOf_lt_length_iff.mpr gm
            rw [hix] at this
            exact this
          rw [if_pos gm] at fin
          rw [if_pos hlt] at h18
          repeat (refine hP _ ?_; conv => whnf)
          rw [h18]
          refine ⟨fun w => absurd w (nI_pos (by omega)), fun _ => ?_⟩
          refine fin 2 _ _ J ?_ (by omega) rfl _
          refine h1'.un (s' := (q.wval v).wsel 2 (nI (enx q (jnam tx q))) (nI (enl q (enx q (jnam tx q))))) (hFJ.mono (fun _ _ => S_sl_un)) Fr.rf rfl rfl rfl rfl (h1'.2.2.sl hl' hFJ (fun _ => ⟨by rw [hFJ 30 16 rfl]; exact hval16, hv01, h17, Or.inr (Or.inr rfl), fun _ => ⟨enx q (jnam tx q), hlt, rfl, h18, ?_⟩⟩))
          show nI (enl q (enx q (jnam tx q))) = nI (match q.ens[(nI (enx q (jnam tx q))).toNatClampNeg]? with | some x => x.2 | none => []).length
          rw [nI_clamp (by omega)]
          unfold enl
          cases q.ens[enx q (jnam tx q)]? with
          | none => rfl
          | some x => rfl
        · have hlt : ¬ enx q (jnam tx q) < q.ens.length := by
            intro w
            refine gm (List.idxOf_lt_length_iff.mp ?_)
            rw [hix]
            exact w
          rw [if_neg hlt] at h18
          rw [if_neg gm] at hK'
          have hJ : RH tx m I0 L0 false 0 (.ok (q.wval v)) J L1 := by
            refine h1'.un (s' := q.wval v) (hFJ.mono (fun _ _ => S_sl_un)) Fr.rf rfl rfl rfl rfl ?_
            exact h1'.2.2.sl0 hFJ
          repeat (refine hP _ ?_; conv => whnf)
          rw [h18]
          refine ⟨fun _ => ?_, fun w => absurd (by decide) w⟩
          repeat (refine hP _ ?_; conv => whnf)
          refine h_wrong (a := 5) (n := n + 3) hC' hJ (by decide) (by decide) (by decide) (fun I' h' => ?_)
          repeat (refine hP _ ?_; conv => whnf)
          obtain ⟨e, he⟩ := jfal_err (tx := tx) (a := 5) (r := .ok (q.wval v))
          rw [he] at h' hK'
          rw [jadv_er, jxpc_er] at hK'
          exact hK' _ _ h'
      have loop : ∀ (k i : Nat) (J : Nat → Nat → Int32), i + k = q.ens.length → Fr S_sl I1 J → J 30 17 = 2 → J 30 18 = (if enx q (jnam tx q) < i then nI (enx q (jnam tx q)) else -1) → P (90, [some (.ref 30), some (.int (nI i))], [], (m_SH, J, L1), 0, 0) := by
        intro k
        induction k with
        | zero =>
          intro i J hi hFJ h17 h18
          repeat (refine hP _ ?_; conv => whnf)
          rw [hFJ 30 12 rfl, e12]
          refine ⟨fun w => absurd w (nI_nlt (by omega) (by omega)), fun _ => ?_⟩
          rw [show i = q.ens.length by omega] at h18
          exact s130 J _ hFJ h17 h18
        | succ k ih =>
          intro i J hi hFJ h17 h18
          have hnm := hen.nam (e := i) (show i < q.ens.length by omega) hn2
          have hnd2 := idx_nd (c := jnam tx q) hnd' (i := i) (by rw [hix]; omega)
          have hnm : L1 33 i = lN (pkB 128 (jnam tx q)) ↔ enx q (jnam tx q) = i := hnm.trans hnd2
          have nxt : ∀ v18, v18 = (if enx q (jnam tx q) < i + 1 then nI (enx q (jnam tx q)) else -1) → P (121, [some (.ref 30), some (.int (nI i))], [.int v18, .ref 30], (m_SH, J, L1), 0, 0) := by
            intro v18 hv18
            have e := ih (i + 1) (m_up J 30 18 v18) (by omega) (hFJ.up rfl) (by simp [m_upr]; exact h17) (by simp [m_upr]; exact hv18)
            rw [← nI_1] at e
            iterate 3 (refine hP _ ?_; conv => whnf)
            exact e
          repeat (refine hP _ ?_; conv => whnf)
          rw [hFJ 30 12 rfl, e12]
          refine ⟨fun _ => ?_, fun w => absurd (nI_lt (by omega) (by omega)) w⟩
          repeat (refine hP _ ?_; conv => whnf)
          refine ⟨vp_in_nI (by omega) (by omega), ?_⟩
          repeat (refine hP _ ?_; conv => whnf)
          rw [nI_clamp (by omega), lg_cmp_eq]
          refine ⟨fun w => ?_, fun w => ?_⟩
          · rw [hn1] at w
            have hi2 := hnm.mp w
            iterate 2 (refine hP _ ?_; conv => whnf)
            refine nxt _ ?_
            rw [hi2, if_pos (by omega)]
          · rw [hn1] at w
            have hi2 : ¬ enx q (jnam tx q) = i := fun u => w (hnm.mpr u)
            iterate 2 (refine hP _ ?_; conv => whnf)
            refine nxt _ ?_
            rw [h18]
            by_cases u : enx q (jnam tx q) < i
            · rw [if_pos u, if_pos (by omega)]
            · rw [if_neg u, if_neg (by omega)]
      iterate 8 (refine hP _ ?_; conv => whnf)
      exact loop q.ens.length 0 _ (by omega) ((Fr.rf.up rfl).up rfl) (by simp [m_upr]) (by simp [m_upr])
  repeat (refine hP _ ?_; conv => whnf)
  refine h_isWord (w := 1) (n := n + 3) hC' h0 (by decide) ?_
  by_cases g2 : (tk tx s.k).1 = 2
  · rw [if_pos (show (tk tx s.k).1 = 1 + 1 from g2)]
    iterate 1 (refine hP _ ?_; conv => whnf)
    exact ⟨fun w => absurd w (by decide), fun _ => s21 (Or.inl g2)⟩
  rw [if_neg (show ¬ (tk tx s.k).1 = 1 + 1 from g2)]
  repeat (refine hP _ ?_; conv => whnf)
  refine ⟨fun _ => ?_, fun w => absurd rfl w⟩
  repeat (refine hP _ ?_; conv => whnf)
  refine h_isWord (w := 2) (n := n + 3) hC' h0 (by decide) ?_
  by_cases g3 : (tk tx s.k).1 = 3
  · rw [if_pos (show (tk tx s.k).1 = 2 + 1 from g3)]
    iterate 1 (refine hP _ ?_; conv => whnf)
    exact ⟨fun w => absurd w (by decide), fun _ => s21 (Or.inr g3)⟩
  rw [if_neg (show ¬ (tk tx s.k).1 = 2 + 1 from g3)]
  rw [if_pos (by omega)] at hK
  repeat (refine hP _ ?_; conv => whnf)
  refine ⟨fun _ => ?_, fun w => absurd rfl w⟩
  repeat (refine hP _ ?_; conv => whnf)
  refine h_cannot (n := n + 2) hC' h0 (fun I' h' => ?_)
  repeat (refine hP _ ?_; conv => whnf)
  exact hK _ _ h'
