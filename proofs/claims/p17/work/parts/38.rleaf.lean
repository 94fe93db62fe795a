/-! ===== the reference judges a stmt: its parts ===== -/
theorem FrS.fr {I I' : Nat → Nat → Int32} {n : List (Int32 × Int32 × Int32)} (hI : ∀ p j, 45 ≤ p → p ≤ 51 → I' p j = I p j) : ∀ (st : List Fm) (c : Nat), FrS I n c st → FrS I' n c st
  | [], _, _ => trivial
  | x :: r, c, h => by
    obtain ⟨a1, a2, a3, a4, a5⟩ := h
    refine ⟨?_, ?_, ?_, ?_, FrS.fr hI r _ a5⟩
    · rw [hI 45 _ (by decide) (by decide)]; exact a1
    · rw [hI 47 _ (by decide) (by decide)]; exact a2
    · rw [hI 48 _ (by decide) (by decide), hI 50 _ (by decide) (by decide)]; exact a3
    · rw [hI 49 _ (by decide) (by decide), hI 51 _ (by decide) (by decide), hI 46 _ (by decide) (by decide)]; exact a4
theorem bitsB.mono {c d : Nat} {x : Int32} (h : bitsB c x) (hcd : c ≤ d) : bitsB d x := by
  obtain ⟨b, hb, e⟩ := h
  exact ⟨b, Nat.lt_of_lt_of_le hb (Nat.pow_le_pow_right (by decide) hcd), e⟩
theorem FrS.mono {I : Nat → Nat → Int32} {n n' : List (Int32 × Int32 × Int32)} (hn : ∀ i k, kAt n i k → kAt n' i k) : ∀ (st : List Fm) (c d : Nat), c ≤ d → FrS I n c st → FrS I n' d st
  | [], _, _, _, _ => trivial
  | x :: r, c, d, hcd, h => by
    obtain ⟨a1, a2, a3, a4, a5⟩ := h
    refine ⟨a1, fun q => ⟨(a2 q).1, Nat.le_trans (a2 q).2 hcd⟩, fun q => ⟨(a3 q).1, (a3 q).2.1, hn _ _ (a3 q).2.2.1, (a3 q).2.2.2.mono hcd⟩, fun q => ⟨(a4 q).1, (a4 q).2.1, hn _ _ (a4 q).2.2.1, (a4 q).2.2.2.1.imp id (fun z => z.mono hcd), (a4 q).2.2.2.2⟩, ?_⟩
    by_cases g : x.1 = 1
    · rw [if_pos g] at a5 ⊢
      exact FrS.mono hn r _ _ (Nat.le_refl _) a5
    · rw [if_neg g] at a5 ⊢
      exact FrS.mono hn r _ _ hcd a5
theorem MT.fr {t : Tok} {I I' : Nat → Nat → Int32} {L L' : Nat → Nat → Int64} (h : MT t I L) (h4 : I' 30 4 = I 30 4) (h5 : I' 30 5 = I 30 5) (h7 : I' 30 7 = I 30 7) (h6 : L' 30 6 = L 30 6) : MT t I' L' := by
  unfold MT at h ⊢
  rw [h4, h5, h7, h6]
  exact h
theorem RTok.fr {tx : List Nat} {k : Nat} {I I' : Nat → Nat → Int32} {L L' : Nat → Nat → Int64} (h : RTok tx k I L) (h3 : I' 30 3 = I 30 3) (h4 : I' 30 4 = I 30 4) (h5 : I' 30 5 = I 30 5) (h7 : I' 30 7 = I 30 7) (h6 : L' 30 6 = L 30 6) : RTok tx k I' L' :=
  ⟨h.1.fr h4 h5 h7 h6, fun q => by rw [h3]; exact h.2 q⟩
theorem RX.ok {tx : List Nat} {m : Nat} {I0 : Nat → Nat → Int32} {L0 : Nat → Nat → Int64} {u0 : JU} {b : Nat} {st : List Fm} {I : Nat → Nat → Int32} {L : Nat → Nat → Int64} {s : JSt} (h : RX tx m I0 L0 u0 b st (.ok s) I L) : RS tx m u0 st s I L := h.2.2.2.2.1
theorem RX.cdb {tx : List Nat} {m : Nat} {I0 : Nat → Nat → Int32} {L0 : Nat → Nat → Int64} {u0 : JU} {b : Nat} {st : List Fm} {I : Nat → Nat → Int32} {L : Nat → Nat → Int64} {s : JSt} (h : RX tx m I0 L0 u0 b st (.ok s) I L) : s.cd.length ≤ b := h.2.2.2.2.2
theorem RX.er {tx : List Nat} {m : Nat} {I0 : Nat → Nat → Int32} {L0 : Nat → Nat → Int64} {u0 : JU} {b : Nat} {st : List Fm} {I : Nat → Nat → Int32} {L : Nat → Nat → Int64} {e : Nat × Nat} (h : RX tx m I0 L0 u0 b st (.error e) I L) : RE b e I := h.2.2.2.2
theorem RX.txm {tx : List Nat} {m : Nat} {I0 : Nat → Nat → Int32} {L0 : Nat → Nat → Int64} {u0 : JU} {b : Nat} {st : List Fm} {r : JRs} {I : Nat → Nat → Int32} {L : Nat → Nat → Int64} (h : RX tx m I0 L0 u0 b st r I L) : TxM tx I := h.1.2.2.2.1.fr h.2.1.1 rfl (fun _ => rfl)
theorem RX.wdm {tx : List Nat} {m : Nat} {I0 : Nat → Nat → Int32} {L0 : Nat → Nat → Int64} {u0 : JU} {b : Nat} {st : List Fm} {r : JRs} {I : Nat → Nat → Int32} {L : Nat → Nat → Int64} (h : RX tx m I0 L0 u0 b st r I L) : WdM L := h.1.2.2.2.2.fr h.2.2.1 (fun _ => rfl)
theorem RX.mk {tx : List Nat} {m : Nat} {I0 : Nat → Nat → Int32} {L0 : Nat → Nat → Int64} {u0 : JU} {b : Nat} {st : List Fm} {r : JRs} {I : Nat → Nat → Int32} {L : Nat → Nat → Int64} {b' : Nat} {st' : List Fm} {r' : JRs} {I' : Nat → Nat → Int32} {L' : Nat → Nat → Int64} (h : RX tx m I0 L0 u0 b st r I L) (hF : Fr S_st I I') (hL : Fr S_stL L L') (hb : b' ≤ 600)
    (hr : match r' with | .ok s => RS tx m u0 st' s I' L' ∧ s.cd.length ≤ b' | .error e => RE b' e I') (hB : BB I → BB I' := by (intro hq; (try unfold emF); (try unfold pushF); (try unfold popF); repeat' (first | exact hq | refine BB.up ?_ (fun z => absurd z (by decide)) | refine BB.up ?_ (fun _ => Or.inr rfl)))) : RX tx m I0 L0 u0 b' st' r' I' L' :=
  ⟨h.1, ⟨h.2.1.1.tr hF, hB h.2.1.2⟩, h.2.2.1.tr hL, hb, hr⟩
theorem RX.mono {tx : List Nat} {m : Nat} {I0 : Nat → Nat → Int32} {L0 : Nat → Nat → Int64} {u0 : JU} {b : Nat} {st : List Fm} {r : JRs} {I : Nat → Nat → Int32} {L : Nat → Nat → Int64} {b' : Nat} (h : RX tx m I0 L0 u0 b st r I L) (hb : b ≤ b') (hb' : b' ≤ 600) : RX tx m I0 L0 u0 b' st r I L := by
  refine ⟨h.1, h.2.1, h.2.2.1, hb', ?_⟩
  have h5 := h.2.2.2.2
  cases r with
  | ok s => exact ⟨h5.1, Nat.le_trans h5.2 hb⟩
  | error e =>
    obtain ⟨a1, a2, a3, a4, c, hc, e⟩ := h5
    exact ⟨a1, a2, a3, a4, c, Nat.le_trans hc hb, e⟩
theorem RX.any {tx : List Nat} {m : Nat} {I0 : Nat → Nat → Int32} {L0 : Nat → Nat → Int64} {u0 : JU} {b : Nat} {st : List Fm} {I : Nat → Nat → Int32} {L : Nat → Nat → Int64} {st' : List Fm} {e : Nat × Nat} (h : RX tx m I0 L0 u0 b st (.error e) I L) : RX tx m I0 L0 u0 b st' (.error e) I L := ⟨h.1, h.2.1, h.2.2.1, h.2.2.2.1, h.2.2.2.2⟩
theorem S_nx_st {p q : Nat} (h : S_st p q = false) : S_nx p q = false := by
  unfold S_st at h
  unfold S_nx
  by_cases g : p = 30
  · subst g
    simp at h ⊢
    omega
  · simp [g]
theorem S_nxL_st {p q : Nat} (h : S_stL p q = false) : S_nxL p q = false := by
  unfold S_stL at h
  unfold S_nxL
  simp at h ⊢
  exact h.1
theorem RS.nx {tx : List Nat} {m : Nat} {u0 : JU} {st : List Fm} {s : JSt} {I I' : Nat → Nat → Int32} {L L' : Nat → Nat → Int64} (h : RS tx m u0 st s I L) (hk : s.k + 1 ≤ m) (hT : RTok tx (s.k + 1) I' L') (hF : Fr S_nx I I') (hL : Fr S_nxL L L') : RS tx m u0 st (s.wk (s.k + 1)) I' L' := by
  obtain ⟨⟨a1, a2, a3⟩, ⟨b1, b2⟩, ⟨c1, c2, c3⟩, ⟨d1, d2, d3, d4⟩, ⟨e1, e2⟩, f1, f2, f3, f4, f5⟩ := h
  refine ⟨⟨hT, ?_, hk⟩, ⟨?_, b2⟩, ⟨?_, ?_, c3⟩, ⟨?_, d2, fun j hj => ?_, d4⟩, ⟨?_, fun j x hx => ?_⟩, ?_, ?_, f3, f4, FrS.fr (fun p j h1 h2 => ?_) st _ f5⟩
  · rw [hF 30 8 rfl]; exact a2
  · rw [hF 30 26 rfl]; exact b1
  · rw [hF 30 36 rfl]; exact c1
  · rw [hF 30 16 rfl]; exact c2
  · rw [hF 30 35 rfl]; exact d1
  · rw [hL 44 j rfl]; exact d3 j hj
  · rw [hF 30 33 rfl]; exact e1
  · rw [hF 41 j rfl, hF 42 j rfl, hF 43 j rfl]; exact e2 j x hx
  · rw [hF 30 44 rfl]; exact f1
  · rw [hF 30 45 rfl]; exact f2
  · refine hF p j ?_
    unfold S_nx
    have : (p == 30) = false := by simp; omega
    rw [this]; rfl
theorem r_nextX {XL : Nat} {XS : Nat → Int32} {n : Nat} {C : mC} {I : Nat → Nat → Int32} {L : Nat → Nat → Int64} {K : mK} {tx : List Nat} {m : Nat} {I0 : Nat → Nat → Int32} {L0 : Nat → Nat → Int64} {u0 : JU} {b : Nat} {st : List Fm} {s : JSt} (hC : m_Ge XL XS (n + 3) C) (hX : RX tx m I0 L0 u0 b st (.ok s) I L) (h27 : (tk tx s.k).1 < 27) (hK : ∀ I' L', RX tx m I0 L0 u0 b st (jadv (.ok s)) I' L' → K none (m_SH, I', L')) : C 107 [.ref 30] (m_SH, I, L) K := by
  have h := hX.ok
  have hk : s.k < m := tk_lt hX.1.2.1 h.1.2.2 (by omega) (by omega)
  refine r_nextK hC hX.1.1 hX.1.2.1 hk hX.txm hX.wdm (h.1.1.2 (by omega)) (fun I' L' hT hF hL => ?_)
  exact hK I' L' (hX.mk (hF.mono (fun _ _ => S_nx_st)) (hL.mono (fun _ _ => S_nxL_st)) hX.2.2.2.1 ⟨h.nx hk hT hF hL, hX.cdb⟩ (fun h => h.of (fun j => hF 46 j rfl)))
theorem RX.cl {tx : List Nat} {m : Nat} {I0 : Nat → Nat → Int32} {L0 : Nat → Nat → Int64} {u0 : JU} {b : Nat} {st : List Fm} {I : Nat → Nat → Int32} {L : Nat → Nat → Int64} {s : JSt} (h : RX tx m I0 L0 u0 b st (.ok s) I L) : I 30 4 = tcl (tk tx s.k).1 := h.ok.1.1.1.cl (tk_29 tx _)
theorem r_isSignX {XL : Nat} {XS : Nat → Int32} {n : Nat} {C : mC} {I : Nat → Nat → Int32} {L : Nat → Nat → Int64} {K : mK} {tx : List Nat} {m : Nat} {I0 : Nat → Nat → Int32} {L0 : Nat → Nat → Int64} {u0 : JU} {b : Nat} {st : List Fm} {s : JSt} {k : Nat} (hC : m_Ge XL XS (n + 1) C) (hX : RX tx m I0 L0 u0 b st (.ok s) I L) (h1 : 19 ≤ k) (h2 : k ≤ 26) (hK : K (some (.int (if (tk tx s.k).1 = k then 1 else 0))) (m_SH, I, L)) : C 114 [.ref 30, .int (sgC k)] (m_SH, I, L) K := by
  refine r_isSign hC ?_
  rw [hX.ok.1.1.1.sign (tk_29 tx _) h1 h2]
  exact hK
theorem r_isWordX {XL : Nat} {XS : Nat → Int32} {n : Nat} {C : mC} {I : Nat → Nat → Int32} {L : Nat → Nat → Int64} {K : mK} {tx : List Nat} {m : Nat} {I0 : Nat → Nat → Int32} {L0 : Nat → Nat → Int64} {u0 : JU} {b : Nat} {st : List Fm} {s : JSt} {w : Nat} (hC : m_Ge XL XS (n + 1) C) (hX : RX tx m I0 L0 u0 b st (.ok s) I L) (hw : w < 15) (hK : K (some (.int (if (tk tx s.k).1 = w + 1 then 1 else 0))) (m_SH, I, L)) : C 115 [.ref 30, .int (nI w)] (m_SH, I, L) K := by
  refine r_isWord hC ?_
  rw [hX.ok.1.1.1.word (tk_29 tx _) (tk_pos tx _) hw]
  exact hK
theorem RX.fail {tx : List Nat} {m : Nat} {I0 : Nat → Nat → Int32} {L0 : Nat → Nat → Int64} {u0 : JU} {b : Nat} {st : List Fm} {I : Nat → Nat → Int32} {L : Nat → Nat → Int64} {s : JSt} {a : Nat} {v : Int32} (h : RX tx m I0 L0 u0 b st (.ok s) I L) (ha0 : a ≠ 0) (ha : a ≤ 12) (hv : v = nI (if a = 2 ∧ (tk tx s.k).1 = 28 then 1 else a)) : RX tx m I0 L0 u0 b st (jfal tx a (.ok s)) (wrF v (I 30 5) I) L := by
  have h0 := h.ok.1.2.1
  have h5 := h.ok.1.1.1.1
  have hcd := h.ok.2.2.2.2.1.1
  have e : wrF v (I 30 5) I = m_up (m_up I 30 8 v) 30 9 (I 30 5) := by
    unfold wrF
    rw [if_pos h0]
  rw [e]
  refine h.mk ((Fr.rf.up rfl).up rfl) Fr.rf h.2.2.2.1 ?_
  show RE b _ _
  refine ⟨?_, ?_, by simp [m_upr, hv], by simp [m_upr, h5], s.cd.length, h.cdb, by simp [m_upr, hcd]⟩
  · simp only
    split <;> omega
  · simp only
    split <;> omega
theorem r_wrongX {XL : Nat} {XS : Nat → Int32} {n : Nat} {C : mC} {I : Nat → Nat → Int32} {L : Nat → Nat → Int64} {K : mK} {tx : List Nat} {m : Nat} {I0 : Nat → Nat → Int32} {L0 : Nat → Nat → Int64} {u0 : JU} {b : Nat} {st : List Fm} {s : JSt} {a : Nat} (hC : m_Ge XL XS (n + 1) C) (hX : RX tx m I0 L0 u0 b st (.ok s) I L) (ha2 : a ≠ 2) (ha0 : a ≠ 0) (ha : a ≤ 12) (hK : ∀ I', RX tx m I0 L0 u0 b st (jfal tx a (.ok s)) I' L → K none (m_SH, I', L)) : C 111 [.ref 30, .int (nI a)] (m_SH, I, L) K :=
  r_wrong hC (hK _ (hX.fail ha0 ha (by rw [if_neg (fun z => ha2 z.1)])))
theorem r_cannotX {XL : Nat} {XS : Nat → Int32} {n : Nat} {C : mC} {I : Nat → Nat → Int32} {L : Nat → Nat → Int64} {K : mK} {tx : List Nat} {m : Nat} {I0 : Nat → Nat → Int32} {L0 : Nat → Nat → Int64} {u0 : JU} {b : Nat} {st : List Fm} {s : JSt} (hC : m_Ge XL XS (n + 2) C) (hX : RX tx m I0 L0 u0 b st (.ok s) I L) (hK : ∀ I', RX tx m I0 L0 u0 b st (jfal tx 2 (.ok s)) I' L → K none (m_SH, I', L)) : C 113 [.ref 30] (m_SH, I, L) K := by
  refine r_cannot hC (hK _ ?_)
  unfold canF
  refine hX.fail (by decide) (by decide) ?_
  rw [hX.cl]
  have := (tcl_eq (tk_29 tx s.k)).2.2.2.2.2
  by_cases g : (tk tx s.k).1 = 28
  · rw [if_pos (this.mpr g), if_pos ⟨rfl, g⟩]; rfl
  · rw [if_neg (fun z => g (this.mp z)), if_neg (fun z => g z.2)]; rfl
theorem RX.flt_er {tx : List Nat} {m : Nat} {I0 : Nat → Nat → Int32} {L0 : Nat → Nat → Int64} {u0 : JU} {b : Nat} {st : List Fm} {I : Nat → Nat → Int32} {L : Nat → Nat → Int64} {e : Nat × Nat} (h : RX tx m I0 L0 u0 b st (.error e) I L) : 0 < I 30 8 ∧ ¬ I 30 8 = 0 := by
  obtain ⟨a1, a2, a3, -⟩ := h.er
  rw [a3]
  exact ⟨nI_lt (a := 0) (b := e.1) (by omega) (by omega), fun z => a1 ((nI_eq (a := e.1) (b := 0) (by omega) (by omega)).mp z)⟩
theorem RX.flt_ok {tx : List Nat} {m : Nat} {I0 : Nat → Nat → Int32} {L0 : Nat → Nat → Int64} {u0 : JU} {b : Nat} {st : List Fm} {I : Nat → Nat → Int32} {L : Nat → Nat → Int64} {s : JSt} (h : RX tx m I0 L0 u0 b st (.ok s) I L) : I 30 8 = 0 := h.ok.1.2.1
theorem r_wantsSignX {XL : Nat} {XS : Nat → Int32} {n : Nat} {C : mC} {I : Nat → Nat → Int32} {L : Nat → Nat → Int64} {K : mK} {tx : List Nat} {m : Nat} {I0 : Nat → Nat → Int32} {L0 : Nat → Nat → Int64} {u0 : JU} {b : Nat} {st : List Fm} {r : JRs} {k : Nat} (hC : m_Ge XL XS (n + 4) C) (hX : RX tx m I0 L0 u0 b st r I L) (h1 : 19 ≤ k) (h2 : k ≤ 26) (hK : ∀ I' L', RX tx m I0 L0 u0 b st (jxpc tx k r) I' L' → K none (m_SH, I', L')) : C 116 [.ref 30, .int (sgC k)] (m_SH, I, L) K := by
  refine e_X9_wantsSign hC (Nat.le_of_ble_eq_true rfl) ?_
  intro C' hC' P hP
  repeat (refine hP _ ?_; conv => whnf)
  cases r with
  | error e =>
    refine ⟨fun _ => ?_, fun z => absurd hX.flt_er.1 z⟩
    repeat (refine hP _ ?_; conv => whnf)
    exact hK _ _ (by rw [jxpc_er]; exact hX)
  | ok s =>
    refine ⟨fun z => absurd z (by rw [hX.flt_ok]; decide), fun _ => ?_⟩
    repeat (refine hP _ ?_; conv => whnf)
    refine r_isSignX (n := n + 2) hC' hX h1 h2 ?_
    unfold jxpc at hK
    by_cases g : (tk tx s.k).1 = k
    · rw [if_pos (show jkd tx (.ok s) = k from g)] at hK
      rw [if_pos g]
      repeat (refine hP _ ?_; conv => whnf)
      refine ⟨fun z => absurd z (by decide), fun _ => ?_⟩
      repeat (refine hP _ ?_; conv => whnf)
      refine r_nextX hC' hX (by omega) (fun I' L' h' => ?_)
      repeat (refine hP _ ?_; conv => whnf)
      exact hK _ _ h'
    · rw [if_neg (show ¬ jkd tx (.ok s) = k from g)] at hK
      rw [if_neg g]
      repeat (refine hP _ ?_; conv => whnf)
      refine ⟨fun _ => ?_, fun z => absurd rfl z⟩
      repeat (refine hP _ ?_; conv => whnf)
      refine r_cannotX hC' hX (fun I' h' => ?_)
      repeat (refine hP _ ?_; conv => whnf)
      exact hK _ _ h'
theorem r_numberX {XL : Nat} {XS : Nat → Int32} {n : Nat} {C : mC} {I : Nat → Nat → Int32} {L : Nat → Nat → Int64} {K : mK} {tx : List Nat} {m : Nat} {I0 : Nat → Nat → Int32} {L0 : Nat → Nat → Int64} {u0 : JU} {b : Nat} {st : List Fm} {r : JRs} (hC : m_Ge XL XS (n + 4) C) (hX : RX tx m I0 L0 u0 b st r I L) (hK : ∀ I' L', RX tx m I0 L0 u0 b st (jnmb tx r) I' L' → K (some (.int (jnmv tx r))) (m_SH, I', L')) : C 117 [.ref 30] (m_SH, I, L) K := by
  refine e_X9_number hC (Nat.le_of_ble_eq_true rfl) ?_
  intro C' hC' P hP
  repeat (refine hP _ ?_; conv => whnf)
  cases r with
  | error e =>
    refine ⟨fun _ => ?_, fun z => absurd hX.flt_er.1 z⟩
    repeat (refine hP _ ?_; conv => whnf)
    exact hK _ _ (by rw [jnmb_er]; exact hX)
  | ok s =>
    refine ⟨fun z => absurd z (by rw [hX.flt_ok]; decide), fun _ => ?_⟩
    repeat (refine hP _ ?_; conv => whnf)
    rw [hX.cl]
    unfold jnmb jnmv at hK
    have ht := (tcl_eq (tk_29 tx s.k)).2.2.1
    refine ⟨fun z => ?_, fun z => ?_⟩
    · have g := ht.mp z
      rw [if_pos (show jkd tx (.ok s) = 17 from g), if_pos (show jkd tx (.ok s) = 17 from g)] at hK
      have hv : I 30 7 = nI (jnum tx (.ok s)) := (hX.ok.1.1.1.2.2.2.2.2.1 g).2
      repeat (refine hP _ ?_; conv => whnf)
      refine r_nextX hC' hX (by omega) (fun I' L' h' => ?_)
      repeat (refine hP _ ?_; conv => whnf)
      rw [hv]
      exact hK _ _ h'
    · have g : ¬ (tk tx s.k).1 = 17 := fun y => z (ht.mpr y)
      rw [if_neg (show ¬ jkd tx (.ok s) = 17 from g), if_neg (show ¬ jkd tx (.ok s) = 17 from g)] at hK
      repeat (refine hP _ ?_; conv => whnf)
      refine r_cannotX hC' hX (fun I' h' => ?_)
      repeat (refine hP _ ?_; conv => whnf)
      exact hK _ _ h'
def jsgv (tx : List Nat) (r : JRs) : Int32 := if jkd tx r = 25 then -(jnmv tx (jadv r)) else jnmv tx r
def jsgn (tx : List Nat) (r : JRs) : JRs := if jkd tx r = 25 then jnmb tx (jadv r) else jnmb tx r
theorem r_signedX {XL : Nat} {XS : Nat → Int32} {n : Nat} {C : mC} {I : Nat → Nat → Int32} {L : Nat → Nat → Int64} {K : mK} {tx : List Nat} {m : Nat} {I0 : Nat → Nat → Int32} {L0 : Nat → Nat → Int64} {u0 : JU} {b : Nat} {st : List Fm} {r : JRs} (hC : m_Ge XL XS (n + 5) C) (hX : RX tx m I0 L0 u0 b st r I L) (hK : ∀ I' L', RX tx m I0 L0 u0 b st (jsgn tx r) I' L' → K (some (.int (jsgv tx r))) (m_SH, I', L')) : C 118 [.ref 30] (m_SH, I, L) K := by
  refine e_X9_signed hC (Nat.le_of_ble_eq_true rfl) ?_
  intro C' hC' P hP
  unfold jsgn jsgv at hK
  have nomin : ¬ jkd tx r = 25 → P (20, [some (.ref 30), none, none], [], (m_SH, I, L), 0, 0) := by
    intro g
    rw [if_neg g, if_neg g] at hK
    repeat (refine hP _ ?_; conv => whnf)
    refine ⟨fun _ => ?_, fun z => absurd rfl z⟩
    repeat (refine hP _ ?_; conv => whnf)
    refine r_numberX hC' hX (fun I' L' h' => ?_)
    repeat (refine hP _ ?_; conv => whnf)
    refine ⟨fun _ => ?_, fun z => absurd rfl z⟩
    repeat (refine hP _ ?_; conv => whnf)
    exact hK _ _ h'
  repeat (refine hP _ ?_; conv => whnf)
  cases r with
  | error e =>
    refine ⟨fun z => absurd z hX.flt_er.2, fun _ => ?_⟩
    exact nomin (fun z => no_kd z (by decide))
  | ok s =>
    refine ⟨fun _ => ?_, fun z => absurd hX.flt_ok z⟩
    repeat (refine hP _ ?_; conv => whnf)
    refine r_isSignX (k := 25) (n := n + 3) hC' hX (by decide) (by decide) ?_
    by_cases g : (tk tx s.k).1 = 25
    · rw [if_pos (show jkd tx (.ok s) = 25 from g), if_pos (show jkd tx (.ok s) = 25 from g)] at hK
      rw [if_pos g]
      repeat (refine hP _ ?_; conv => whnf)
      refine ⟨fun z => absurd z (by decide), fun _ => ?_⟩
      repeat (refine hP _ ?_; conv => whnf)
      refine ⟨fun z => absurd z (by decide), fun _ => ?_⟩
      repeat (refine hP _ ?_; conv => whnf)
      refine r_nextX (n := n + 1) hC' hX (by omega) (fun I' L' h' => ?_)
      repeat (refine hP _ ?_; conv => whnf)
      refine r_numberX hC' h' (fun I' L' h' => ?_)
      repeat (refine hP _ ?_; conv => whnf)
      refine ⟨fun z => absurd z (by decide), fun _ => ?_⟩
      repeat (refine hP _ ?_; conv => whnf)
      exact hK _ _ h'
    · rw [if_neg g]
      repeat (refine hP _ ?_; conv => whnf)
      refine ⟨fun _ => ?_, fun z => absurd rfl z⟩
      exact nomin g
