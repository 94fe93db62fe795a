/-! ===== tokens, with the unit's part of the world ===== -/
theorem RU.fr {hd : Bool} {p : Nat} {s s' : JSt} {I I' : Nat → Nat → Int32} {L L' : Nat → Nat → Int64} (h : RU hd p s I L) (hF : Fr S_st I I') (hL : Fr S_stL L L') (hu : s'.u = s.u) (hs : s'.set = s.set) (hn : s'.nm = s.nm) : RU hd p s' I' L' := by
  have e1 : s'.ens = s.ens := by unfold JSt.ens; rw [hu]
  have e2 : s'.val = s.val := by unfold JSt.val; rw [hu]
  have e3 : s'.srt = s.srt := by unfold JSt.srt; rw [hu]
  have e4 : s'.chs = s.chs := by unfold JSt.chs; rw [hu]
  have e5 : s'.cns = s.cns := by unfold JSt.cns; rw [hu]
  have e6 : s'.dfl = s.dfl := by unfold JSt.dfl; rw [hu]
  have e7 : s'.old = s.old := by unfold JSt.old; rw [hu]
  have e8 : s'.ars = s.ars := by unfold JSt.ars; rw [hu]
  have e9 : s'.lbs = s.lbs := by unfold JSt.lbs; rw [hu]
  have e10 : ccs s' = ccs s := by unfold ccs; rw [e1, e4]
  obtain ⟨⟨a1, a2, a3⟩, b, ⟨c1, c2, c3, c4⟩, ⟨d1, d2, d3⟩, f1, f2, f3, f4, f5, f6, f7⟩ := h
  refine ⟨⟨?_, ?_, fun e x hx => ?_⟩, fun q => ?_, ⟨?_, ?_, ?_, fun j hj => ?_⟩, ⟨?_, ?_, fun j x hx => ?_⟩, ?_, ?_, ?_, ?_, ?_, fun q1 q2 => ?_, fun q => ?_⟩
  · rw [e1, hF 30 12 rfl]; exact a1
  · rw [e1]; exact a2
  · rw [e1] at hx
    obtain ⟨z1, z2, z3, z4, z5, z6⟩ := a3 e x hx
    exact ⟨by rw [hL 33 e rfl]; exact z1, z2, by rw [hF 34 e rfl]; exact z3, z4, fun j hj => by rw [hL 35 _ rfl]; exact z5 j hj, z6⟩
  · obtain ⟨z1, z2, z3, z4, z5⟩ := b q
    refine ⟨by rw [hF 30 16 rfl, e2]; exact z1, by rw [e2]; exact z2, by rw [hF 30 17 rfl, e3]; exact z3, by rw [e3]; exact z4, fun w => ?_⟩
    rw [e3] at w
    rw [e1, e4, e5, e10, hF 30 18 rfl]
    exact z5 w
  · rw [e8, hF 30 19 rfl]; exact c1
  · rw [e8]; exact c2
  · rw [e8]; exact c3
  · rw [e8] at hj ⊢
    rw [hF 36 j rfl]; exact c4 j hj
  · rw [e9, hF 30 21 rfl]; exact d1
  · rw [e9]; exact d2
  · rw [e9] at hx
    obtain ⟨z1, z2, z3⟩ := d3 j x hx
    refine ⟨by rw [hF 37 j rfl]; exact z1, by rw [hF 38 j rfl]; exact z2, fun w => ?_⟩
    rw [e3] at w
    rw [hL 39 j rfl, hF 40 j rfl]
    exact z3 w
  · rw [hF 30 27 rfl, e6]; exact f1
  · rw [hF 30 28 rfl, e7]; exact f2
  · rw [e7]; exact f3
  · rw [hF 30 29 rfl, e8, e7]; exact f4
  · rw [e8, e7]; exact f5
  · rw [e7] at q2
    rw [hF 30 46 rfl, hs]
    exact f6 q1 q2
  · rw [e7] at q
    rw [hn]
    exact f7 q
theorem RH.op {tx : List Nat} {m : Nat} {I0 : Nat → Nat → Int32} {L0 : Nat → Nat → Int64} {hd : Bool} {p : Nat} {u0 : JU} {x : Int32} {s s' : JSt} {I I' : Nat → Nat → Int32} {L L' : Nat → Nat → Int64} (h : RH tx m I0 L0 hd p (.ok s) I L) (hX : RX tx m I L u0 260 [] (.ok ((s'.wset x).wu u0)) I' L') (hu : s'.u = s.u) (hs : s'.set = s.set) (hn : s'.nm = s.nm) : RH tx m I0 L0 hd p (.ok s') I' L' :=
  ⟨⟨h.1.1.tr (hX.2.1.1.mono (fun _ _ => S_st_rd)), h.1.2.tr (hX.2.2.1.mono (fun _ _ => S_stL_rd))⟩, ⟨u0, x, hX.reb⟩, h.2.2.fr hX.2.1.1 hX.2.2.1 hu hs hn⟩
theorem RH.opE {tx : List Nat} {m : Nat} {I0 : Nat → Nat → Int32} {L0 : Nat → Nat → Int64} {hd hd' : Bool} {p p' b : Nat} {u0 : JU} {r : JRs} {st : List Fm} {e : Nat × Nat} {I I' : Nat → Nat → Int32} {L L' : Nat → Nat → Int64} (h : RH tx m I0 L0 hd p r I L) (hX : RX tx m I L u0 b st (.error e) I' L') (hb : b ≤ 280) : RH tx m I0 L0 hd' p' (.error e) I' L' :=
  ⟨⟨h.1.1.tr (hX.2.1.1.mono (fun _ _ => S_st_rd)), h.1.2.tr (hX.2.2.1.mono (fun _ _ => S_stL_rd))⟩, u0, ((hX.any (st' := [])).reb).mono hb (by omega)⟩
theorem RH.anyE {tx : List Nat} {m : Nat} {I0 : Nat → Nat → Int32} {L0 : Nat → Nat → Int64} {hd hd' : Bool} {p p' : Nat} {e : Nat × Nat} {I : Nat → Nat → Int32} {L : Nat → Nat → Int64} (h : RH tx m I0 L0 hd p (.error e) I L) : RH tx m I0 L0 hd' p' (.error e) I L := h
theorem RH.flt_ok {tx : List Nat} {m : Nat} {I0 : Nat → Nat → Int32} {L0 : Nat → Nat → Int64} {hd : Bool} {p : Nat} {s : JSt} {I : Nat → Nat → Int32} {L : Nat → Nat → Int64} (h : RH tx m I0 L0 hd p (.ok s) I L) : I 30 8 = 0 := by
  obtain ⟨-, ⟨u0, x, hX⟩, -⟩ := h
  exact hX.flt_ok
theorem RH.flt_er {tx : List Nat} {m : Nat} {I0 : Nat → Nat → Int32} {L0 : Nat → Nat → Int64} {hd : Bool} {p : Nat} {e : Nat × Nat} {I : Nat → Nat → Int32} {L : Nat → Nat → Int64} (h : RH tx m I0 L0 hd p (.error e) I L) : 0 < I 30 8 ∧ ¬ I 30 8 = 0 := by
  obtain ⟨-, u0, hX⟩ := h
  exact hX.flt_er
theorem RH.cl {tx : List Nat} {m : Nat} {I0 : Nat → Nat → Int32} {L0 : Nat → Nat → Int64} {hd : Bool} {p : Nat} {s : JSt} {I : Nat → Nat → Int32} {L : Nat → Nat → Int64} (h : RH tx m I0 L0 hd p (.ok s) I L) : I 30 4 = tcl (tk tx s.k).1 := by
  obtain ⟨-, ⟨u0, x, hX⟩, -⟩ := h
  exact hX.cl
theorem RH.nam {tx : List Nat} {m : Nat} {I0 : Nat → Nat → Int32} {L0 : Nat → Nat → Int64} {hd : Bool} {p : Nat} {s : JSt} {I : Nat → Nat → Int32} {L : Nat → Nat → Int64} (h : RH tx m I0 L0 hd p (.ok s) I L) (hk : (tk tx s.k).1 = 16) : L 30 6 = lN (pkB 128 (jnam tx s)) ∧ NmOk (jnam tx s) := by
  obtain ⟨-, ⟨u0, x, hX⟩, -⟩ := h
  exact ⟨(hX.ok.1.1.1.2.2.2.2.1 hk).2, tk_nm hX.1.1 (Or.inl hk)⟩
theorem RH.txt {tx : List Nat} {m : Nat} {I0 : Nat → Nat → Int32} {L0 : Nat → Nat → Int64} {hd : Bool} {p : Nat} {s : JSt} {I : Nat → Nat → Int32} {L : Nat → Nat → Int64} (h : RH tx m I0 L0 hd p (.ok s) I L) (hk : (tk tx s.k).1 = 18) : L 30 6 = lN (pkB 256 (jnam tx s)) ∧ I 30 7 = nI (jnam tx s).length ∧ NmOk (jnam tx s) := by
  obtain ⟨-, ⟨u0, x, hX⟩, -⟩ := h
  have := hX.ok.1.1.1.2.2.2.2.2.2.1 hk
  exact ⟨this.2.1, this.2.2, tk_nm hX.1.1 (Or.inr hk)⟩
theorem RH.plc {tx : List Nat} {m : Nat} {I0 : Nat → Nat → Int32} {L0 : Nat → Nat → Int64} {hd : Bool} {p : Nat} {s : JSt} {I : Nat → Nat → Int32} {L : Nat → Nat → Int64} (h : RH tx m I0 L0 hd p (.ok s) I L) : I 30 5 = nI (tk tx s.k).2.1 := by
  obtain ⟨-, ⟨u0, x, hX⟩, -⟩ := h
  exact hX.ok.1.1.1.1
theorem h_next {XL : Nat} {XS : Nat → Int32} {n : Nat} {C : mC} {I : Nat → Nat → Int32} {L : Nat → Nat → Int64} {K : mK} {tx : List Nat} {m : Nat} {I0 : Nat → Nat → Int32} {L0 : Nat → Nat → Int64} {hd : Bool} {p : Nat} {s : JSt} (hC : m_Ge XL XS (n + 3) C) (h : RH tx m I0 L0 hd p (.ok s) I L) (h27 : (tk tx s.k).1 < 27) (hK : ∀ I' L', RH tx m I0 L0 hd p (.ok (s.wk (s.k + 1))) I' L' → K none (m_SH, I', L')) : C 107 [.ref 30] (m_SH, I, L) K := by
  obtain ⟨u0, x, hX⟩ := h.2.1
  exact r_nextX hC hX h27 (fun I' L' h' => hK _ _ (h.op (s' := s.wk (s.k + 1)) h' rfl rfl rfl))
theorem h_isSign {XL : Nat} {XS : Nat → Int32} {n : Nat} {C : mC} {I : Nat → Nat → Int32} {L : Nat → Nat → Int64} {K : mK} {tx : List Nat} {m : Nat} {I0 : Nat → Nat → Int32} {L0 : Nat → Nat → Int64} {hd : Bool} {p : Nat} {s : JSt} {k : Nat} (hC : m_Ge XL XS (n + 1) C) (h : RH tx m I0 L0 hd p (.ok s) I L) (h1 : 19 ≤ k) (h2 : k ≤ 26) (hK : K (some (.int (if (tk tx s.k).1 = k then 1 else 0))) (m_SH, I, L)) : C 114 [.ref 30, .int (sgC k)] (m_SH, I, L) K := by
  obtain ⟨u0, x, hX⟩ := h.2.1
  exact r_isSignX hC hX h1 h2 hK
theorem h_isWord {XL : Nat} {XS : Nat → Int32} {n : Nat} {C : mC} {I : Nat → Nat → Int32} {L : Nat → Nat → Int64} {K : mK} {tx : List Nat} {m : Nat} {I0 : Nat → Nat → Int32} {L0 : Nat → Nat → Int64} {hd : Bool} {p : Nat} {s : JSt} {w : Nat} (hC : m_Ge XL XS (n + 1) C) (h : RH tx m I0 L0 hd p (.ok s) I L) (hw : w < 15) (hK : K (some (.int (if (tk tx s.k).1 = w + 1 then 1 else 0))) (m_SH, I, L)) : C 115 [.ref 30, .int (nI w)] (m_SH, I, L) K := by
  obtain ⟨u0, x, hX⟩ := h.2.1
  exact r_isWordX hC hX hw hK
theorem h_wrong {XL : Nat} {XS : Nat → Int32} {n : Nat} {C : mC} {I : Nat → Nat → Int32} {L : Nat → Nat → Int64} {K : mK} {tx : List Nat} {m : Nat} {I0 : Nat → Nat → Int32} {L0 : Nat → Nat → Int64} {hd : Bool} {p : Nat} {s : JSt} {a : Nat} (hC : m_Ge XL XS (n + 1) C) (h : RH tx m I0 L0 hd p (.ok s) I L) (ha2 : a ≠ 2) (ha0 : a ≠ 0) (ha : a ≤ 12) (hK : ∀ I', RH tx m I0 L0 hd p (jfal tx a (.ok s)) I' L → K none (m_SH, I', L)) : C 111 [.ref 30, .int (nI a)] (m_SH, I, L) K := by
  obtain ⟨u0, x, hX⟩ := h.2.1
  exact r_wrongX hC hX ha2 ha0 ha (fun I' h' => hK _ (h.opE (b := 260) h' (by omega)))
theorem h_cannot {XL : Nat} {XS : Nat → Int32} {n : Nat} {C : mC} {I : Nat → Nat → Int32} {L : Nat → Nat → Int64} {K : mK} {tx : List Nat} {m : Nat} {I0 : Nat → Nat → Int32} {L0 : Nat → Nat → Int64} {hd : Bool} {p : Nat} {s : JSt} (hC : m_Ge XL XS (n + 2) C) (h : RH tx m I0 L0 hd p (.ok s) I L) (hK : ∀ I', RH tx m I0 L0 hd p (jfal tx 2 (.ok s)) I' L → K none (m_SH, I', L)) : C 113 [.ref 30] (m_SH, I, L) K := by
  obtain ⟨u0, x, hX⟩ := h.2.1
  exact r_cannotX hC hX (fun I' h' => hK _ (h.opE (b := 260) h' (by omega)))
theorem h_wantsSign {XL : Nat} {XS : Nat → Int32} {n : Nat} {C : mC} {I : Nat → Nat → Int32} {L : Nat → Nat → Int64} {K : mK} {tx : List Nat} {m : Nat} {I0 : Nat → Nat → Int32} {L0 : Nat → Nat → Int64} {hd : Bool} {p : Nat} {r : JRs} {k : Nat} (hC : m_Ge XL XS (n + 4) C) (h : RH tx m I0 L0 hd p r I L) (h1 : 19 ≤ k) (h2 : k ≤ 26) (hK : ∀ I' L', RH tx m I0 L0 hd p (jxpc tx k r) I' L' → K none (m_SH, I', L')) : C 116 [.ref 30, .int (sgC k)] (m_SH, I, L) K := by
  cases r with
  | error e =>
    obtain ⟨u0, hX⟩ := h.2
    refine r_wantsSignX hC hX h1 h2 (fun I' L' h' => ?_)
    rw [jxpc_er] at h' hK
    exact hK _ _ (h.opE h' (Nat.le_refl _))
  | ok s =>
    obtain ⟨u0, x, hX⟩ := h.2.1
    refine r_wantsSignX hC hX h1 h2 (fun I' L' h' => ?_)
    unfold jxpc at h' hK
    by_cases g : (tk tx s.k).1 = k
    · rw [if_pos (show jkd tx (.ok s) = k from g)] at hK
      rw [if_pos (show jkd tx (.ok ((s.wset x).wu u0)) = k from g)] at h'
      exact hK _ _ (h.op (s' := s.wk (s.k + 1)) h' rfl rfl rfl)
    · rw [if_neg (show ¬ jkd tx (.ok s) = k from g)] at hK
      rw [if_neg (show ¬ jkd tx (.ok ((s.wset x).wu u0)) = k from g)] at h'
      exact hK _ _ (h.opE (b := 260) h' (by omega))
/-- a change that the stmts' part of the world doesn't see -/
def S_un : Nat → Nat → Bool := fun p q => (p == 30 && (q == 12 || q == 17 || q == 18 || q == 19 || q == 21 || q == 27 || q == 28 || q == 29 || q == 46)) || p == 34 || p == 36 || p == 37 || p == 38 || p == 40
def S_unL : Nat → Nat → Bool := fun p _ => p == 33 || p == 35 || p == 39
theorem S_un_rd {p q : Nat} (h : S_rd p q = false) : S_un p q = false := by
  unfold S_rd at h
  unfold S_un
  simp at h ⊢
  have := h.1.1.1.1.1.2
  refine ⟨⟨⟨⟨⟨?_, h.1.1.1.1.2⟩, h.1.1.1.2⟩, h.1.1.2⟩, h.1.2⟩, h.2⟩
  intro e
  have := this e
  omega
theorem S_unL_rd {p q : Nat} (h : S_rdL p q = false) : S_unL p q = false := by
  unfold S_rdL at h
  unfold S_unL
  simp at h ⊢
  exact ⟨⟨h.1.1.2, h.1.2⟩, h.2⟩
theorem RX.un {tx : List Nat} {m : Nat} {u0 : JU} {b : Nat} {x : Int32} {s s' : JSt} {I I' : Nat → Nat → Int32} {L L' : Nat → Nat → Int64} (h : RX tx m I L u0 b [] (.ok ((s.wset x).wu u0)) I L) (hF : Fr S_un I I') (hL : Fr S_unL L L') (hk : s'.k = s.k) (hsm : s'.sm = s.sm) (hn : s'.nm = s.nm) (hc : s'.cd = s.cd) : RX tx m I' L' u0 b [] (.ok ((s'.wset x).wu u0)) I' L' := by
  have hcdb := h.cdb
  obtain ⟨⟨q1, q2, q3⟩, ⟨b1, b2⟩, ⟨c1, c2, c3⟩, ⟨d1, d2, d3, d4⟩, ⟨e1, e2⟩, ⟨g1, g2, g3, g4, g5⟩⟩ := h.ok
  have k1 : ((s'.wset x).wu u0).k = ((s.wset x).wu u0).k := hk
  have k2 : ((s'.wset x).wu u0).sm = ((s.wset x).wu u0).sm := hsm
  have k3 : ((s'.wset x).wu u0).nm = ((s.wset x).wu u0).nm := hn
  have k4 : ((s'.wset x).wu u0).cd = ((s.wset x).wu u0).cd := hc
  have k5 : ((s'.wset x).wu u0).set = ((s.wset x).wu u0).set := rfl
  have k6 : ((s'.wset x).wu u0).val = ((s.wset x).wu u0).val := rfl
  refine ⟨⟨h.1.1, h.1.2.1, h.1.2.2.1, h.1.2.2.2.1.fr hF rfl (fun _ => rfl), h.1.2.2.2.2.fr hL (fun _ => rfl)⟩, ⟨Fr.rf, h.2.1.2.of (fun j => hF 46 j rfl)⟩, Fr.rf, h.2.2.2.1, ⟨⟨?_, ?_, ?_⟩, ⟨?_, ?_⟩, ⟨?_, ?_, rfl⟩, ⟨?_, ?_, fun j hj => ?_, ?_⟩, ⟨?_, fun j y hy => ?_⟩, ?_, ?_, g3, g4, trivial⟩, ?_⟩
  · rw [k1]
    exact q1.fr (hF 30 3 rfl) (hF 30 4 rfl) (hF 30 5 rfl) (hF 30 7 rfl) (hL 30 6 rfl)
  · rw [hF 30 8 rfl]; exact q2
  · rw [k1]; exact q3
  · rw [hF 30 26 rfl, k2]; exact b1
  · rw [k2]; exact b2
  · rw [hF 30 36 rfl, k5]; exact c1
  · rw [hF 30 16 rfl, k6]; exact c2
  · rw [hF 30 35 rfl, k3]; exact d1
  · rw [k3]; exact d2
  · rw [k3] at hj ⊢
    rw [hL 44 j rfl]; exact d3 j hj
  · rw [k3]; exact d4
  · rw [hF 30 33 rfl, k4]; exact e1
  · rw [k4] at hy
    rw [hF 41 j rfl, hF 42 j rfl, hF 43 j rfl]; exact e2 j y hy
  · rw [hF 30 44 rfl]; exact g1
  · rw [hF 30 45 rfl]; exact g2
  · rw [k4]; exact hcdb
theorem RH.un {tx : List Nat} {m : Nat} {I0 : Nat → Nat → Int32} {L0 : Nat → Nat → Int64} {hd hd' : Bool} {p p' : Nat} {s s' : JSt} {I I' : Nat → Nat → Int32} {L L' : Nat → Nat → Int64} (h : RH tx m I0 L0 hd p (.ok s) I L) (hF : Fr S_un I I') (hL : Fr S_unL L L') (hk : s'.k = s.k) (hsm : s'.sm = s.sm) (hn : s'.nm = s.nm) (hc : s'.cd = s.cd) (hU : RU hd' p' s' I' L') : RH tx m I0 L0 hd' p' (.ok s') I' L' := by
  obtain ⟨u0, x, hX⟩ := h.2.1
  exact ⟨⟨h.1.1.tr (hF.mono (fun _ _ => S_un_rd)), h.1.2.tr (hL.mono (fun _ _ => S_unL_rd))⟩, ⟨u0, x, hX.un hF hL hk hsm hn hc⟩, hU⟩
