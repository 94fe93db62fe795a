/-! ===== the reference reads an enumeration ===== -/
def S_en : Nat → Nat → Bool := fun p q => (p == 30 && q == 12) || p == 34
def S_enL : Nat → Nat → Bool := fun p _ => p == 33 || p == 35
theorem S_en_un {p q : Nat} (h : S_un p q = false) : S_en p q = false := by
  unfold S_un at h
  unfold S_en
  simp at h ⊢
  refine ⟨fun e => ?_, h.1.1.1.1.2⟩
  have := h.1.1.1.1.1 e
  omega
theorem S_enL_un {p q : Nat} (h : S_unL p q = false) : S_enL p q = false := by
  unfold S_unL at h
  unfold S_enL
  simp at h ⊢
  exact h.1
theorem RU.en {p : Nat} {s : JSt} {x : List (List Nat × List (List Nat))} {I I' : Nat → Nat → Int32} {L L' : Nat → Nat → Int64} (h : RU false p s I L) (hF : Fr S_en I I') (hL : Fr S_enL L L') (hE : REn (s.wens x) I' L') : RU false p (s.wens x) I' L' := by
  obtain ⟨-, b, ⟨c1, c2, c3, c4⟩, ⟨d1, d2, d3⟩, f1, f2, f3, f4, f5, f6, f7⟩ := h
  refine ⟨hE, fun q => absurd q (by decide), ⟨?_, c2, c3, fun j hj => ?_⟩, ⟨?_, d2, fun j y hy => ?_⟩, ?_, ?_, f3, ?_, f5, fun q1 q2 => ?_, f7⟩
  · rw [hF 30 19 rfl]; exact c1
  · rw [hF 36 j rfl]; exact c4 j hj
  · rw [hF 30 21 rfl]; exact d1
  · rw [hF 37 j rfl, hF 38 j rfl, hL 39 j rfl, hF 40 j rfl]
    exact d3 j y hy
  · rw [hF 30 27 rfl]; exact f1
  · rw [hF 30 28 rfl]; exact f2
  · rw [hF 30 29 rfl]; exact f4
  · rw [hF 30 46 rfl]; exact f6 q1 q2
theorem REn.app {s : JSt} {c : List Nat} {I : Nat → Nat → Int32} {L : Nat → Nat → Int64} (h : REn s I L) (hc : NmOk c) (hl : s.ens.length < 4) (hv : L 30 6 = lN (pkB 128 c)) : REn (s.wens (s.ens ++ [(c, [])])) (m_up (m_up I 34 s.ens.length 0) 30 12 (nI (s.ens.length + 1))) (m_upL L 33 s.ens.length (L 30 6)) := by
  obtain ⟨h1, h2, h3⟩ := h
  have he : (s.wens (s.ens ++ [(c, [])])).ens = s.ens ++ [(c, [])] := rfl
  refine ⟨?_, ?_, fun e x hx => ?_⟩
  · rw [he, List.length_append]; simp [m_upr]
  · rw [he, List.length_append]; simp; omega
  · rw [he] at hx
    by_cases g : e < s.ens.length
    · rw [List.getElem?_append_left g] at hx
      obtain ⟨z1, z2, z3, z4, z5, z6⟩ := h3 e x hx
      have g2 : ¬ e = s.ens.length := by omega
      refine ⟨by simp [m_uprL, g2]; exact z1, z2, by simp [m_upr, g2]; exact z3, z4, fun j hj => by simp [m_uprL]; simpa using z5 j hj, z6⟩
    · by_cases g2 : e = s.ens.length
      · subst g2
        simp at hx
        subst hx
        refine ⟨by simp [m_uprL, hv], hc, by simp [m_upr]; rfl, by simp, fun j hj => absurd hj (by simp), fun c hc => absurd hc (by simp)⟩
      · rw [List.getElem?_eq_none (by rw [List.length_append]; simp; omega)] at hx
        cases hx
theorem lcs_some {s : JSt} (h : 0 < s.ens.length) : ∃ x, s.ens[s.ens.length - 1]? = some x ∧ lcs s = x.2 := by
  have hl : s.ens.length - 1 < s.ens.length := by omega
  refine ⟨s.ens[s.ens.length - 1], List.getElem?_eq_getElem hl, ?_⟩
  unfold lcs
  rw [List.getElem?_eq_getElem hl]
theorem acs_lcs {s : JSt} {c : List Nat} (h : 0 < s.ens.length) : lcs (acs c s) = lcs s ++ [c] ∧ (acs c s).ens.length = s.ens.length := by
  obtain ⟨x, h1, h2⟩ := lcs_some h
  have he : (acs c s).ens = s.ens.modify (s.ens.length - 1) (fun x => (x.1, x.2 ++ [c])) := rfl
  have hl : (acs c s).ens.length = s.ens.length := by rw [he, List.length_modify]
  refine ⟨?_, hl⟩
  have : lcs (acs c s) = (match (s.ens.modify (s.ens.length - 1) (fun x => (x.1, x.2 ++ [c])))[s.ens.length - 1]? with | some x => x.2 | none => []) := by
    unfold lcs
    rw [hl, he] <;> rfl
  rw [this, List.getElem?_modify, h1, h2]
  simp
theorem REn.add {s : JSt} {c : List Nat} {e : Nat} {I : Nat → Nat → Int32} {L : Nat → Nat → Int64} (h : REn s I L) (hc : NmOk c) (he : e + 1 = s.ens.length) (hl : (lcs s).length < 16) (hv : L 30 6 = lN (pkB 128 c)) : REn (acs c s) (m_up I 34 e (nI ((lcs s).length + 1))) (m_upL L 35 (16 * e + (lcs s).length) (L 30 6)) := by
  obtain ⟨h1, h2, h3⟩ := h
  obtain ⟨y, y1, y2⟩ := lcs_some (s := s) (by omega)
  have he1 : s.ens.length - 1 = e := by omega
  rw [he1] at y1
  have hen : (acs c s).ens = s.ens.modify e (fun x => (x.1, x.2 ++ [c])) := by
    show s.ens.modify (s.ens.length - 1) _ = _
    rw [he1]
  have hll : (acs c s).ens.length = s.ens.length := by rw [hen, List.length_modify]
  rw [y2] at hl ⊢
  refine ⟨by rw [hll]; simp [m_upr]; exact h1, by rw [hll]; exact h2, fun i x hx => ?_⟩
  rw [hen, List.getElem?_modify] at hx
  by_cases g : e = i
  · subst g
    rw [y1] at hx
    have hx : some (y.1, y.2 ++ [c]) = some x := by simpa using hx
    have hx := Option.some.inj hx
    obtain ⟨z1, z2, z3, z4, z5, z6⟩ := h3 e y y1
    subst hx
    refine ⟨by simp [m_uprL]; exact z1, z2, by simp [m_upr], by simp; omega, fun j hj => ?_, fun w hw => ?_⟩
    · by_cases g2 : j = y.2.length
      · subst g2
        simp [m_uprL, hv]
      · have hj : j < y.2.length := by simp at hj; omega
        have g3 : ¬ 16 * e + j = 16 * e + y.2.length := by omega
        rw [m_uprL, if_pos rfl, if_neg g3, z5 j hj]
        congr 2
        rw [List.getD_eq_getElem?_getD, List.getD_eq_getElem?_getD, List.getElem?_append_left hj]
    · rcases List.mem_append.mp hw with hw | hw
      · exact z6 w hw
      · rw [List.mem_singleton.mp hw]; exact hc
  · have hx : s.ens[i]? = some x := by simpa [g] using hx
    obtain ⟨z1, z2, z3, z4, z5, z6⟩ := h3 i x hx
    have hi : i < s.ens.length := by
      by_cases q : i < s.ens.length
      · exact q
      · rw [List.getElem?_eq_none (by omega)] at hx; cases hx
    have g' : ¬ i = e := fun z => g z.symm
    refine ⟨by simp [m_uprL]; exact z1, z2, by simp [m_upr, g']; exact z3, z4, fun j hj => ?_, z6⟩
    have g3 : ¬ 16 * i + j = 16 * e + y.2.length := by omega
    rw [m_uprL, if_pos rfl, if_neg g3]
    exact z5 j hj
theorem jcon_er {tx : List Nat} {e : Nat × Nat} : jcon tx (.error e) = .error e := rfl
theorem jclp_er {tx : List Nat} {e : Nat × Nat} : ∀ i, jclp tx i (.error e) = .error e
  | 0 => rfl
  | i + 1 => by
    unfold jclp
    exact if_neg (show ¬ (0 = 23) by decide)
theorem jclp_f {tx : List Nat} {a i k : Nat} {s : JSt} : jxpc tx k (jclp tx i (jfal tx a (.ok s))) = jfal tx a (.ok s) := by
  obtain ⟨e, he⟩ := jfal_err (tx := tx) (a := a) (r := .ok s)
  rw [he, jclp_er, jxpc_er]
theorem ix_srch {f : Nat → Bool} {cs : List Nat} {ns : List (List Nat)} (hl : ns.length ≤ 32) (h : ∀ j, j < ns.length → f j = decide (ns.getD j [] = cs)) : (srch f ns.length 0 < 0 ↔ ¬ cs ∈ ns) ∧ (cs ∈ ns → srch f ns.length 0 = nI (ns.idxOf cs)) ∧ (¬ cs ∈ ns → srch f ns.length 0 = -1) := by
  have := srch_idx (f := f) (cs := cs) ns 0 (fun j hj => by rw [Nat.zero_add]; exact h j hj)
  rw [this]
  by_cases g : cs ∈ ns
  · rw [if_pos g, Nat.zero_add]
    have hl2 : ns.idxOf cs < ns.length := List.idxOf_lt_length_iff.mpr g
    exact ⟨⟨fun z => absurd z (nI_pos (by omega)), fun z => absurd g z⟩, fun _ => rfl, fun z => absurd g z⟩
  · rw [if_neg g]
    exact ⟨⟨fun _ => g, fun _ => by decide⟩, fun z => absurd z g, fun _ => rfl⟩
theorem h_constantOf {XL : Nat} {XS : Nat → Int32} {n : Nat} {C : mC} {I : Nat → Nat → Int32} {L : Nat → Nat → Int64} {K : mK} {tx : List Nat} {m : Nat} {I0 : Nat → Nat → Int32} {L0 : Nat → Nat → Int64} {hd : Bool} {p e : Nat} {s : JSt} {x : List Nat × List (List Nat)} (hC : m_Ge XL XS (n + 1) C) (h : RH tx m I0 L0 hd p (.ok s) I L) (hk : (tk tx s.k).1 = 16) (hx : s.ens[e]? = some x) (hK : ∀ v, (v < 0 ↔ ¬ jnam tx s ∈ x.2) → (jnam tx s ∈ x.2 → v = nI (x.2.idxOf (jnam tx s))) → (¬ jnam tx s ∈ x.2 → v = -1) → K (some (.int v)) (m_SH, I, L)) : C 120 [.ref 30, .int (nI e), .long (L 30 6)] (m_SH, I, L) K := by
  obtain ⟨hn1, hn2⟩ := h.nam hk
  obtain ⟨⟨h1, h2, h3⟩, -⟩ := h.2.2
  obtain ⟨z1, z2, z3, z4, z5, z6⟩ := h3 e x hx
  have he : e < s.ens.length := by
    by_cases q : e < s.ens.length
    · exact q
    · rw [List.getElem?_eq_none (by omega)] at hx; cases hx
  have hi := ix_srch (f := fun j => L 35 (16 * e + j) == L 30 6) (cs := jnam tx s) (ns := x.2) (by omega) (fun j hj => by
    show (L 35 (16 * e + j) == L 30 6) = _
    rw [z5 j hj, hn1]
    refine beq_of_iff (nm_inj7 (z6 _ ?_) hn2)
    rw [List.getD_eq_getElem?_getD, List.getElem?_eq_getElem hj]
    exact List.getElem_mem _)
  exact r_constantOf hC (by omega) z3 z4 (hK _ hi.1 hi.2.1 hi.2.2)
theorem REn.nam {s : JSt} {I : Nat → Nat → Int32} {L : Nat → Nat → Int64} (h : REn s I L) {e : Nat} (he : e < s.ens.length) {c : List Nat} (hc : NmOk c) : L 33 e = lN (pkB 128 c) ↔ (s.ens.map (fun x => x.1)).getD e [] = c := by
  have hx : s.ens[e]? = some s.ens[e] := List.getElem?_eq_getElem he
  obtain ⟨z1, z2, -⟩ := h.2.2 e _ hx
  have : (s.ens.map (fun x => x.1)).getD e [] = s.ens[e].1 := by
    rw [List.getD_eq_getElem?_getD, List.getElem?_map, hx]
    rfl
  rw [this, z1]
  exact nm_inj7 z2 hc
theorem r_readEnum {XL : Nat} {XS : Nat → Int32} {n : Nat} {C : mC} {I : Nat → Nat → Int32} {L : Nat → Nat → Int64} {K : mK} {tx : List Nat} {m : Nat} {I0 : Nat → Nat → Int32} {L0 : Nat → Nat → Int64} {s : JSt} (hC : m_Ge XL XS (n + 6) C) (h0 : RH tx m I0 L0 false 0 (.ok s) I L) (hk0 : (tk tx s.k).1 < 27) (hK : ∀ I' L', RH tx m I0 L0 false 0 (jenm tx (jadv (.ok s))) I' L' → K none (m_SH, I', L')) : C 119 [.ref 30] (m_SH, I, L) K := by
  refine e_X9_readEnum hC (Nat.le_of_ble_eq_true rfl) ?_
  intro C' hC' P hP
  repeat (refine hP _ ?_; conv => whnf)
  refine h_next (n := n + 2) hC' h0 hk0 (fun I1 L1 h1 => ?_)
  have hK : ∀ I' L', RH tx m I0 L0 false 0 (jenm tx (.ok (s.wk (s.k + 1)))) I' L' → K none (m_SH, I', L') := hK
  clear h0 hk0
  generalize s.wk (s.k + 1) = s1 at h1 hK
  have hj : jenm tx (.ok s1) = if ¬ (tk tx s1.k).1 = 16 then jfal tx 2 (.ok s1) else if jnam tx s1 ∈ s1.ens.map (fun x => x.1) then jfal tx 3 (.ok s1) else if 4 ≤ s1.ens.length then jfal tx 12 (.ok s1) else jxpc tx 20 (jclp tx 16 (jcon tx (jxpc tx 19 (jadv (.ok (s1.wens (s1.ens ++ [(jnam tx s1, [])]))))))) := rfl
  rw [hj] at hK
  have ht1 := (tcl_eq (tk_29 tx s1.k)).2.1
  repeat (refine hP _ ?_; conv => whnf)
  rw [h1.cl]
  refine ⟨fun z => ?_, fun z => ?_⟩
  rotate_left
  · have g : ¬ (tk tx s1.k).1 = 16 := fun y => z (ht1.mpr y)
    rw [if_pos g] at hK
    repeat (refine hP _ ?_; conv => whnf)
    refine h_cannot (n := n + 3) hC' h1 (fun I' h' => ?_)
    repeat (refine hP _ ?_; conv => whnf)
    exact hK _ _ h'
  · have g := ht1.mp z
    rw [if_neg (fun y => y g)] at hK
    obtain ⟨hn1, hn2⟩ := h1.nam g
    have hen := h1.2.2.1
    have e12 : I1 30 12 = nI s1.ens.length := hen.1
    have e4 := hen.2.1
    have mem_of : ∀ i, i < s1.ens.length → (s1.ens.map (fun x => x.1)).getD i [] = jnam tx s1 → jnam tx s1 ∈ s1.ens.map (fun x => x.1) := by
      intro i hi e
      rw [← e, List.getD_eq_getElem?_getD, List.getElem?_eq_getElem (by rw [List.length_map]; exact hi)]
      exact List.getElem_mem _
    -- the constants
    have step : ∀ (q : JSt) (e : Nat) (J : Nat → Nat → Int32) (M : Nat → Nat → Int64), RH tx m I0 L0 false 0 (.ok q) J M → e + 1 = q.ens.length → (∀ a I' L', jcon tx (.ok q) = jfal tx a (.ok q) → RH tx m I0 L0 false 0 (jfal tx a (.ok q)) I' L' → K none (m_SH, I', L')) →
        (∀ I' L', jcon tx (.ok q) = .ok ((acs (jnam tx q) q).wk (q.k + 1)) → (lcs q).length < 16 → RH tx m I0 L0 false 0 (.ok ((acs (jnam tx q) q).wk (q.k + 1))) I' L' → P (206, [some (.ref 30), some (.int (nI e)), some (.int 1)], [], (m_SH, I', L'), 0, 0)) → P (112, [some (.ref 30), some (.int (nI e)), some (.int 1)], [], (m_SH, J, M), 0, 0) := by
      intro q e J M hq he hbad hgood
      have hjc : jcon tx (.ok q) = if ¬ (tk tx q.k).1 = 16 then jfal tx 2 (.ok q) else if jnam tx q ∈ lcs q then jfal tx 3 (.ok q) else if 16 ≤ (lcs q).length then jfal tx 12 (.ok q) else .ok ((acs (jnam tx q) q).wk (q.k + 1)) := rfl
      rw [hjc] at hbad hgood
      have hte := (tcl_eq (tk_29 tx q.k)).2.1
      repeat (refine hP _ ?_; conv => whnf)
      refine ⟨fun z => absurd z (by decide), fun _ => ?_⟩
      repeat (refine hP _ ?_; conv => whnf)
      refine ⟨fun _ => ?_, fun z => absurd hq.flt_ok z⟩
      repeat (refine hP _ ?_; conv => whnf)
      rw [hq.cl]
      refine ⟨fun z => ?_, fun z => ?_⟩
      rotate_left
      · have g : ¬ (tk tx q.k).1 = 16 := fun y => z (hte.mpr y)
        rw [if_pos g] at hbad
        repeat (refine hP _ ?_; conv => whnf)
        refine h_cannot (n := n + 3) hC' hq (fun I' h' => ?_)
        repeat (refine hP _ ?_; conv => whnf)
        exact hbad 2 _ _ rfl h'
      · have g := hte.mp z
        rw [if_neg (fun y => y g)] at hbad hgood
        obtain ⟨x, x1, x2⟩ := lcs_some (s := q) (by omega)
        rw [show q.ens.length - 1 = e by omega] at x1
        obtain ⟨z1, z2, z3, z4, z5, z6⟩ := hq.2.2.1.2.2 e x x1
        have hel := hq.2.2.1.2.1
        repeat (refine hP _ ?_; conv => whnf)
        refine h_constantOf (n := n + 4) hC' hq g x1 (fun v hv1 hv2 hv3 => ?_)
        rw [← x2] at hv1 hv2 hv3 z3 z4
        repeat (refine hP _ ?_; conv => whnf)
        refine ⟨fun y => ?_, fun y => ?_⟩
        · have gm := hv1.mp y
          rw [if_neg gm] at hbad hgood
          repeat (refine hP _ ?_; conv => whnf)
          refine ⟨vp_in_nI (by omega) (by omega), ?_⟩
          rw [nI_clamp (by omega), z3]
          repeat (refine hP _ ?_; conv => whnf)
          refine ⟨fun w => ?_, fun w => ?_⟩
          · have h16 : 16 ≤ (lcs q).length := by
              have := (nI_eq (a := (lcs q).length) (b := 16) (by omega) (by omega)).mp w
              omega
            rw [if_pos h16] at hbad
            repeat (refine hP _ ?_; conv => whnf)
            refine h_wrong (a := 12) (n := n + 4) hC' hq (by decide) (by decide) (by decide) (fun I' h' => ?_)
            repeat (refine hP _ ?_; conv => whnf)
            exact hbad 12 _ _ rfl h'
          · have h16 : ¬ 16 ≤ (lcs q).length := fun u => w (by rw [show (lcs q).length = 16 by omega]; rfl)
            rw [if_neg h16] at hgood
            obtain ⟨hm1, hm2⟩ := hq.nam g
            repeat (refine hP _ ?_; conv => whnf)
            refine ⟨vp_in_nI (by omega) (by omega), ?_⟩
            rw [nI_clamp (by omega), z3]
            repeat (refine hP _ ?_; conv => whnf)
            rw [nI_mul16' (by omega) (by omega)]
            refine ⟨vp_in_nI (by omega) (by omega), ?_⟩
            rw [nI_clamp (by omega)]
            repeat (refine hP _ ?_; conv => whnf)
            refine ⟨vp_in_nI (by omega) (by omega), ?_⟩
            rw [nI_clamp (by omega), z3]
            repeat (refine hP _ ?_; conv => whnf)
            refine ⟨vp_in_nI (by omega) (by omega), ?_⟩
            rw [nI_clamp (by omega), nI_1]
            have hnew : RH tx m I0 L0 false 0 (.ok (acs (jnam tx q) q)) (m_up J 34 e (nI ((lcs q).length + 1))) (m_upL M 35 (16 * e + (lcs q).length) (M 30 6)) := by
              refine hq.un (Fr.rf.up rfl) (Fr.rf.upL rfl) rfl rfl rfl rfl (hq.2.2.en (Fr.rf.up rfl) (Fr.rf.upL rfl) ?_)
              exact hq.2.2.1.add hm2 he (by omega) hm1
            repeat (refine hP _ ?_; conv => whnf)
            refine h_next (n := n + 2) hC' hnew (by show (tk tx q.k).1 < 27; omega) (fun I' L' h' => ?_)
            exact hgood _ _ rfl (by omega) h'
        · have gm : jnam tx q ∈ lcs q := by
            by_cases u : jnam tx q ∈ lcs q
            · exact u
            · exact absurd (hv1.mpr u) y
          rw [if_pos gm] at hbad
          repeat (refine hP _ ?_; conv => whnf)
          refine h_wrong (a := 3) (n := n + 4) hC' hq (by decide) (by decide) (by decide) (fun I' h' => ?_)
          repeat (refine hP _ ?_; conv => whnf)
          exact hbad 3 _ _ rfl h'
    have clp : ∀ (i : Nat) (r : JRs) (e : Nat) (J : Nat → Nat → Int32) (M : Nat → Nat → Int64), RH tx m I0 L0 false 0 r J M → (∀ q, r = .ok q → e + 1 = q.ens.length ∧ 16 ≤ (lcs q).length + i) → (∀ I' L', RH tx m I0 L0 false 0 (jxpc tx 20 (jclp tx i (jcon tx r))) I' L' → K none (m_SH, I', L')) → P (112, [some (.ref 30), some (.int (nI e)), some (.int 1)], [], (m_SH, J, M), 0, 0) := by
      have err : ∀ (er : Nat × Nat) (i e : Nat) (J : Nat → Nat → Int32) (M : Nat → Nat → Int64), RH tx m I0 L0 false 0 (.error er) J M → (∀ I' L', RH tx m I0 L0 false 0 (jxpc tx 20 (jclp tx i (jcon tx (.error er)))) I' L' → K none (m_SH, I', L')) → P (112, [some (.ref 30), some (.int (nI e)), some (.int 1)], [], (m_SH, J, M), 0, 0) := by
        intro er i e J M hr hk
        rw [jcon_er, jclp_er] at hk
        repeat (refine hP _ ?_; conv => whnf)
        refine ⟨fun z => absurd z (by decide), fun _ => ?_⟩
        repeat (refine hP _ ?_; conv => whnf)
        refine ⟨fun z => absurd z hr.flt_er.2, fun _ => ?_⟩
        repeat (refine hP _ ?_; conv => whnf)
        refine h_wantsSign (k := 20) (n := n + 1) hC' hr (by decide) (by decide) (fun I' L' h' => ?_)
        repeat (refine hP _ ?_; conv => whnf)
        exact hk _ _ h'
      intro i
      induction i with
      | zero =>
        intro r e J M hr hq hk
        cases r with
        | error er => exact err er 0 e J M hr hk
        | ok q =>
          obtain ⟨q1, q2⟩ := hq q rfl
          refine step q e J M hr q1 (fun a I' L' e1 h' => ?_) (fun I' L' e1 hlt h' => by omega)
          rw [e1, jclp_f] at hk
          exact hk _ _ h'
      | succ i ih =>
        intro r e J M hr hq hk
        cases r with
        | error er => exact err er (i + 1) e J M hr hk
        | ok q =>
          obtain ⟨q1, q2⟩ := hq q rfl
          refine step q e J M hr q1 (fun a I' L' e1 h' => ?_) (fun I' L' e1 hlt h' => ?_)
          · rw [e1, jclp_f] at hk
            exact hk _ _ h'
          · rw [e1] at hk
            obtain ⟨a1, a2⟩ := acs_lcs (s := q) (c := jnam tx q) (by omega)
            have b1 : lcs ((acs (jnam tx q) q).wk (q.k + 1)) = lcs q ++ [jnam tx q] := a1
            have b2 : ((acs (jnam tx q) q).wk (q.k + 1)).ens.length = q.ens.length := a2
            generalize (acs (jnam tx q) q).wk (q.k + 1) = q3 at h' hk b1 b2
            unfold jclp at hk
            repeat (refine hP _ ?_; conv => whnf)
            refine h_isSign (k := 23) (n := n + 4) hC' h' (by decide) (by decide) ?_
            by_cases g23 : (tk tx q3.k).1 = 23
            · rw [if_pos (show jkd tx (.ok q3) = 23 from g23)] at hk
              rw [if_pos g23]
              repeat (refine hP _ ?_; conv => whnf)
              refine ⟨fun w => absurd w (by decide), fun _ => ?_⟩
              repeat (refine hP _ ?_; conv => whnf)
              refine h_next (n := n + 2) hC' h' (by omega) (fun I5 L5 h5 => ?_)
              iterate 1 (refine hP _ ?_; conv => whnf)
              refine ih _ e I5 L5 h5 (fun q4 e4 => ?_) hk
              cases e4
              refine ⟨by show e + 1 = q3.ens.length; omega, ?_⟩
              show 16 ≤ (lcs q3).length + i
              rw [b1, List.length_append, List.length_singleton]
              omega
            · rw [if_neg (show ¬ jkd tx (.ok q3) = 23 from g23)] at hk
              rw [if_neg g23]
              repeat (refine hP _ ?_; conv => whnf)
              refine ⟨fun _ => ?_, fun w => absurd rfl w⟩
              repeat (refine hP _ ?_; conv => whnf)
              refine ⟨fun _ => ?_, fun w => absurd rfl w⟩
              repeat (refine hP _ ?_; conv => whnf)
              refine h_wantsSign (k := 20) (n := n + 1) hC' h' (by decide) (by decide) (fun I5 L5 h5 => ?_)
              repeat (refine hP _ ?_; conv => whnf)
              exact hk _ _ h5
    -- the enumeration's name
    have s53 : (∀ j, j < s1.ens.length → ¬ (s1.ens.map (fun x => x.1)).getD j [] = jnam tx s1) → ∀ l1, P (53, [some (.ref 30), l1, none], [], (m_SH, I1, L1), 0, 0) := by
      intro hno l1
      have gm : ¬ jnam tx s1 ∈ s1.ens.map (fun x => x.1) := by
        intro w
        have hl := List.idxOf_lt_length_iff.mpr w
        rw [List.length_map] at hl
        refine hno _ hl ?_
        rw [List.getD_eq_getElem?_getD, List.getElem?_eq_getElem (by rw [List.length_map]; exact hl)]
        exact List.getElem_idxOf _
      rw [if_neg gm] at hK
      repeat (refine hP _ ?_; conv => whnf)
      rw [e12]
      refine ⟨fun w => ?_, fun w => ?_⟩
      · have hge : 4 ≤ s1.ens.length := by
          have := (nI_eq (a := s1.ens.length) (b := 4) (by omega) (by omega)).mp w
          omega
        rw [if_pos hge] at hK
        repeat (refine hP _ ?_; conv => whnf)
        refine h_wrong (a := 12) (n := n + 4) hC' h1 (by decide) (by decide) (by decide) (fun I' h' => ?_)
        repeat (refine hP _ ?_; conv => whnf)
        exact hK _ _ h'
      · have hlt : ¬ 4 ≤ s1.ens.length := fun u => w (by rw [show s1.ens.length = 4 by omega]; rfl)
        rw [if_neg hlt] at hK
        repeat (refine hP _ ?_; conv => whnf)
        rw [e12]
        refine ⟨vp_in_nI (by omega) (by omega), ?_⟩
        rw [nI_clamp (by omega)]
        repeat (refine hP _ ?_; conv => whnf)
        refine ⟨vp_in_nI (by omega) (by omega), ?_⟩
        rw [nI_clamp (by omega)]
        repeat (refine hP _ ?_; conv => whnf)
        rw [show m_up I1 34 s1.ens.length 0 30 12 = nI s1.ens.length by simp [m_upr, e12], nI_1]
        have hnew : RH tx m I0 L0 false 0 (.ok (s1.wens (s1.ens ++ [(jnam tx s1, [])]))) (m_up (m_up I1 34 s1.ens.length 0) 30 12 (nI (s1.ens.length + 1))) (m_upL L1 33 s1.ens.length (L1 30 6)) := by
          refine h1.un ((Fr.rf.up rfl).up rfl) (Fr.rf.upL rfl) rfl rfl rfl rfl (h1.2.2.en ((Fr.rf.up rfl).up rfl) (Fr.rf.upL rfl) ?_)
          exact hen.app hn2 (by omega) hn1
        refine h_next (n := n + 2) hC' hnew (by show (tk tx s1.k).1 < 27; omega) (fun I3 L3 h3 => ?_)
        repeat (refine hP _ ?_; conv => whnf)
        refine h_wantsSign (k := 19) (n := n + 1) hC' h3 (by decide) (by decide) (fun I4 L4 h4 => ?_)
        iterate 2 (refine hP _ ?_; conv => whnf)
        refine clp 16 _ s1.ens.length I4 L4 h4 (fun q e => ?_) hK
        obtain ⟨q2, e2, rfl, -⟩ := jxpc_ok e
        cases e2
        refine ⟨?_, by omega⟩
        show s1.ens.length + 1 = (s1.ens ++ [_]).length
        rw [List.length_append]; rfl
    have loop : ∀ (k i : Nat), i + k = s1.ens.length → (∀ j, j < i → ¬ (s1.ens.map (fun x => x.1)).getD j [] = jnam tx s1) → P (19, [some (.ref 30), some (.int (nI i)), none], [], (m_SH, I1, L1), 0, 0) := by
      intro k
      induction k with
      | zero =>
        intro i hi hno
        repeat (refine hP _ ?_; conv => whnf)
        rw [e12]
        refine ⟨fun w => absurd w (nI_nlt (by omega) (by omega)), fun _ => ?_⟩
        exact s53 (fun j hj => hno j (by omega)) _
      | succ k ih =>
        intro i hi hno
        repeat (refine hP _ ?_; conv => whnf)
        rw [e12]
        refine ⟨fun _ => ?_, fun w => absurd (nI_lt (by omega) (by omega)) w⟩
        repeat (refine hP _ ?_; conv => whnf)
        refine ⟨vp_in_nI (by omega) (by omega), ?_⟩
        repeat (refine hP _ ?_; conv => whnf)
        rw [nI_clamp (by omega), lg_cmp_eq]
        have hnm := hen.nam (e := i) (by omega) hn2
        refine ⟨fun w => ?_, fun w => ?_⟩
        · rw [hn1] at w
          rw [if_pos (mem_of i (by omega) (hnm.mp w))] at hK
          repeat (refine hP _ ?_; conv => whnf)
          refine h_wrong (a := 3) (n := n + 4) hC' h1 (by decide) (by decide) (by decide) (fun I' h' => ?_)
          repeat (refine hP _ ?_; conv => whnf)
          exact hK _ _ h'
        · rw [hn1] at w
          iterate 2 (refine hP _ ?_; conv => whnf)
          have e := ih (i + 1) (by omega) (fun j hj => by
            by_cases q : j = i
            · subst q
              exact fun u => w (hnm.mpr u)
            · exact hno j (by omega))
          rw [← nI_1] at e
          exact e
    iterate 2 (refine hP _ ?_; conv => whnf)
    exact loop s1.ens.length 0 (by omega) (fun j hj => absurd hj (by omega))
