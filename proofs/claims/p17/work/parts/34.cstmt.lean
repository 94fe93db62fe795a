/-! ===== the class judges a stmt: its parts ===== -/
theorem jkd_eq {tx : List Nat} {r : JRs} {a : Nat} (ha : a < 2 ^ 31) : nI (jkd tx r) = nI a ↔ jkd tx r = a := nI_eq (jkd_lt tx r) ha
theorem no_kd {tx : List Nat} {e : Nat × Nat} {a : Nat} (h : jkd tx (.error e) = a) (ha : a ≠ 0) : False := ha h.symm
theorem CX.junk {tx : List Nat} {m : Nat} {I0 : Nat → Nat → Int32} {L0 : Nat → Nat → Int64} {I : Nat → Nat → Int32} {L : Nat → Nat → Int64} {e : Nat × Nat} {I' : Nat → Nat → Int32} {L' : Nat → Nat → Int64} (h : CX tx m I0 L0 (.error e) I L) (hF : Fr S_jd I I') (hL : Fr S_jdL L L') (hB : BD I → BD I') (h9 : I' 17 9 = I 17 9) (h10 : I' 17 10 = I 17 10) : CX tx m I0 L0 (.error e) I' L' :=
  h.gen hF hL hB (fun s q => by cases q) (fun e' q => ⟨q, h9, h10⟩)
theorem nm_tok {tx : List Nat} (ht : TxOk tx) {i : Nat} (h : (tokAt tx i).1 = 16 ∨ (tokAt tx i).1 = 18) : NmOk (tokAt tx i).2.2.1 := by
  unfold tokAt at h ⊢
  by_cases h0 : tx.length ≤ i
  · rw [if_pos h0] at h; simp at h
  rw [if_neg h0] at h ⊢
  by_cases h1 : isSm (toc tx i) = 1
  · rw [if_pos h1] at h ⊢
    by_cases h8 : 8 < scan qN tx i - i
    · rw [if_pos h8] at h; simp at h
    · rw [if_neg h8] at h ⊢
      exact nm_slice ht (by omega) (by omega)
  rw [if_neg h1] at h ⊢
  by_cases h2 : isFg (toc tx i) = 1
  · rw [if_pos h2] at h
    by_cases h8 : 9 < scan qF tx i - i
    · rw [if_pos h8] at h; simp at h
    · rw [if_neg h8] at h; simp at h
  rw [if_neg h2] at h ⊢
  by_cases h3 : toc tx i = 34
  · rw [if_pos h3] at h ⊢
    by_cases h4 : toc tx (scan qT tx (i + 1)) = 34 ∧ scan qT tx (i + 1) - (i + 1) ≤ 8
    · rw [if_pos h4] at h ⊢
      exact tx_slice ht (by omega) h4.2
    · rw [if_neg h4] at h; simp at h
  rw [if_neg h3] at h ⊢
  by_cases h5 : toc tx i = 45 ∧ toc tx (i + 1) = 62
  · rw [if_pos h5] at h; simp at h
  rw [if_neg h5] at h ⊢
  by_cases h6 : sgN (toc tx i) = 28
  · rw [if_pos h6] at h; simp at h
  · rw [if_neg h6] at h
    have := (sgN_C h6).2.1
    simp only at h
    omega
theorem tk_nm {tx : List Nat} (ht : TxOk tx) {k : Nat} (h : (tk tx k).1 = 16 ∨ (tk tx k).1 = 18) : NmOk (tk tx k).2.2.1 := nm_tok ht h
theorem CX.tv {tx : List Nat} {m : Nat} {I0 : Nat → Nat → Int32} {L0 : Nat → Nat → Int64} {I : Nat → Nat → Int32} {L : Nat → Nat → Int64} {s : JSt} (h : CX tx m I0 L0 (.ok s) I L) : tvF I L = cval (tk tx s.k) := by
  have hl := h.1.1.1
  have hml := h.1.2.2.1
  have hk := h.km_ok
  unfold tvF
  rw [h.at_ok, if_neg (nI_pos (by omega)), if_pos (show nI s.k < 3001 from nI_lt (a := s.k) (b := 3001) (by omega) (by omega)), nI_clamp (by omega), (h.1.2.2.2.2 s.k hk).2.2]
theorem cval_nm {t : Tok} (h : t.1 = 16 ∨ t.1 = 18) : cval t = lN (pkB 256 t.2.2.1) := by
  unfold cval
  rw [if_neg (by omega)]
theorem cval_nr {t : Tok} (h : t.1 = 17) : cval t = lN t.2.2.2.1 := by
  unfold cval
  rw [if_pos h]
theorem c_kindX {XL : Nat} {XS : Nat → Int32} {n : Nat} {C : mC} {I : Nat → Nat → Int32} {L : Nat → Nat → Int64} {K : mK} {tx : List Nat} {m : Nat} {I0 : Nat → Nat → Int32} {L0 : Nat → Nat → Int64} {r : JRs} (hC : m_Ge XL XS (n + 1) C) (hX : CX tx m I0 L0 r I L) (hK : K (some (.int (nI (jkd tx r)))) (m_SH, I, L)) : C 5 [.ref 17] (m_SH, I, L) K := by
  refine c_kind hC ?_
  rw [hX.kd]
  exact hK
theorem CX.nr {tx : List Nat} {m : Nat} {I0 : Nat → Nat → Int32} {L0 : Nat → Nat → Int64} {r : JRs} {I : Nat → Nat → Int32} {L : Nat → Nat → Int64} (h : CX tx m I0 L0 r I L) : (if kindF I = 17 then (tvF I L).toInt32 else 0) = jnmv tx r := by
  rw [h.kd]
  unfold jnmv
  by_cases e : jkd tx r = 17
  · rw [if_pos e, if_pos (show nI (jkd tx r) = 17 by rw [e]; rfl)]
    cases r with
    | error e' => exact (no_kd e (by decide)).elim
    | ok s => rw [h.tv, cval_nr e, lN_i]; rfl
  · rw [if_neg e, if_neg (show ¬ nI (jkd tx r) = 17 from fun z => e ((jkd_eq (a := 17) (by decide)).mp z))]
theorem CX.nb {tx : List Nat} {m : Nat} {I0 : Nat → Nat → Int32} {L0 : Nat → Nat → Int64} {r : JRs} {I : Nat → Nat → Int32} {L : Nat → Nat → Int64} (h : CX tx m I0 L0 r I L) : CX tx m I0 L0 (jnmb tx r) (if kindF I = 17 then m_up I 17 8 (I 17 8 + 1) else failF 2 (I 17 8) I) L := by
  rw [h.kd]
  unfold jnmb
  by_cases e : jkd tx r = 17
  · rw [if_pos e, if_pos (show nI (jkd tx r) = 17 by rw [e]; rfl)]
    refine h.adv (fun s hs => ?_)
    subst hs
    have : (tk tx s.k).1 = 17 := e
    omega
  · rw [if_neg e, if_neg (show ¬ nI (jkd tx r) = 17 from fun z => e ((jkd_eq (a := 17) (by decide)).mp z))]
    exact h.fail (a := 2) (by decide) (by decide)
theorem c_numberX {XL : Nat} {XS : Nat → Int32} {n : Nat} {C : mC} {I : Nat → Nat → Int32} {L : Nat → Nat → Int64} {K : mK} {tx : List Nat} {m : Nat} {I0 : Nat → Nat → Int32} {L0 : Nat → Nat → Int64} {r : JRs} (hC : m_Ge XL XS (n + 2) C) (hX : CX tx m I0 L0 r I L) (hK : ∀ I', CX tx m I0 L0 (jnmb tx r) I' L → K (some (.int (jnmv tx r))) (m_SH, I', L)) : C 35 [.ref 17] (m_SH, I, L) K := by
  refine c_number hC ?_
  rw [hX.nr]
  exact hK _ hX.nb
theorem c_expectX {XL : Nat} {XS : Nat → Int32} {n : Nat} {C : mC} {I : Nat → Nat → Int32} {L : Nat → Nat → Int64} {K : mK} {tx : List Nat} {m : Nat} {I0 : Nat → Nat → Int32} {L0 : Nat → Nat → Int64} {r : JRs} {k : Nat} (hC : m_Ge XL XS (n + 2) C) (hX : CX tx m I0 L0 r I L) (hk0 : k ≠ 0) (hk : k < 27) (hK : ∀ I', CX tx m I0 L0 (jxpc tx k r) I' L → K none (m_SH, I', L)) : C 8 [.ref 17, .int (nI k)] (m_SH, I, L) K :=
  c_expect hC (hK _ (hX.xpc hk0 hk))
theorem c_failX {XL : Nat} {XS : Nat → Int32} {n : Nat} {C : mC} {I : Nat → Nat → Int32} {L : Nat → Nat → Int64} {K : mK} {tx : List Nat} {m : Nat} {I0 : Nat → Nat → Int32} {L0 : Nat → Nat → Int64} {r : JRs} {a : Nat} (hC : m_Ge XL XS (n + 1) C) (hX : CX tx m I0 L0 r I L) (ha0 : a ≠ 0) (ha : a ≤ 12) (hK : ∀ I', CX tx m I0 L0 (jfal tx a r) I' L → K none (m_SH, I', L)) : C 7 [.ref 17, .int (nI a), .int (I 17 8)] (m_SH, I, L) K :=
  c_fail hC (hK _ (hX.fail ha0 ha))
theorem c_stepX {XL : Nat} {XS : Nat → Int32} {n : Nat} {C : mC} {I : Nat → Nat → Int32} {L : Nat → Nat → Int64} {K : mK} {tx : List Nat} {m : Nat} {I0 : Nat → Nat → Int32} {L0 : Nat → Nat → Int64} {r : JRs} {k a b : Int32} (hC : m_Ge XL XS (n + 1) C) (hX : CX tx m I0 L0 r I L) (hk : vp_nar .byte k.toInt8.toInt32 = k) (hK : ∀ I', CX tx m I0 L0 (jemt k a b r) I' L → K none (m_SH, I', L)) : C 1 [.ref 13, .int k, .int a, .int b] (m_SH, I, L) K :=
  c_step hC hX.cl0 (hK _ (hX.emt hk))
theorem c_leadX {XL : Nat} {XS : Nat → Int32} {n : Nat} {C : mC} {I : Nat → Nat → Int32} {L : Nat → Nat → Int64} {K : mK} {tx : List Nat} {m : Nat} {I0 : Nat → Nat → Int32} {L0 : Nat → Nat → Int64} {r : JRs} {i : Nat} (hC : m_Ge XL XS (n + 1) C) (hX : CX tx m I0 L0 r I L) (hi : i ≤ 260) (hK : ∀ I', CX tx m I0 L0 (jled i r) I' L → K none (m_SH, I', L)) : C 2 [.ref 13, .int (nI i)] (m_SH, I, L) K := by
  obtain ⟨c, hc, e⟩ := hX.bd.1
  refine c_leadHere hC (fun _ h1 => ?_) (hK _ (hX.led hi))
  rw [e] at h1
  have := (nI_ltI (by omega) (by omega)).mp h1
  exact vp_in_nI (by omega) (by omega)
theorem c_leaveX {XL : Nat} {XS : Nat → Int32} {n : Nat} {C : mC} {I : Nat → Nat → Int32} {L : Nat → Nat → Int64} {K : mK} {tx : List Nat} {m : Nat} {I0 : Nat → Nat → Int32} {L0 : Nat → Nat → Int64} {r : JRs} {a b : Int32} (hC : m_Ge XL XS (n + 2) C) (hX : CX tx m I0 L0 r I L) (hK : ∀ I', CX tx m I0 L0 (jlve a b r) I' L → K none (m_SH, I', L)) : C 34 [.ref 17, .int a, .int b] (m_SH, I, L) K :=
  c_leave hC hX.cl0 (hK _ ((hX.emt (by decide)).sst (fun _ _ => rfl)))
theorem CX.stn {tx : List Nat} {m : Nat} {I0 : Nat → Nat → Int32} {L0 : Nat → Nat → Int64} {r : JRs} {I : Nat → Nat → Int32} {L : Nat → Nat → Int64} {a a' b : Int32} (h : CX tx m I0 L0 r I L) (ha : ∀ s, r = .ok s → a = a') : CX tx m I0 L0 (jstn a' b r) (if a < 0 then stepF 2 a b I else m_up (stepF 2 a b I) 18 2 (stepF 2 a b I 18 2 ||| (1 <<< (a &&& 31)))) L := by
  have h1 : CX tx m I0 L0 (jemt 2 a b r) (stepF 2 a b I) L := h.emt (by decide)
  cases r with
  | error e =>
    show CX tx m I0 L0 (.error e) _ L
    split
    · exact h1
    · refine CX.junk h1 (Fr.rf.up rfl) Fr.rf (by simp [BD, m_upr]) (by simp [m_upr]) (by simp [m_upr])
  | ok s =>
    have := ha s rfl
    subst this
    have h2 : jemt 2 a b (.ok s) = .ok (if s.cd.length < 260 then s.wcd (s.cd ++ [(2, a, b)]) else s) := rfl
    unfold jstn
    rw [h2] at h1 ⊢
    generalize (if s.cd.length < 260 then s.wcd (s.cd ++ [(2, a, b)]) else s) = s' at h1
    have h3 : stepF 2 a b I 18 2 = s'.set := h1.ok.2.2.1
    show CX tx m I0 L0 (.ok (s'.wset (if a < 0 then s'.set else s'.set ||| (1 <<< (a &&& 31))))) _ L
    by_cases g : a < 0
    · rw [if_pos g, if_pos g]
      exact h1
    · rw [if_neg g, if_neg g, h3]
      exact h1.sst (fun _ _ => rfl)
theorem c_setNameX {XL : Nat} {XS : Nat → Int32} {n : Nat} {C : mC} {I : Nat → Nat → Int32} {L : Nat → Nat → Int64} {K : mK} {tx : List Nat} {m : Nat} {I0 : Nat → Nat → Int32} {L0 : Nat → Nat → Int64} {r : JRs} {a a' b : Int32} (hC : m_Ge XL XS (n + 2) C) (hX : CX tx m I0 L0 r I L) (ha : ∀ s, r = .ok s → a = a') (hK : ∀ I', CX tx m I0 L0 (jstn a' b r) I' L → K none (m_SH, I', L)) : C 30 [.ref 17, .int a, .int b] (m_SH, I, L) K :=
  c_setName hC hX.cl0 (hK _ (hX.stn ha))
theorem c_findX {XL : Nat} {XS : Nat → Int32} {n : Nat} {C : mC} {I : Nat → Nat → Int32} {L : Nat → Nat → Int64} {K : mK} {tx : List Nat} {m : Nat} {I0 : Nat → Nat → Int32} {L0 : Nat → Nat → Int64} {r : JRs} (hC : m_Ge XL XS (n + 1) C) (hX : CX tx m I0 L0 r I L) (hK : ∀ v, (∀ s, r = .ok s → (tk tx s.k).1 = 16 → v = jfnd tx r) → K (some (.int v)) (m_SH, I, L)) : C 50 [.ref 18, .long (tvF I L)] (m_SH, I, L) K := by
  obtain ⟨c, hc, e⟩ := hX.bd.2.1
  refine c_find hC e hc (hK _ (fun s hs hk => ?_))
  subst hs
  obtain ⟨n1, n2, n3, n4⟩ := hX.ok.2.2.2.1
  have hcl : c = s.nm.length := (nI_eq (by omega) (by omega)).mp (e.symm.trans n1)
  subst hcl
  have hcs := tk_nm hX.1.1 (Or.inl hk)
  rw [hX.tv, cval_nm (Or.inl hk)]
  have := srch_idx (f := fun j => L 19 j == lN (pkB 256 (tk tx s.k).2.2.1)) (cs := (tk tx s.k).2.2.1) s.nm 0 (fun j hj => by
    simp only [Nat.zero_add]
    rw [n3 j hj]
    refine beq_of_iff (nm_inj8 (n4 _ ?_) hcs)
    rw [List.getD_eq_getElem?_getD, List.getElem?_eq_getElem hj]
    exact List.getElem_mem _)
  rw [this, Nat.zero_add]
  rfl
theorem c_yieldNumber {XL : Nat} {XS : Nat → Int32} {n : Nat} {C : mC} {I : Nat → Nat → Int32} {L : Nat → Nat → Int64} {K : mK} {tx : List Nat} {m : Nat} {I0 : Nat → Nat → Int32} {L0 : Nat → Nat → Int64} {r : JRs} (hC : m_Ge XL XS (n + 3) C) (hX : CX tx m I0 L0 r I L) (hK : ∀ I', CX tx m I0 L0 (jyld tx r) I' L → K none (m_SH, I', L)) : C 33 [.ref 17] (m_SH, I, L) K := by
  unfold jyld at hK
  refine e_X1_yieldNumber hC (Nat.le_of_ble_eq_true rfl) ?_
  intro C' hC' P hP
  repeat (refine hP _ ?_; conv => whnf)
  refine c_kindX hC' hX ?_
  repeat (refine hP _ ?_; conv => whnf)
  refine ⟨fun q => ?_, fun q => ?_⟩
  · have hk : jkd tx r = 25 := (jkd_eq (a := 25) (by decide)).mp q
    rw [if_pos hk] at hK
    repeat (refine hP _ ?_; conv => whnf)
    refine ⟨fun z => absurd z (by decide), fun _ => ?_⟩
    repeat (refine hP _ ?_; conv => whnf)
    refine c_numberX hC' (hX.adv (fun s hs => by subst hs; have : (tk tx s.k).1 = 25 := hk; omega)) (fun I' h' => ?_)
    repeat (refine hP _ ?_; conv => whnf)
    refine ⟨fun z => absurd z (by decide), fun _ => ?_⟩
    repeat (refine hP _ ?_; conv => whnf)
    refine c_leaveX hC' h' (fun I'' h'' => ?_)
    repeat (refine hP _ ?_; conv => whnf)
    exact hK _ h''
  · have hk : ¬ jkd tx r = 25 := fun z => q (by rw [z]; rfl)
    rw [if_neg hk] at hK
    repeat (refine hP _ ?_; conv => whnf)
    refine ⟨fun _ => ?_, fun z => absurd rfl z⟩
    repeat (refine hP _ ?_; conv => whnf)
    refine c_numberX hC' hX (fun I' h' => ?_)
    repeat (refine hP _ ?_; conv => whnf)
    refine ⟨fun _ => ?_, fun z => absurd rfl z⟩
    repeat (refine hP _ ?_; conv => whnf)
    refine c_leaveX hC' h' (fun I'' h'' => ?_)
    repeat (refine hP _ ?_; conv => whnf)
    exact hK _ h''
theorem c_isSetX {XL : Nat} {XS : Nat → Int32} {n : Nat} {C : mC} {I : Nat → Nat → Int32} {L : Nat → Nat → Int64} {K : mK} {tx : List Nat} {m : Nat} {I0 : Nat → Nat → Int32} {L0 : Nat → Nat → Int64} {r : JRs} {a : Int32} (hC : m_Ge XL XS (n + 1) C) (hX : CX tx m I0 L0 r I L) (hK : ∀ v : Int32, (∀ s, r = .ok s → (v = 0 ↔ ¬ jbit a s.set)) → K (some (.int v)) (m_SH, I, L)) : C 53 [.ref 18, .int a] (m_SH, I, L) K := by
  refine c_isSet hC (hK _ (fun s hs => ?_))
  subst hs
  have h3 := hX.ok.2.2.1
  unfold isSetF jbit
  rw [h3]
  by_cases g : a < 0
  · rw [if_pos g]; simp [g]
  · rw [if_neg g]
    by_cases g2 : (s.set.toUInt32 >>> (a.toUInt32 &&& Int32.toUInt32 31)).toInt32 &&& 1 = 1
    · rw [if_pos g2]
      exact ⟨fun z => absurd z (by decide), fun z => absurd ⟨g, g2⟩ z⟩
    · rw [if_neg g2]
      exact ⟨fun _ z => g2 z.2, fun _ => rfl⟩
theorem CX.jnk {tx : List Nat} {m : Nat} {I0 : Nat → Nat → Int32} {L0 : Nat → Nat → Int64} {I : Nat → Nat → Int32} {L : Nat → Nat → Int64} {e : Nat × Nat} {a b c : Int32} (h : CX tx m I0 L0 (.error e) I L) : CX tx m I0 L0 (.error e) (m_up (stepF a b c I) 17 8 (stepF a b c I 17 8 + 1)) L := by
  have h0 := h.cl0
  have hFr : Fr S_jd I (stepF a b c I) := by
    unfold stepF
    split
    · exact (((Fr.rf.up rfl).up rfl).up rfl).up rfl
    · exact Fr.rf
  refine h.junk (hFr.up rfl) Fr.rf (fun hb => ?_) ?_ ?_
  · unfold stepF
    split
    · rename_i hlt
      obtain ⟨⟨c, hc, e⟩, hb⟩ := hb
      rw [e] at hlt
      have := (nI_ltI (a := c) (b := 260) (by omega) (by omega)).mp hlt
      refine ⟨⟨c + 1, by omega, by simp [m_upr, e, nI_1]⟩, ?_⟩
      simpa [BD, m_upr] using hb
    · simpa [BD, m_upr] using hb
  · unfold stepF; split <;> simp [m_upr]
  · unfold stepF; split <;> simp [m_upr]
theorem c_useName {XL : Nat} {XS : Nat → Int32} {n : Nat} {C : mC} {I : Nat → Nat → Int32} {L : Nat → Nat → Int64} {K : mK} {tx : List Nat} {m : Nat} {I0 : Nat → Nat → Int32} {L0 : Nat → Nat → Int64} {r : JRs} (hC : m_Ge XL XS (n + 2) C) (hX : CX tx m I0 L0 r I L) (hK : ∀ I', CX tx m I0 L0 (juse tx r) I' L → K none (m_SH, I', L)) : C 32 [.ref 17] (m_SH, I, L) K := by
  refine e_X1_useName hC (Nat.le_of_ble_eq_true rfl) ?_
  intro C' hC' P hP
  have bad : ∀ (e : Nat × Nat) (J : Nat → Nat → Int32) (v : Int32), juse tx r = .error e → CX tx m I0 L0 (.error e) J L → P (67, [some (.ref 17), some (.int v)], [], (m_SH, J, L), 0, 0) := by
    intro e J v he hJ
    rw [he] at hK
    repeat (refine hP _ ?_; conv => whnf)
    refine c_step hC' hJ.cl0 ?_
    repeat (refine hP _ ?_; conv => whnf)
    exact hK _ hJ.jnk
  repeat (refine hP _ ?_; conv => whnf)
  refine c_kindX hC' hX ?_
  repeat (refine hP _ ?_; conv => whnf)
  refine ⟨fun q => ?_, fun q => ?_⟩
  · have hk : jkd tx r = 16 := (jkd_eq (a := 16) (by decide)).mp q
    cases r with
    | error e => exact (no_kd hk (by decide)).elim
    | ok s =>
      have hk' : (tk tx s.k).1 = 16 := hk
      repeat (refine hP _ ?_; conv => whnf)
      refine c_tokenValue hC' ?_
      repeat (refine hP _ ?_; conv => whnf)
      refine c_findX hC' hX (fun v hv => ?_)
      have hv := hv s rfl hk'
      subst hv
      repeat (refine hP _ ?_; conv => whnf)
      refine c_kindX hC' hX ?_
      repeat (refine hP _ ?_; conv => whnf)
      refine ⟨fun _ => ?_, fun z => absurd q z⟩
      repeat (refine hP _ ?_; conv => whnf)
      refine c_isSetX hC' hX (fun v hv => ?_)
      have hv := hv s rfl
      repeat (refine hP _ ?_; conv => whnf)
      refine ⟨fun z => ?_, fun z => ?_⟩
      · repeat (refine hP _ ?_; conv => whnf)
        have hu : juse tx (.ok s) = jfal tx 7 (.ok s) := by
          simp only [juse, jb]
          rw [if_neg (fun z => z hk'), if_pos (hv.mp z)]
        refine c_failX (a := 7) hC' hX (by decide) (by decide) (fun I' h' => ?_)
        exact bad _ I' _ hu h'
      · have hu : juse tx (.ok s) = jadv (jemt 1 (jfnd tx (.ok s)) 0 (.ok s)) := by
          simp only [juse, jb]
          rw [if_neg (fun z => z hk'), if_neg (fun y => z (hv.mpr y))]
        rw [hu] at hK
        repeat (refine hP _ ?_; conv => whnf)
        refine c_stepX hC' hX (by decide) (fun I' h' => ?_)
        repeat (refine hP _ ?_; conv => whnf)
        refine hK _ (h'.adv (fun s2 hs2 => ?_))
        have : s2.k = s.k := by
          simp only [jemt, jb, Except.ok.injEq] at hs2
          rw [← hs2]
          split <;> rfl
        rw [this]
        omega
  · have hk : ¬ jkd tx r = 16 := fun z => q (by rw [z]; rfl)
    repeat (refine hP _ ?_; conv => whnf)
    refine c_kindX hC' hX ?_
    repeat (refine hP _ ?_; conv => whnf)
    refine ⟨fun z => absurd z q, fun _ => ?_⟩
    repeat (refine hP _ ?_; conv => whnf)
    refine c_failX (a := 2) hC' hX (by decide) (by decide) (fun I' h' => ?_)
    iterate 1 (refine hP _ ?_; conv => whnf)
    cases r with
    | error e =>
      exact bad e I' _ rfl h'
    | ok s =>
      have hk' : ¬ (tk tx s.k).1 = 16 := hk
      have hu : juse tx (.ok s) = jfal tx 2 (.ok s) := by
        simp only [juse, jb]
        rw [if_pos hk']
      exact bad _ I' _ hu h'
