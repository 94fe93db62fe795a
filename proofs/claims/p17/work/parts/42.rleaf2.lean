theorem jfnd_cs {tx : List Nat} {s : JSt} : jfnd tx (.ok s) = -1 ∨ ∃ i, i < s.nm.length ∧ jfnd tx (.ok s) = nI i := by
  unfold jfnd
  simp only
  by_cases h : jcs tx (.ok s) ∈ s.nm
  · rw [if_pos h]
    exact Or.inr ⟨_, List.idxOf_lt_length_iff.mpr h, rfl⟩
  · rw [if_neg h]
    exact Or.inl rfl
theorem jxpc_ok {tx : List Nat} {k : Nat} {r : JRs} {s : JSt} (h : jxpc tx k r = .ok s) : ∃ q, r = .ok q ∧ s = q.wk (q.k + 1) ∧ (tk tx q.k).1 = k := by
  cases r with
  | error e => rw [jxpc_er] at h; cases h
  | ok q =>
    unfold jxpc at h
    split at h
    · rename_i g
      cases h
      exact ⟨q, rfl, rfl, g⟩
    · cases h
theorem jnmb_ok {tx : List Nat} {r : JRs} {s : JSt} (h : jnmb tx r = .ok s) : ∃ q, r = .ok q ∧ s = q.wk (q.k + 1) ∧ (tk tx q.k).1 = 17 := by
  cases r with
  | error e => rw [jnmb_er] at h; cases h
  | ok q =>
    unfold jnmb at h
    split at h
    · rename_i g
      cases h
      exact ⟨q, rfl, rfl, g⟩
    · cases h
theorem jemt_ok {k a b : Int32} {r : JRs} {s : JSt} (h : jemt k a b r = .ok s) : ∃ q, r = .ok q ∧ (s = semt k a b q ∨ s = q) := by
  cases r with
  | error e => cases h
  | ok q =>
    simp only [jemt, jb] at h
    split at h
    · cases h; exact ⟨_, rfl, Or.inl rfl⟩
    · cases h; exact ⟨_, rfl, Or.inr rfl⟩
theorem semt_len {k a b : Int32} {q : JSt} : (semt k a b q).cd.length = q.cd.length + 1 := by
  show (q.cd ++ [_]).length = _
  rw [List.length_append]; rfl
/-- how long the code is, what is SET, at the end of a part -/
def PG (N : Nat) (r : JRs) : Prop := ∀ s, r = .ok s → s.cd.length ≤ N ∧ SetOk s
theorem PG_b {N : Nat} {s : JSt} (h1 : s.cd.length ≤ N) (h2 : SetOk s) : PG N (.ok s) := fun s' e => by cases e; exact ⟨h1, h2⟩
theorem PG_adv {N : Nat} {r : JRs} (h : PG N r) : PG N (jadv r) := fun s e => by
  cases r with
  | error _ => cases e
  | ok q => cases e; exact h q rfl
theorem PG_xpc {tx : List Nat} {k N : Nat} {r : JRs} (h : PG N r) : PG N (jxpc tx k r) := fun s e => by
  obtain ⟨q, rfl, rfl, -⟩ := jxpc_ok e
  exact h q rfl
theorem PG_nmb {tx : List Nat} {N : Nat} {r : JRs} (h : PG N r) : PG N (jnmb tx r) := fun s e => by
  obtain ⟨q, rfl, rfl, -⟩ := jnmb_ok e
  exact h q rfl
theorem PG_emt {k a b : Int32} {N : Nat} {r : JRs} (h : PG N r) : PG (N + 1) (jemt k a b r) := fun s e => by
  obtain ⟨q, rfl, e | e⟩ := jemt_ok e
  · subst e
    have := h q rfl
    exact ⟨by rw [semt_len]; omega, this.2⟩
  · subst e
    have := h s rfl
    exact ⟨by omega, this.2⟩
theorem PG_dead {N : Nat} {r : JRs} (h : PG N r) : PG N (jsst (-1) r) := fun s e => by
  cases r with
  | error _ => cases e
  | ok q => cases e; exact ⟨(h q rfl).1, Or.inl rfl⟩
theorem jxpc_stn {tx : List Nat} {k : Nat} {a v : Int32} {r : JRs} : jxpc tx k (jstn a v r) = jstn a v (jxpc tx k r) := by
  cases r with
  | error e => rw [jxpc_er]; show jxpc tx k (.error e) = .error e; rw [jxpc_er]
  | ok s =>
    have h2 : jstn a v (.ok s) = .ok ((if s.cd.length < 260 then s.wcd (s.cd ++ [(2, a, v)]) else s).wset (if a < 0 then (if s.cd.length < 260 then s.wcd (s.cd ++ [(2, a, v)]) else s).set else (if s.cd.length < 260 then s.wcd (s.cd ++ [(2, a, v)]) else s).set ||| (1 <<< (a &&& 31)))) := rfl
    have hk : ((if s.cd.length < 260 then s.wcd (s.cd ++ [(2, a, v)]) else s).wset (if a < 0 then (if s.cd.length < 260 then s.wcd (s.cd ++ [(2, a, v)]) else s).set else (if s.cd.length < 260 then s.wcd (s.cd ++ [(2, a, v)]) else s).set ||| (1 <<< (a &&& 31)))).k = s.k := by
      by_cases g : s.cd.length < 260
      · rw [if_pos g]; rfl
      · rw [if_neg g]; rfl
    have hkd : jkd tx (jstn a v (.ok s)) = jkd tx (.ok s) := by
      rw [h2]
      show (tk tx _).1 = (tk tx s.k).1
      rw [hk]
    unfold jxpc
    rw [hkd]
    by_cases g : jkd tx (.ok s) = k
    · rw [if_pos g, if_pos g, h2]
      by_cases g2 : s.cd.length < 260
      · simp only [if_pos g2, jadv, jb]
        show _ = Except.ok ((if (s.wk (s.k + 1)).cd.length < 260 then (s.wk (s.k + 1)).wcd ((s.wk (s.k + 1)).cd ++ [(2, a, v)]) else (s.wk (s.k + 1))).wset (if a < 0 then (if (s.wk (s.k + 1)).cd.length < 260 then (s.wk (s.k + 1)).wcd ((s.wk (s.k + 1)).cd ++ [(2, a, v)]) else (s.wk (s.k + 1))).set else (if (s.wk (s.k + 1)).cd.length < 260 then (s.wk (s.k + 1)).wcd ((s.wk (s.k + 1)).cd ++ [(2, a, v)]) else (s.wk (s.k + 1))).set ||| (1 <<< (a &&& 31))))
        rw [if_pos (show (s.wk (s.k + 1)).cd.length < 260 from g2)]
        rfl
      · simp only [if_neg g2, jadv, jb]
        show _ = Except.ok ((if (s.wk (s.k + 1)).cd.length < 260 then (s.wk (s.k + 1)).wcd ((s.wk (s.k + 1)).cd ++ [(2, a, v)]) else (s.wk (s.k + 1))).wset (if a < 0 then (if (s.wk (s.k + 1)).cd.length < 260 then (s.wk (s.k + 1)).wcd ((s.wk (s.k + 1)).cd ++ [(2, a, v)]) else (s.wk (s.k + 1))).set else (if (s.wk (s.k + 1)).cd.length < 260 then (s.wk (s.k + 1)).wcd ((s.wk (s.k + 1)).cd ++ [(2, a, v)]) else (s.wk (s.k + 1))).set ||| (1 <<< (a &&& 31))))
        rw [if_neg (show ¬ (s.wk (s.k + 1)).cd.length < 260 from g2)]
        rfl
    · rw [if_neg g, if_neg g, h2]
      show Except.error _ = Except.error _
      rw [hk]
theorem r_use {XL : Nat} {XS : Nat → Int32} {n : Nat} {C : mC} {I : Nat → Nat → Int32} {L : Nat → Nat → Int64} {K : mK} {tx : List Nat} {m : Nat} {I0 : Nat → Nat → Int32} {L0 : Nat → Nat → Int64} {u0 : JU} {b : Nat} {st : List Fm} {s : JSt} (hC : m_Ge XL XS (n + 4) C) (hX : RX tx m I0 L0 u0 b st (.ok s) I L) (hb : b + 1 ≤ 600) (hl : s.cd.length < 260) (hK : ∀ I' L', RX tx m I0 L0 u0 (b + 1) st (juse tx (.ok s)) I' L' → K none (m_SH, I', L')) : C 134 [.ref 30] (m_SH, I, L) K := by
  have hj : juse tx (.ok s) = if ¬ (tk tx s.k).1 = 16 then jfal tx 2 (.ok s) else if ¬ jbit (jfnd tx (.ok s)) s.set then jfal tx 7 (.ok s) else jadv (jemt 1 (jfnd tx (.ok s)) 0 (.ok s)) := rfl
  rw [hj] at hK
  have f36 := hX.fct.2.1
  have fn := hX.fct.2.2.2.2.1
  refine e_X9_use hC (Nat.le_of_ble_eq_true rfl) ?_
  intro C' hC' P hP
  repeat (refine hP _ ?_; conv => whnf)
  rw [hX.cl]
  have ht := (tcl_eq (tk_29 tx s.k)).2.1
  refine ⟨fun z => ?_, fun z => ?_⟩
  · have hk := ht.mp z
    rw [if_neg (fun y => y hk)] at hK
    repeat (refine hP _ ?_; conv => whnf)
    refine r_inScopeX hC' hX hk ?_
    have bad : ¬ jbit (jfnd tx (.ok s)) s.set → P (37, [some (.ref 30), some (.int (jfnd tx (.ok s)))], [], (m_SH, I, L), 0, 0) := by
      intro hn
      rw [if_pos hn] at hK
      repeat (refine hP _ ?_; conv => whnf)
      refine r_wrongX (a := 7) hC' hX (by decide) (by decide) (by decide) (fun I' h' => ?_)
      repeat (refine hP _ ?_; conv => whnf)
      exact hK _ _ (h'.mono (by omega) hb)
    repeat (refine hP _ ?_; conv => whnf)
    refine ⟨fun y => bad (fun w => w.1 y), fun y => ?_⟩
    obtain ⟨i, hi, hf⟩ : ∃ i, i < s.nm.length ∧ jfnd tx (.ok s) = nI i := by
      rcases jfnd_cs (tx := tx) (s := s) with h | h
      · rw [h] at y; exact absurd (by decide) y
      · exact h
    have hbs := bit_same (k := i) (x := s.set) (by omega)
    rw [← hf] at hbs
    repeat (refine hP _ ?_; conv => whnf)
    rw [f36]
    refine ⟨fun w => bad (hbs.mp w), fun w => ?_⟩
    have hgood : jbit (jfnd tx (.ok s)) s.set := by
      by_cases g : jbit (jfnd tx (.ok s)) s.set
      · exact g
      · exact absurd (hbs.mpr g) w
    rw [if_neg (fun y => y hgood)] at hK
    repeat (refine hP _ ?_; conv => whnf)
    refine r_emitX (k := 1) (a := jfnd tx (.ok s)) (c := 0) hC' hX hb (fun s' e => by cases e; exact hl) rfl (fun v I' hv h' => ?_)
    have hu : jemt 1 (jfnd tx (.ok s)) 0 (.ok s) = .ok (semt 1 (jfnd tx (.ok s)) 0 s) := by
      simp only [jemt, jb]
      rw [if_pos hl]
      rfl
    rw [hu] at h' hK
    repeat (refine hP _ ?_; conv => whnf)
    refine r_nextX hC' h' (by show (tk tx s.k).1 < 27; omega) (fun I2 L2 h2 => ?_)
    repeat (refine hP _ ?_; conv => whnf)
    exact hK _ _ h2
  · have hk : ¬ (tk tx s.k).1 = 16 := fun y => z (ht.mpr y)
    rw [if_pos hk] at hK
    repeat (refine hP _ ?_; conv => whnf)
    refine r_cannotX hC' hX (fun I' h' => ?_)
    repeat (refine hP _ ?_; conv => whnf)
    exact hK _ _ (h'.mono (by omega) hb)
