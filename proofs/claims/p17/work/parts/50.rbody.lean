/-! ===== the reference's lists of stmts: an old arm's, a body's ===== -/
theorem r_headE {XL : Nat} {XS : Nat → Int32} {n : Nat} {C' : mC} {K : mK} {P : mT → Prop} {tx : List Nat} {m : Nat} {I0 : Nat → Nat → Int32} {L0 : Nat → Nat → Int64} {u0 : JU} {base : Nat} (hC' : m_Ge XL XS (n + 5) C') (hP : ∀ t, m_F XL XS C' kX9_readStmts none 0 0 0 K P t → P t)
    (b : Nat) (st : List Fm) (x : Fm) (s : JSt) (I : Nat → Nat → Int32) (L : Nat → Nat → Int64) (hX : RX tx m I0 L0 u0 b (x :: st) (.ok s) I L) (hx : x.1 = 1) (hk : (tk tx s.k).1 = 20) (hb : b + 1 ≤ 600) (hbase : base < (x :: st).length) (hE : Ends (x :: st) s I) (hs : SetOk s) (hl : lst st) (hn : s.cd.length + nth st ≤ 260)
      (hK : ∀ I' L', POne tx m I0 L0 u0 (b + 1) (jend tx st x.2.2 s) I' L' → HdP P base I' L') : HdP P base I L := by
  intro l
  obtain ⟨f44, f36, f33, f35, fn, fst⟩ := hX.fct
  have hlen : (x :: st).length = st.length + 1 := rfl
  have fi : I 30 44 - 1 = nI st.length := by
    rw [f44, hlen, show (1 : Int32) = nI 1 from rfl, sub_nI (by omega)]
    rfl
  have a1 := hX.ok.2.2.2.2.2.2.2.2.2.1
  repeat (refine hP _ ?_; conv => whnf)
  refine ⟨fun _ => ?_, fun z => absurd hX.flt_ok z⟩
  repeat (refine hP _ ?_; conv => whnf)
  rw [f44]
  refine ⟨fun _ => ?_, fun z => absurd (nI_lt (by omega) (by omega)) z⟩
  repeat (refine hP _ ?_; conv => whnf)
  rw [fi]
  refine ⟨vp_in_nI (by omega) (by omega), ?_⟩
  rw [nI_clamp (by omega), a1.2, hx]
  repeat (refine hP _ ?_; conv => whnf)
  refine ⟨fun _ => ?_, fun z => absurd rfl z⟩
  repeat (refine hP _ ?_; conv => whnf)
  refine r_isSignX (k := 20) (n := n + 4) hC' hX (by decide) (by decide) ?_
  rw [if_pos hk]
  repeat (refine hP _ ?_; conv => whnf)
  refine ⟨fun z => absurd z (by decide), fun _ => ?_⟩
  repeat (refine hP _ ?_; conv => whnf)
  refine r_endBlock hC' hX hx hk hb hE hs hl hn (fun I' L' h' => ?_)
  iterate 2 (refine hP _ ?_; conv => whnf)
  exact hK I' L' h' _
theorem r_headX {XL : Nat} {XS : Nat → Int32} {C' : mC} {K : mK} {P : mT → Prop} {tx : List Nat} {m : Nat} {I0 : Nat → Nat → Int32} {L0 : Nat → Nat → Int64} {u0 : JU} {base b : Nat} {st : List Fm} {e : Nat × Nat} {I : Nat → Nat → Int32} {L : Nat → Nat → Int64} (hP : ∀ t, m_F XL XS C' kX9_readStmts none 0 0 0 K P t → P t) (hX : RX tx m I0 L0 u0 b st (.error e) I L) (hK : K none (m_SH, I, L)) : HdP P base I L := by
  intro l
  repeat (refine hP _ ?_; conv => whnf)
  refine ⟨fun z => absurd z hX.flt_er.2, fun _ => ?_⟩
  repeat (refine hP _ ?_; conv => whnf)
  exact hK
/-- an old arm's stmts, to the sign or word behind them -/
def jold (tx : List Nat) (s : JSt) : JRs := jb (jloop tx (jstmt tx 11) 121 (.ok s)) fun s' => if (tk tx s'.k).1 = 20 ∨ (tk tx s'.k).1 = 6 ∨ (tk tx s'.k).1 = 7 then .ok s' else jfal tx 2 (.ok s')
theorem r_stmtsA {XL : Nat} {XS : Nat → Int32} {n : Nat} {C : mC} {I : Nat → Nat → Int32} {L : Nat → Nat → Int64} {K : mK} {tx : List Nat} {m : Nat} {I0 : Nat → Nat → Int32} {L0 : Nat → Nat → Int64} {u0 : JU} {B c : Nat} {s : JSt} (hC : m_Ge XL XS (n + 8) C) (hB : B ≤ 20) (hH : Hd tx m I0 L0 u0 0 B 11 [(0, 0, c)] s I L)
    (hK : ∀ I' L', (∀ e, jold tx s = .error e → RX tx m I0 L0 u0 263 [] (.error e) I' L') → (∀ s', jold tx s = .ok s' → Hd tx m I0 L0 u0 0 B 11 [(0, 0, c)] s' I' L') → K none (m_SH, I', L')) : C 140 [.ref 30, .int (nI 0)] (m_SH, I, L) K := by
  refine e_X9_readStmts hC (Nat.le_of_ble_eq_true rfl) ?_
  intro C' hC' P hP
  unfold jold at hK
  have H1 : L1 P tx m I0 L0 u0 0 B 11 := r_L1 (n := n) (base := 0) hC' hP hB (r_headE (n := n + 2) hC' hP) 11
  refine r_L2 hB H1 121 (0, 0, c) [] s I L (Or.inl rfl) hH (by omega) (fun e I' L' e1 h' => ?_) (fun s' I' L' e1 hbg h' => ?_) none
  · rw [e1] at hK
    refine r_headX hP h' (hK _ _ (fun e' q => ?_) (fun s' q => by cases q))
    cases q
    exact h'
  · rw [e1] at hK
    simp only [jb] at hK
    by_cases g : (tk tx s'.k).1 = 20 ∨ (tk tx s'.k).1 = 6 ∨ (tk tx s'.k).1 = 7
    · rw [if_pos g] at hK
      have hK := hK I' L' (fun e q => by cases q) (fun q e => by cases e; exact h')
      intro l
      have hX := h'.1
      have f44 : I' 30 44 = nI 1 := hX.fct.1
      have a1 : I' 45 0 = 0 := hX.ok.2.2.2.2.2.2.2.2.2.1.2
      repeat (refine hP _ ?_; conv => whnf)
      refine ⟨fun _ => ?_, fun z => absurd hX.flt_ok z⟩
      repeat (refine hP _ ?_; conv => whnf)
      rw [f44]
      refine ⟨fun _ => ?_, fun z => absurd (show nI 0 < nI 1 from nI_lt (by decide) (by decide)) z⟩
      repeat (refine hP _ ?_; conv => whnf)
      rw [f44]
      refine ⟨vp_in_nI (n := 0) (by decide) (by decide), ?_⟩
      rw [show (nI 1 - 1).toNatClampNeg = 0 from rfl, a1]
      repeat (refine hP _ ?_; conv => whnf)
      refine ⟨fun z => absurd z (by decide), fun _ => ?_⟩
      repeat (refine hP _ ?_; conv => whnf)
      refine ⟨fun _ => ?_, fun z => absurd rfl z⟩
      repeat (refine hP _ ?_; conv => whnf)
      refine r_isSignX (k := 20) (n := n + 6) hC' hX (by decide) (by decide) ?_
      by_cases g20 : (tk tx s'.k).1 = 20
      · rw [if_pos g20]
        repeat (refine hP _ ?_; conv => whnf)
        refine ⟨fun z => absurd z (by decide), fun _ => ?_⟩
        repeat (refine hP _ ?_; conv => whnf)
        exact hK
      rw [if_neg g20]
      repeat (refine hP _ ?_; conv => whnf)
      refine ⟨fun _ => ?_, fun z => absurd rfl z⟩
      repeat (refine hP _ ?_; conv => whnf)
      refine r_isWordX (w := 5) (n := n + 6) hC' hX (by decide) ?_
      by_cases g6 : (tk tx s'.k).1 = 6
      · rw [if_pos g6]
        repeat (refine hP _ ?_; conv => whnf)
        refine ⟨fun z => absurd z (by decide), fun _ => ?_⟩
        repeat (refine hP _ ?_; conv => whnf)
        exact hK
      rw [if_neg g6]
      repeat (refine hP _ ?_; conv => whnf)
      refine ⟨fun _ => ?_, fun z => absurd rfl z⟩
      repeat (refine hP _ ?_; conv => whnf)
      refine r_isWordX (w := 6) (n := n + 6) hC' hX (by decide) ?_
      rw [if_pos (show (tk tx s'.k).1 = 6 + 1 by omega)]
      repeat (refine hP _ ?_; conv => whnf)
      refine ⟨fun z => absurd z (by decide), fun _ => ?_⟩
      repeat (refine hP _ ?_; conv => whnf)
      exact hK
    · rw [if_neg g] at hK
      refine r_headH (n := n) hC' hP hB h' (Or.inl rfl) (fun x r e => ?_) (fun I5 L5 h5 => ?_)
      · cases e
        exact ⟨fun z => absurd z (by simp), fun _ => by omega⟩
      · rw [jone_n (by rw [hbg]; decide)] at h5
        obtain ⟨e, e3⟩ := jfal_err (tx := tx) (a := 2) (r := .ok s')
        rw [e3] at h5 hK
        have h5 : RX tx m I0 L0 u0 263 [] (.error e) I5 L5 := h5
        refine r_headX hP h5 (hK _ _ (fun e' q => ?_) (fun s' q => by cases q))
        cases q
        exact h5
/-- what stands in a body's block, to behind its } -/
def jbbk (tx : List Nat) (s : JSt) : JRs := jb (jloop tx (jstmt tx 10) 121 (.ok s)) fun s' => if (tk tx s'.k).1 = 20 then (if ¬ s'.val = 0 ∧ ¬ s'.set = -1 then jfal tx 10 (.ok s') else jshr 0 (jadv (.ok s'))) else jfal tx 2 (.ok s')
theorem r_stmtsB {XL : Nat} {XS : Nat → Int32} {n : Nat} {C : mC} {I : Nat → Nat → Int32} {L : Nat → Nat → Int64} {K : mK} {tx : List Nat} {m : Nat} {I0 : Nat → Nat → Int32} {L0 : Nat → Nat → Int64} {u0 : JU} {B c : Nat} {y : Int32} {s : JSt} (hC : m_Ge XL XS (n + 8) C) (hB : B ≤ 20) (hH : Hd tx m I0 L0 u0 1 B 10 [(1, y, 0), (4, 0, c)] s I L)
    (hK : ∀ I' L', (∀ e, jbbk tx s = .error e → RX tx m I0 L0 u0 263 [] (.error e) I' L') → (∀ s', jbbk tx s = .ok s' → RX tx m I0 L0 u0 263 [(4, 0, c)] (.ok s') I' L' ∧ s'.cd.length ≤ 2 * s'.sm + B) → K none (m_SH, I', L')) : C 140 [.ref 30, .int (nI 1)] (m_SH, I, L) K := by
  refine e_X9_readStmts hC (Nat.le_of_ble_eq_true rfl) ?_
  intro C' hC' P hP
  unfold jbbk at hK
  have H1 : L1 P tx m I0 L0 u0 1 B 10 := r_L1 (n := n) (base := 1) hC' hP hB (r_headE (n := n + 2) hC' hP) 10
  refine r_L2 hB H1 121 (1, y, 0) [(4, 0, c)] s I L (Or.inr rfl) hH (by omega) (fun e I' L' e1 h' => ?_) (fun s' I' L' e1 hbg h' => ?_) none
  · rw [e1] at hK
    refine r_headX hP h' (hK _ _ (fun e' q => ?_) (fun s' q => by cases q))
    cases q
    exact h'
  · rw [e1] at hK
    simp only [jb] at hK
    have hsm := h'.1.ok.2.1.2
    have hcd := h'.2.2.2.2
    have hcd' : s'.cd.length ≤ 2 * s'.sm + B := hcd
    by_cases g : (tk tx s'.k).1 = 20
    · rw [if_pos g] at hK
      refine r_headE (n := n + 2) hC' hP 260 [(4, 0, c)] (1, y, 0) s' I' L' h'.1 rfl g (by omega) h'.2.2.2.1.2.1 h'.2.1 h'.2.2.1 (Or.inl ⟨by simp, by simp⟩) (by show s'.cd.length + 0 ≤ 260; omega) (fun I5 L5 h5 => ?_)
      unfold jend at h5
      by_cases g10 : ¬ s'.val = 0 ∧ ¬ s'.set = -1
      · rw [if_pos ⟨isB_c.mpr rfl, g10⟩] at h5
        rw [if_pos g10] at hK
        obtain ⟨e, e3⟩ := jfal_err (tx := tx) (a := 10) (r := .ok s')
        rw [e3] at h5 hK
        have h5 : RX tx m I0 L0 u0 261 [] (.error e) I5 L5 := h5
        refine r_headX hP h5 (hK _ _ (fun e' q => ?_) (fun s' q => by cases q))
        cases q
        exact h5.mono (by omega) (by omega)
      · rw [if_neg (fun z => g10 z.2)] at h5
        rw [if_neg g10] at hK
        obtain ⟨h51, -, -⟩ := h5
        have ht : thr tx [(4, 0, c)] (sshr 0 (s'.wk (s'.k + 1))) = (sshr 0 (s'.wk (s'.k + 1)), [(4, 0, c)]) := by
          rw [thr, if_neg (by simp), if_neg (by simp)]
        have h51 : RX tx m I0 L0 u0 261 (thr tx [(4, 0, c)] (sshr 0 (s'.wk (s'.k + 1)))).2 (.ok (thr tx [(4, 0, c)] (sshr 0 (s'.wk (s'.k + 1)))).1) I5 L5 := h51
        rw [ht] at h51
        have h51 : RX tx m I0 L0 u0 261 [(4, 0, c)] (.ok (sshr 0 (s'.wk (s'.k + 1)))) I5 L5 := h51
        have hK := hK I5 L5 (fun e q => by cases q) (fun q e => by
          have e : Except.ok (sshr 0 (s'.wk (s'.k + 1))) = Except.ok q := e
          cases e
          exact ⟨h51.mono (by omega) (by omega), hcd'⟩)
        intro l
        have f44 := h51.fct.1
        repeat (refine hP _ ?_; conv => whnf)
        refine ⟨fun _ => ?_, fun z => absurd h51.flt_ok z⟩
        repeat (refine hP _ ?_; conv => whnf)
        rw [f44]
        refine ⟨fun z => absurd z (by show ¬ nI 1 < nI 1; exact nI_nlt (Nat.le_refl _) (by decide)), fun _ => ?_⟩
        repeat (refine hP _ ?_; conv => whnf)
        exact hK
    · rw [if_neg g] at hK
      refine r_headH (n := n) hC' hP hB h' (Or.inr (Or.inl rfl)) (fun x r e => ?_) (fun I5 L5 h5 => ?_)
      · cases e
        exact ⟨fun _ => g, fun z => absurd z (by simp)⟩
      · rw [jone_n (by rw [hbg]; decide)] at h5
        obtain ⟨e, e3⟩ := jfal_err (tx := tx) (a := 2) (r := .ok s')
        rw [e3] at h5 hK
        have h5 : RX tx m I0 L0 u0 263 [] (.error e) I5 L5 := h5
        refine r_headX hP h5 (hK _ _ (fun e' q => ?_) (fun s' q => by cases q))
        cases q
        exact h5
theorem r_readOld {XL : Nat} {XS : Nat → Int32} {n : Nat} {C : mC} {I : Nat → Nat → Int32} {L : Nat → Nat → Int64} {K : mK} {tx : List Nat} {m : Nat} {I0 : Nat → Nat → Int32} {L0 : Nat → Nat → Int64} {u0 : JU} {B : Nat} {s : JSt} (hC : m_Ge XL XS (n + 9) C) (hB : B ≤ 20) (hX : RX tx m I0 L0 u0 260 [] (.ok s) (m_up I 30 36 0) L) (hs0 : s.set = 0) (hc : s.cd.length ≤ 2 * s.sm + B)
    (hK : ∀ I' L' v, (∀ e, jold tx s = .error e → RX tx m I0 L0 u0 263 [] (.error e) I' L') → (∀ s', jold tx s = .ok s' → RX tx m I0 L0 u0 260 [(0, 0, s.nm.length)] (.ok s') I' L' ∧ s'.cd.length ≤ 2 * s'.sm + B ∧ v = (if s'.set = -1 then 0 else 1)) → K none (m_SH, m_up (m_up (m_up I' 30 46 v) 30 44 0) 30 45 0, L')) : C 141 [.ref 30] (m_SH, I, L) K := by
  have f44 : m_up I 30 36 0 30 44 = 0 := hX.fct.1
  have h1 := hX.psh (k := 0) (Or.inl rfl) (by simp) (by simp [dep])
  have h46 : pushF (nI 0) (m_up I 30 36 0) 46 0 = 1 := by
    unfold pushF
    rw [f44]
    simp [m_upr]
  refine e_X9_readOld hC (Nat.le_of_ble_eq_true rfl) ?_
  intro C' hC' P hP
  repeat (refine hP _ ?_; conv => whnf)
  refine r_push (n := n + 7) hC' (by rw [f44]; exact vp_in_nI (n := 0) (by decide) (by decide)) ?_
  have h1' : RX tx m I0 L0 u0 260 [(0, 0, s.nm.length)] (.ok s) (pushF 0 (m_up I 30 36 0)) L := h1
  have h46' : pushF 0 (m_up I 30 36 0) 46 0 = 1 := h46
  generalize pushF 0 (m_up I 30 36 0) = I1 at h1' h46'
  have g44 : I1 30 44 = nI 1 := h1'.fct.1
  repeat (refine hP _ ?_; conv => whnf)
  rw [g44]
  have hH : Hd tx m I0 L0 u0 0 B 11 [(0, 0, s.nm.length)] s I1 L := by
    refine ⟨h1', fun _ _ => ?_, Or.inr ?_, ⟨Or.inl ⟨by simp, by simp⟩, by simp, by simp, by simp [dep], fun z => absurd (isB_c.mp z) (by simp)⟩, ?_⟩
    · show I1 46 0 = _
      rw [h46', hs0, if_neg (by decide)]
    · rw [hs0]
      exact ⟨0, Nat.two_pow_pos _, rfl⟩
    · show s.cd.length + 0 ≤ _
      omega
  refine r_stmtsA hC' hB hH (fun I2 L2 he hk => ?_)
  repeat (refine hP _ ?_; conv => whnf)
  refine ⟨vp_in_nI (n := 0) (by decide) (by decide), ?_⟩
  have hbb : I2 46 0 = 0 ∨ I2 46 0 = 1 := by
    cases hj : jold tx s with
    | error e => exact (he e hj).2.1.2 0
    | ok s' => exact (hk s' hj).1.2.1.2 0
  repeat (refine hP _ ?_; conv => whnf)
  refine ⟨hbb, ?_⟩
  repeat (refine hP _ ?_; conv => whnf)
  refine hK _ _ _ he (fun s' e => ?_)
  have h2 := hk s' e
  refine ⟨h2.1, h2.2.2.2.2, ?_⟩
  exact h2.2.1 (by simp) (by simp)
