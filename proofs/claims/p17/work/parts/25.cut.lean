/-! ===== the class cuts THE TEXT ===== -/
def cval (t : Tok) : Int64 := if t.1 = 17 then lN t.2.2.2.1 else lN (pkB 256 t.2.2.1)
theorem qN_iff {x : Int32} : qN x = true ↔ (¬ isSm x = 0 ∨ ¬ isFg x = 0) := by
  unfold qN
  rcases isSm_01 x with h | h <;> rcases isFg_01 x with h2 | h2 <;> simp [h, h2]
theorem qF_iff {x : Int32} : qF x = true ↔ ¬ isFg x = 0 := by
  unfold qF
  rcases isFg_01 x with h2 | h2 <;> simp [h2]
theorem qT_iff {x : Int32} : qT x = true ↔ ¬ isTs x = 0 := by
  unfold qT
  rcases isTs_01 x with h2 | h2 <;> simp [h2]
theorem sub_nI {a b : Nat} (h : b ≤ a) : nI a - nI b = nI (a - b) := pk_sub h
theorem c_cutName {XL : Nat} {XS : Nat → Int32} {n : Nat} {C : mC} {I : Nat → Nat → Int32} {L : Nat → Nat → Int64} {K : mK} {tx : List Nat} {i0 c : Nat} (hC : m_Ge XL XS (n + 3) C) (ht : TxOk tx) (h : TxC tx I) (hw : WdC L) (hi0 : i0 < tx.length) (hc : I 3 4 = nI c) (hc2 : c < 3001)
    (hbad : 8 < scan qN tx i0 - i0 → K (some (.int (nI i0))) (m_SH, I, L))
    (hok : ¬ 8 < scan qN tx i0 - i0 → K (some (.int (nI (scan qN tx i0)))) (m_SH, keepI (wordIx (slice tx i0 (scan qN tx i0)) + 1) i0 c I, m_upL L 6 c (lN (pkB 256 (slice tx i0 (scan qN tx i0)))))) : C 66 [.ref 3, .ref 1, .int (nI i0)] (m_SH, I, L) K := by
  have hl := ht.1
  have hb := scan_le (q := qN) (tx := tx) (i := i0) (by omega)
  refine e_X6_cutName hC (Nat.le_of_ble_eq_true rfl) ?_
  intro C' hC' P hP
  have hex : P (38, [some (.ref 3), some (.ref 1), some (.int (nI i0)), some (.int (nI (scan qN tx i0))), none, none], [], (m_SH, I, L), 0, 0) := by
    repeat (refine hP _ ?_; conv => whnf)
    rw [sub_nI hb.1]
    refine ⟨fun q => ?_, fun q => ?_⟩
    · repeat (refine hP _ ?_; conv => whnf)
      exact hbad ((nI_ltI (a := 8) (by omega) (by omega)).mp q)
    · have h8 : ¬ 8 < scan qN tx i0 - i0 := fun z => q (nI_lt (a := 8) z (by omega))
      repeat (refine hP _ ?_; conv => whnf)
      refine c_packed hC' ht h hb.1 (by omega) ?_
      rw [pkF_0 ht hb.1 hb.2 (by omega)]
      have hcs := nm_slice ht (i := i0) (by omega) (by omega)
      repeat (refine hP _ ?_; conv => whnf)
      refine c_nameKind' hC' hw hcs ?_
      repeat (refine hP _ ?_; conv => whnf)
      have hwx : wordIx (slice tx i0 (scan qN tx i0)) ≤ 15 := by
        by_cases hm : slice tx i0 (scan qN tx i0) ∈ wordL
        · have := wordIx_in hm; omega
        · rw [wordIx_out hm]; omega
      refine c_keep hC' (by omega) (by omega) hc hc2 ?_
      repeat (refine hP _ ?_; conv => whnf)
      exact hok h8
  have loop : ∀ (m j : Nat), j + m = tx.length → scan qN tx j = scan qN tx i0 → P (2, [some (.ref 3), some (.ref 1), some (.int (nI i0)), some (.int (nI j)), none, none], [], (m_SH, I, L), 0, 0) := by
    intro m
    induction m with
    | zero =>
      intro j hj hs
      repeat (refine hP _ ?_; conv => whnf)
      rw [h.1]
      refine ⟨fun h1 => absurd h1 (nI_nlt (by omega) (by omega)), fun _ => ?_⟩
      rw [scan_ge (by omega)] at hs
      rw [← hs] at hex
      exact hex
    | succ m ih =>
      intro j hj hs
      repeat (refine hP _ ?_; conv => whnf)
      rw [h.1]
      refine ⟨fun _ => ?_, fun h1 => absurd (nI_lt (by omega) (by omega)) h1⟩
      repeat (refine hP _ ?_; conv => whnf)
      refine c_at' hC' ht h (by omega) ?_
      repeat (refine hP _ ?_; conv => whnf)
      refine c_isSmall hC' ?_
      rw [scan_lt (by omega)] at hs
      have go : qN (toc tx j) = true → P (32, [some (.ref 3), some (.ref 1), some (.int (nI i0)), some (.int (nI j)), none, none], [], (m_SH, I, L), 0, 0) := by
        intro hq
        rw [if_pos hq] at hs
        iterate 2 (refine hP _ ?_; conv => whnf)
        have e := ih (j + 1) (by omega) hs
        rw [← nI_1] at e
        exact e
      repeat (refine hP _ ?_; conv => whnf)
      refine ⟨fun q => ?_, fun q => go (qN_iff.mpr (Or.inl q))⟩
      repeat (refine hP _ ?_; conv => whnf)
      refine c_at' hC' ht h (by omega) ?_
      repeat (refine hP _ ?_; conv => whnf)
      refine c_isFigure hC' ?_
      repeat (refine hP _ ?_; conv => whnf)
      refine ⟨fun q2 => ?_, fun q2 => go (qN_iff.mpr (Or.inr q2))⟩
      rw [if_neg (fun z => by rcases qN_iff.mp z with z | z; exact z q; exact z q2)] at hs
      rw [← hs] at hex
      exact hex
  iterate 2 (refine hP _ ?_; conv => whnf)
  exact loop (tx.length - i0) i0 (by omega) rfl
theorem c_cutText {XL : Nat} {XS : Nat → Int32} {n : Nat} {C : mC} {I : Nat → Nat → Int32} {L : Nat → Nat → Int64} {K : mK} {tx : List Nat} {i0 c : Nat} (hC : m_Ge XL XS (n + 3) C) (ht : TxOk tx) (h : TxC tx I) (hi0 : i0 < tx.length) (hc : I 3 4 = nI c) (hc2 : c < 3001)
    (hbad : ¬ (toc tx (scan qT tx (i0 + 1)) = 34 ∧ scan qT tx (i0 + 1) - (i0 + 1) ≤ 8) → K (some (.int (nI i0))) (m_SH, I, L))
    (hok : (toc tx (scan qT tx (i0 + 1)) = 34 ∧ scan qT tx (i0 + 1) - (i0 + 1) ≤ 8) → K (some (.int (nI (scan qT tx (i0 + 1) + 1)))) (m_SH, keepI 18 i0 c I, m_upL L 6 c (lN (pkB 256 (slice tx (i0 + 1) (scan qT tx (i0 + 1))))))) : C 69 [.ref 3, .ref 1, .int (nI i0)] (m_SH, I, L) K := by
  have hl := ht.1
  have hb := scan_le (q := qT) (tx := tx) (i := i0 + 1) (by omega)
  refine e_X6_cutText hC (Nat.le_of_ble_eq_true rfl) ?_
  intro C' hC' P hP
  have hex : P (29, [some (.ref 3), some (.ref 1), some (.int (nI i0)), some (.int (nI (scan qT tx (i0 + 1))))], [], (m_SH, I, L), 0, 0) := by
    repeat (refine hP _ ?_; conv => whnf)
    refine c_at' hC' ht h (by omega) ?_
    repeat (refine hP _ ?_; conv => whnf)
    refine ⟨fun q => ?_, fun q => ?_⟩
    · repeat (refine hP _ ?_; conv => whnf)
      rw [sub_nI (by omega), show (1 : Int32) = nI 1 from rfl, sub_nI (by omega)]
      refine ⟨fun q2 => ?_, fun q2 => ?_⟩
      · repeat (refine hP _ ?_; conv => whnf)
        have := (nI_ltI (a := 8) (by omega) (by omega)).mp q2
        exact hbad (fun z => by omega)
      · have h8 : scan qT tx (i0 + 1) - (i0 + 1) ≤ 8 := by
          by_cases hz : scan qT tx (i0 + 1) - (i0 + 1) ≤ 8
          · exact hz
          · exact absurd (nI_lt (a := 8) (b := scan qT tx (i0 + 1) - i0 - 1) (by omega) (by omega)) q2
        repeat (refine hP _ ?_; conv => whnf)
        rw [nI_1 i0]
        refine c_packed hC' ht h hb.1 (by omega) ?_
        rw [pkF_0 ht hb.1 hb.2 h8]
        repeat (refine hP _ ?_; conv => whnf)
        refine c_keep (k := 18) hC' (by omega) (by omega) hc hc2 ?_
        repeat (refine hP _ ?_; conv => whnf)
        have e := hok ⟨q, h8⟩
        rw [← nI_1] at e
        exact e
    · repeat (refine hP _ ?_; conv => whnf)
      exact hbad (fun z => q z.1)
  have loop : ∀ (m j : Nat), j + m = tx.length → scan qT tx j = scan qT tx (i0 + 1) → P (4, [some (.ref 3), some (.ref 1), some (.int (nI i0)), some (.int (nI j))], [], (m_SH, I, L), 0, 0) := by
    intro m
    induction m with
    | zero =>
      intro j hj hs
      repeat (refine hP _ ?_; conv => whnf)
      rw [h.1]
      refine ⟨fun h1 => absurd h1 (nI_nlt (by omega) (by omega)), fun _ => ?_⟩
      rw [scan_ge (by omega)] at hs
      rw [← hs] at hex
      exact hex
    | succ m ih =>
      intro j hj hs
      repeat (refine hP _ ?_; conv => whnf)
      rw [h.1]
      refine ⟨fun _ => ?_, fun h1 => absurd (nI_lt (by omega) (by omega)) h1⟩
      repeat (refine hP _ ?_; conv => whnf)
      refine c_at' hC' ht h (by omega) ?_
      repeat (refine hP _ ?_; conv => whnf)
      refine c_isTextSign hC' ?_
      rw [scan_lt (by omega)] at hs
      repeat (refine hP _ ?_; conv => whnf)
      refine ⟨fun q => ?_, fun q => ?_⟩
      · rw [if_neg (fun z => qT_iff.mp z q)] at hs
        rw [← hs] at hex
        exact hex
      · rw [if_pos (qT_iff.mpr q)] at hs
        iterate 2 (refine hP _ ?_; conv => whnf)
        have e := ih (j + 1) (by omega) hs
        rw [← nI_1] at e
        exact e
  iterate 4 (refine hP _ ?_; conv => whnf)
  have e := loop (tx.length - (i0 + 1)) (i0 + 1) (by omega) rfl
  rw [← nI_1] at e
  exact e
/-- the number, digit by digit -/
def dcF (tx : List Nat) : Nat → Nat → Int64 → Int64
  | 0, _, a => a
  | m + 1, i, a => dcF tx m (i + 1) (10 * a + (toc tx i - 48).toInt64)
theorem decB : ∀ (l : List Nat) (a : Nat), l.foldl (fun a c => a * 10 + (c - 48)) a = a * 10 ^ l.length + decV l
  | [], a => by simp [decV]
  | c :: r, a => by
    simp only [List.foldl_cons, List.length_cons, decV]
    rw [decB r (a * 10 + (c - 48)), decB r (0 * 10 + (c - 48))]
    rw [Nat.pow_succ, Nat.add_mul, Nat.zero_mul, Nat.zero_add, Nat.mul_assoc, Nat.mul_comm 10 (10 ^ r.length), Nat.add_assoc]
theorem decV_cons (c : Nat) (r : List Nat) : decV (c :: r) = (c - 48) * 10 ^ r.length + decV r := by
  show r.foldl (fun a c => a * 10 + (c - 48)) (0 * 10 + (c - 48)) = _
  rw [decB r, Nat.zero_mul, Nat.zero_add]
theorem dcF_eq {tx : List Nat} : ∀ (m i a : Nat), i + m ≤ tx.length → (∀ c ∈ slice tx i (i + m), 48 ≤ c ∧ c ≤ 57) → dcF tx m i (lN a) = lN (a * 10 ^ m + decV (slice tx i (i + m)))
  | 0, i, a, h, hb => by simp [dcF, slice, decV]
  | m + 1, i, a, h, hb => by
    have hs := slice_succ (tx := tx) (i := i) (e := i + (m + 1)) (by omega) (by omega)
    rw [show i + (m + 1) = i + 1 + m by omega] at hs hb ⊢
    have hlen : (slice tx (i + 1) (i + 1 + m)).length = m := by rw [slice_len (by omega)]; omega
    rw [hs] at hb
    have hc := hb _ List.mem_cons_self
    rw [hs, decV_cons, hlen]
    have e2 : 10 * lN a + (toc tx i - 48).toInt64 = lN (a * 10 + (tx.getD i 0 - 48)) := by
      rw [toc_lt (by omega), show (48 : Int32) = nI 48 from rfl, sub_nI hc.1, nI_l (by omega), show (10 : Int64) = lN 10 from rfl, lN_mul, lN_add, Nat.mul_comm]
    show dcF tx m (i + 1) _ = _
    rw [e2, dcF_eq m (i + 1) _ (by omega) (fun c hc => hb c (List.mem_cons_of_mem _ hc))]
    congr 1
    rw [Nat.add_mul, Nat.pow_succ, Nat.mul_comm (10 ^ m) 10, ← Nat.mul_assoc]
    exact Nat.add_assoc _ _ _
