/-! ===== loops that seek ===== -/
/-- the first place from i on, within m, at which p holds; -1 -/
def srch (p : Nat → Bool) : Nat → Nat → Int32
  | 0, _ => -1
  | m + 1, i => if p i = true then nI i else srch p m (i + 1)
theorem c_find {XL : Nat} {XS : Nat → Int32} {n : Nat} {C : mC} {I : Nat → Nat → Int32} {L : Nat → Nat → Int64} {K : mK} {a : Int64} {c : Nat} (hC : m_Ge XL XS (n + 1) C) (hc : I 18 1 = nI c) (h20 : c ≤ 20) (hK : K (some (.int (srch (fun j => L 19 j == a) c 0))) (m_SH, I, L)) : C 50 [.ref 18, .long a] (m_SH, I, L) K := by
  refine e_X4_find hC (Nat.le_of_ble_eq_true rfl) ?_
  intro C' hC' P hP
  have loop : ∀ (m i : Nat), i + m = c → K (some (.int (srch (fun j => L 19 j == a) m i))) (m_SH, I, L) → P (2, [some (.ref 18), some (.long a), none, some (.int (nI i))], [], (m_SH, I, L), 0, 0) := by
    intro m
    induction m with
    | zero =>
      intro i hi hk
      repeat (refine hP _ ?_; conv => whnf)
      refine ⟨fun h => ?_, fun h => ?_⟩
      · exact absurd h (by rw [hc]; exact nI_nlt (by omega) (by omega))
      · repeat (refine hP _ ?_; conv => whnf)
        simpa [srch] using hk
    | succ m ih =>
      intro i hi hk
      repeat (refine hP _ ?_; conv => whnf)
      refine ⟨fun h => ?_, fun h => ?_⟩
      · repeat (refine hP _ ?_; conv => whnf)
        refine ⟨fun h => ?_, fun h => ?_⟩
        · repeat (refine hP _ ?_; conv => whnf)
          refine ⟨vp_in_nI (by omega) (by omega), ?_⟩
          repeat (refine hP _ ?_; conv => whnf)
          rw [nI_clamp (by omega), lg_cmp_eq]
          refine ⟨fun h => ?_, fun h => ?_⟩
          · repeat (refine hP _ ?_; conv => whnf)
            simpa [srch, *] using hk
          · iterate 2 (refine hP _ ?_; conv => whnf)
            have e := ih (i + 1) (by omega) (by simpa [srch, *] using hk)
            rw [← nI_1] at e
            exact e
        · exact absurd (show nI i < nI 20 from nI_lt (by omega) (by omega)) h
      · exact absurd (by rw [hc]; exact nI_lt (by omega) (by omega)) h
  iterate 2 (refine hP _ ?_; conv => whnf)
  exact loop c 0 (by omega) hK
theorem c_labelWith {XL : Nat} {XS : Nat → Int32} {n : Nat} {C : mC} {I : Nat → Nat → Int32} {L : Nat → Nat → Int64} {K : mK} {a : Int64} {c : Nat} (hC : m_Ge XL XS (n + 1) C) (hc : I 8 5 = nI c) (h20 : c ≤ 32) (hK : K (some (.int (srch (fun j => L 12 j == a) c 0))) (m_SH, I, L)) : C 82 [.ref 8, .long a] (m_SH, I, L) K := by
  refine e_X7_labelWith hC (Nat.le_of_ble_eq_true rfl) ?_
  intro C' hC' P hP
  have loop : ∀ (m i : Nat), i + m = c → K (some (.int (srch (fun j => L 12 j == a) m i))) (m_SH, I, L) → P (2, [some (.ref 8), some (.long a), none, some (.int (nI i))], [], (m_SH, I, L), 0, 0) := by
    intro m
    induction m with
    | zero =>
      intro i hi hk
      repeat (refine hP _ ?_; conv => whnf)
      refine ⟨fun h => ?_, fun h => ?_⟩
      · exact absurd h (by rw [hc]; exact nI_nlt (by omega) (by omega))
      · repeat (refine hP _ ?_; conv => whnf)
        simpa [srch] using hk
    | succ m ih =>
      intro i hi hk
      repeat (refine hP _ ?_; conv => whnf)
      refine ⟨fun h => ?_, fun h => ?_⟩
      · repeat (refine hP _ ?_; conv => whnf)
        refine ⟨fun h => ?_, fun h => ?_⟩
        · repeat (refine hP _ ?_; conv => whnf)
          refine ⟨vp_in_nI (by omega) (by omega), ?_⟩
          repeat (refine hP _ ?_; conv => whnf)
          rw [nI_clamp (by omega), lg_cmp_eq]
          refine ⟨fun h => ?_, fun h => ?_⟩
          · repeat (refine hP _ ?_; conv => whnf)
            simpa [srch, *] using hk
          · iterate 2 (refine hP _ ?_; conv => whnf)
            have e := ih (i + 1) (by omega) (by simpa [srch, *] using hk)
            rw [← nI_1] at e
            exact e
        · exact absurd (show nI i < nI 32 from nI_lt (by omega) (by omega)) h
      · exact absurd (by rw [hc]; exact nI_lt (by omega) (by omega)) h
  iterate 2 (refine hP _ ?_; conv => whnf)
  exact loop c 0 (by omega) hK
theorem c_findEnumeration {XL : Nat} {XS : Nat → Int32} {n : Nat} {C : mC} {I : Nat → Nat → Int32} {L : Nat → Nat → Int64} {K : mK} {a : Int64} {c : Nat} (hC : m_Ge XL XS (n + 1) C) (hc : I 17 6 = nI c) (h20 : c ≤ 4) (hK : K (some (.int (srch (fun j => L 20 j == a) c 0))) (m_SH, I, L)) : C 13 [.ref 17, .long a] (m_SH, I, L) K := by
  refine e_X1_findEnumeration hC (Nat.le_of_ble_eq_true rfl) ?_
  intro C' hC' P hP
  have loop : ∀ (m i : Nat), i + m = c → K (some (.int (srch (fun j => L 20 j == a) m i))) (m_SH, I, L) → P (2, [some (.ref 17), some (.long a), none, some (.int (nI i))], [], (m_SH, I, L), 0, 0) := by
    intro m
    induction m with
    | zero =>
      intro i hi hk
      repeat (refine hP _ ?_; conv => whnf)
      refine ⟨fun h => ?_, fun h => ?_⟩
      · exact absurd h (by rw [hc]; exact nI_nlt (by omega) (by omega))
      · repeat (refine hP _ ?_; conv => whnf)
        simpa [srch] using hk
    | succ m ih =>
      intro i hi hk
      repeat (refine hP _ ?_; conv => whnf)
      refine ⟨fun h => ?_, fun h => ?_⟩
      · repeat (refine hP _ ?_; conv => whnf)
        refine ⟨fun h => ?_, fun h => ?_⟩
        · repeat (refine hP _ ?_; conv => whnf)
          refine ⟨vp_in_nI (by omega) (by omega), ?_⟩
          repeat (refine hP _ ?_; conv => whnf)
          rw [nI_clamp (by omega), lg_cmp_eq]
          refine ⟨fun h => ?_, fun h => ?_⟩
          · repeat (refine hP _ ?_; conv => whnf)
            simpa [srch, *] using hk
          · iterate 2 (refine hP _ ?_; conv => whnf)
            have e := ih (i + 1) (by omega) (by simpa [srch, *] using hk)
            rw [← nI_1] at e
            exact e
        · exact absurd (show nI i < nI 4 from nI_lt (by omega) (by omega)) h
      · exact absurd (by rw [hc]; exact nI_lt (by omega) (by omega)) h
  iterate 2 (refine hP _ ?_; conv => whnf)
  exact loop c 0 (by omega) hK
theorem r_inScope {XL : Nat} {XS : Nat → Int32} {n : Nat} {C : mC} {I : Nat → Nat → Int32} {L : Nat → Nat → Int64} {K : mK} {a : Int64} {c : Nat} (hC : m_Ge XL XS (n + 1) C) (hc : I 30 35 = nI c) (h20 : c ≤ 20) (hK : K (some (.int (srch (fun j => L 44 j == a) c 0))) (m_SH, I, L)) : C 126 [.ref 30, .long a] (m_SH, I, L) K := by
  refine e_X9_inScope hC (Nat.le_of_ble_eq_true rfl) ?_
  intro C' hC' P hP
  have loop : ∀ (m i : Nat), i + m = c → K (some (.int (srch (fun j => L 44 j == a) m i))) (m_SH, I, L) → P (2, [some (.ref 30), some (.long a), none, some (.int (nI i))], [], (m_SH, I, L), 0, 0) := by
    intro m
    induction m with
    | zero =>
      intro i hi hk
      repeat (refine hP _ ?_; conv => whnf)
      refine ⟨fun h => ?_, fun h => ?_⟩
      · exact absurd h (by rw [hc]; exact nI_nlt (by omega) (by omega))
      · repeat (refine hP _ ?_; conv => whnf)
        simpa [srch] using hk
    | succ m ih =>
      intro i hi hk
      repeat (refine hP _ ?_; conv => whnf)
      refine ⟨fun h => ?_, fun h => ?_⟩
      · repeat (refine hP _ ?_; conv => whnf)
        refine ⟨vp_in_nI (by omega) (by omega), ?_⟩
        repeat (refine hP _ ?_; conv => whnf)
        rw [nI_clamp (by omega), lg_cmp_eq]
        refine ⟨fun h => ?_, fun h => ?_⟩
        · repeat (refine hP _ ?_; conv => whnf)
          simpa [srch, *] using hk
        · iterate 2 (refine hP _ ?_; conv => whnf)
          have e := ih (i + 1) (by omega) (by simpa [srch, *] using hk)
          rw [← nI_1] at e
          exact e
      · exact absurd (by rw [hc]; exact nI_lt (by omega) (by omega)) h
  iterate 2 (refine hP _ ?_; conv => whnf)
  exact loop c 0 (by omega) hK
theorem c_nameKind {XL : Nat} {XS : Nat → Int32} {n : Nat} {C : mC} {I : Nat → Nat → Int32} {L : Nat → Nat → Int64} {K : mK} {a : Int64} (hC : m_Ge XL XS (n + 1) C) (hK : K (some (.int (if srch (fun j => L 7 j == a) 15 0 = -1 then 16 else 1 + srch (fun j => L 7 j == a) 15 0))) (m_SH, I, L)) : C 67 [.ref 3, .long a] (m_SH, I, L) K := by
  refine e_X6_nameKind hC (Nat.le_of_ble_eq_true rfl) ?_
  intro C' hC' P hP
  have loop : ∀ (m i : Nat), i + m = 15 → K (some (.int (if srch (fun j => L 7 j == a) m i = -1 then 16 else 1 + srch (fun j => L 7 j == a) m i))) (m_SH, I, L) → P (2, [some (.ref 3), some (.long a), none, some (.int (nI i))], [], (m_SH, I, L), 0, 0) := by
    intro m
    induction m with
    | zero =>
      intro i hi hk
      repeat (refine hP _ ?_; conv => whnf)
      refine ⟨fun h => ?_, fun h => ?_⟩
      · exact absurd h (nI_nlt (a := i) (b := 15) (by omega) (by omega))
      · repeat (refine hP _ ?_; conv => whnf)
        simpa [srch] using hk
    | succ m ih =>
      intro i hi hk
      repeat (refine hP _ ?_; conv => whnf)
      refine ⟨fun h => ?_, fun h => ?_⟩
      · repeat (refine hP _ ?_; conv => whnf)
        refine ⟨vp_in_nI (by omega) (by omega), ?_⟩
        repeat (refine hP _ ?_; conv => whnf)
        rw [nI_clamp (by omega), lg_cmp_eq]
        refine ⟨fun h => ?_, fun h => ?_⟩
        · repeat (refine hP _ ?_; conv => whnf)
          have hne : ¬ nI i = -1 := fun q => by
            have := congrArg Int32.toInt q
            rw [nI_toInt (by omega)] at this
            have h1 : (-1 : Int32).toInt = -1 := rfl
            omega
          simpa [srch, *] using hk
        · iterate 2 (refine hP _ ?_; conv => whnf)
          have e := ih (i + 1) (by omega) (by simpa [srch, *] using hk)
          rw [← nI_1] at e
          exact e
      · exact absurd (nI_lt (a := i) (b := 15) (by omega) (by omega)) h
  iterate 2 (refine hP _ ?_; conv => whnf)
  exact loop 15 0 (by omega) hK
theorem nI_mul16 {e j : Nat} (he : e < 4) (hj : j < 16) : nI e * 16 + nI j = nI (e * 16 + j) := by
  rw [show (16 : Int32) = nI 16 from rfl, pk_mul, nI_add]
theorem nI_mul16' {e j : Nat} (he : e < 4) (hj : j < 16) : 16 * nI e + nI j = nI (16 * e + j) := by
  rw [show (16 : Int32) = nI 16 from rfl, pk_mul, nI_add]
theorem c_findConstant {XL : Nat} {XS : Nat → Int32} {n : Nat} {C : mC} {I : Nat → Nat → Int32} {L : Nat → Nat → Int64} {K : mK} {a : Int64} {e c : Nat} (hC : m_Ge XL XS (n + 2) C) (he : e < 4) (hc : I 21 e = nI c) (h16 : c ≤ 16) (hK : K (some (.int (srch (fun j => L 22 (e * 16 + j) == a) c 0))) (m_SH, I, L)) : C 15 [.ref 17, .int (nI e), .long a] (m_SH, I, L) K := by
  refine e_X1_findConstant hC (Nat.le_of_ble_eq_true rfl) ?_
  intro C' hC' P hP
  have hcc : ccF (nI e) I = nI c := by
    unfold ccF
    rw [if_neg (nI_pos (by omega)), if_pos (show nI e < 4 from nI_lt (a := e) (b := 4) (by omega) (by omega)), nI_clamp (by omega), hc]
  have loop : ∀ (m i : Nat), i + m = c → K (some (.int (srch (fun j => L 22 (e * 16 + j) == a) m i))) (m_SH, I, L) → P (10, [some (.ref 17), some (.int (nI e)), some (.long a), none, some (.int (nI c)), some (.int (nI i))], [], (m_SH, I, L), 0, 0) := by
    intro m
    induction m with
    | zero =>
      intro i hi hk
      repeat (refine hP _ ?_; conv => whnf)
      refine ⟨fun h => ?_, fun h => ?_⟩
      · exact absurd h (nI_nlt (by omega) (by omega))
      · repeat (refine hP _ ?_; conv => whnf)
        simpa [srch] using hk
    | succ m ih =>
      intro i hi hk
      repeat (refine hP _ ?_; conv => whnf)
      refine ⟨fun h => ?_, fun h => ?_⟩
      · repeat (refine hP _ ?_; conv => whnf)
        refine ⟨fun h => ?_, fun h => ?_⟩
        · repeat (refine hP _ ?_; conv => whnf)
          rw [nI_mul16 (by omega) (by omega)]
          refine ⟨vp_in_nI (by omega) (by omega), ?_⟩
          repeat (refine hP _ ?_; conv => whnf)
          rw [nI_clamp (by omega), lg_cmp_eq]
          refine ⟨fun h => ?_, fun h => ?_⟩
          · repeat (refine hP _ ?_; conv => whnf)
            simpa [srch, *] using hk
          · iterate 2 (refine hP _ ?_; conv => whnf)
            have e := ih (i + 1) (by omega) (by simpa [srch, *] using hk)
            rw [← nI_1] at e
            exact e
        · exact absurd (show nI i < nI 16 from nI_lt (by omega) (by omega)) h
      · exact absurd (nI_lt (by omega) (by omega)) h
  repeat (refine hP _ ?_; conv => whnf)
  refine c_constantCount hC' ?_
  rw [hcc]
  iterate 3 (refine hP _ ?_; conv => whnf)
  exact loop c 0 (by omega) hK
theorem r_constantOf {XL : Nat} {XS : Nat → Int32} {n : Nat} {C : mC} {I : Nat → Nat → Int32} {L : Nat → Nat → Int64} {K : mK} {a : Int64} {e c : Nat} (hC : m_Ge XL XS (n + 1) C) (he : e < 4) (hc : I 34 e = nI c) (h16 : c ≤ 16) (hK : K (some (.int (srch (fun j => L 35 (16 * e + j) == a) c 0))) (m_SH, I, L)) : C 120 [.ref 30, .int (nI e), .long a] (m_SH, I, L) K := by
  refine e_X9_constantOf hC (Nat.le_of_ble_eq_true rfl) ?_
  intro C' hC' P hP
  have loop : ∀ (m i : Nat), i + m = c → K (some (.int (srch (fun j => L 35 (16 * e + j) == a) m i))) (m_SH, I, L) → P (3, [some (.ref 30), some (.int (nI e)), some (.long a), none, some (.int (nI i))], [], (m_SH, I, L), 0, 0) := by
    intro m
    induction m with
    | zero =>
      intro i hi hk
      repeat (refine hP _ ?_; conv => whnf)
      refine ⟨vp_in_nI (by omega) (by omega), ?_⟩
      repeat (refine hP _ ?_; conv => whnf)
      rw [nI_clamp (by omega), hc]
      refine ⟨fun h => ?_, fun h => ?_⟩
      · exact absurd h (nI_nlt (by omega) (by omega))
      · repeat (refine hP _ ?_; conv => whnf)
        simpa [srch] using hk
    | succ m ih =>
      intro i hi hk
      repeat (refine hP _ ?_; conv => whnf)
      refine ⟨vp_in_nI (by omega) (by omega), ?_⟩
      repeat (refine hP _ ?_; conv => whnf)
      rw [nI_clamp (by omega), hc]
      refine ⟨fun h => ?_, fun h => ?_⟩
      · repeat (refine hP _ ?_; conv => whnf)
        rw [nI_mul16' (by omega) (by omega)]
        refine ⟨vp_in_nI (by omega) (by omega), ?_⟩
        repeat (refine hP _ ?_; conv => whnf)
        rw [nI_clamp (by omega), lg_cmp_eq]
        refine ⟨fun h => ?_, fun h => ?_⟩
        · repeat (refine hP _ ?_; conv => whnf)
          simpa [srch, *] using hk
        · iterate 2 (refine hP _ ?_; conv => whnf)
          have e := ih (i + 1) (by omega) (by simpa [srch, *] using hk)
          rw [← nI_1] at e
          exact e
      · exact absurd (nI_lt (by omega) (by omega)) h
  iterate 2 (refine hP _ ?_; conv => whnf)
  exact loop c 0 (by omega) hK
