theorem slice_len {tx : List Nat} {i e : Nat} (he : e ≤ tx.length) : (slice tx i e).length = e - i := by
  unfold slice
  rw [List.length_take, List.length_drop]
  omega
theorem slice_mem {tx : List Nat} {i e c : Nat} (h : c ∈ slice tx i e) : c ∈ tx := List.mem_of_mem_drop (List.mem_of_mem_take h)
theorem pk8_lt {tx : List Nat} (ht : TxOk tx) {i e : Nat} (he : e ≤ tx.length) (h8 : e - i ≤ 8) : pkB 256 (slice tx i e) < 2 ^ 64 := by
  have h1 := pkB_lt (B := 256) (slice tx i e) (fun c hc => ht.2 c (slice_mem hc))
  rw [slice_len he] at h1
  have h2 : 256 ^ (e - i) ≤ 256 ^ 8 := Nat.pow_le_pow_right (by decide) h8
  have h3 : (256 : Nat) ^ 8 = 2 ^ 64 := by decide
  omega
theorem pkF_0 {tx : List Nat} (ht : TxOk tx) {i e : Nat} (hie : i ≤ e) (he : e ≤ tx.length) (h8 : e - i ≤ 8) : pkF tx (e - i) i 0 = lN (pkB 256 (slice tx i e)) := by
  have h := pkF_eq ht (e - i) i 0 (by omega) (by rw [Nat.zero_mul, Nat.zero_add, show i + (e - i) = e by omega]; exact pk8_lt ht he h8)
  rw [Nat.zero_mul, Nat.zero_add, show i + (e - i) = e by omega] at h
  exact h
/-- the signs of a name -/
theorem scan_all {q : Int32 → Bool} {tx : List Nat} : ∀ (m i : Nat), i + m = tx.length → ∀ c ∈ slice tx i (scan q tx i), q (nI c) = true
  | 0, i, h, c, hc => by rw [scan_ge (by omega), slice_nil (Nat.le_refl _)] at hc; simp at hc
  | m + 1, i, h, c, hc => by
    rw [scan_lt (by omega)] at hc
    by_cases hq : q (toc tx i) = true
    · rw [if_pos hq] at hc
      have hb := scan_bd q tx m (i + 1) (by omega)
      rw [slice_succ (by omega) hb.2] at hc
      rcases List.mem_cons.mp hc with rfl | hc
      · rw [← toc_lt (by omega)]; exact hq
      · exact scan_all m (i + 1) (by omega) c hc
    · rw [if_neg hq, slice_nil (Nat.le_refl _)] at hc; simp at hc
theorem qN_rng : ∀ c, c < 256 → qN (nI c) = true → (48 ≤ c ∧ c ≤ 57) ∨ (97 ≤ c ∧ c ≤ 122) := by decide +kernel
theorem qF_rng : ∀ c, c < 256 → qF (nI c) = true → 48 ≤ c ∧ c ≤ 57 := by decide +kernel
theorem qT_rng : ∀ c, c < 256 → qT (nI c) = true → (48 ≤ c ∧ c ≤ 57) ∨ (65 ≤ c ∧ c ≤ 90) ∨ (97 ≤ c ∧ c ≤ 122) := by decide +kernel
def NmOk (cs : List Nat) : Prop := cs.length ≤ 8 ∧ ∀ c ∈ cs, 0 < c ∧ c < 128
theorem nm_slice {tx : List Nat} (ht : TxOk tx) {i : Nat} (hi : i ≤ tx.length) (h8 : scan qN tx i - i ≤ 8) : NmOk (slice tx i (scan qN tx i)) := by
  have hb := scan_le (q := qN) hi
  refine ⟨by rw [slice_len hb.2]; exact h8, fun c hc => ?_⟩
  have h1 := scan_all (q := qN) (tx := tx) (tx.length - i) i (by omega) c hc
  have h2 := ht.2 c (slice_mem hc)
  rcases qN_rng c h2 h1 with h | h <;> omega
theorem tx_slice {tx : List Nat} (ht : TxOk tx) {i : Nat} (hi : i ≤ tx.length) (h8 : scan qT tx i - i ≤ 8) : NmOk (slice tx i (scan qT tx i)) := by
  have hb := scan_le (q := qT) hi
  refine ⟨by rw [slice_len hb.2]; exact h8, fun c hc => ?_⟩
  have h1 := scan_all (q := qT) (tx := tx) (tx.length - i) i (by omega) c hc
  have h2 := ht.2 c (slice_mem hc)
  rcases qT_rng c h2 h1 with h | h | h <;> omega
theorem wordL_ok : ∀ w ∈ wordL, NmOk w := by
  have : ∀ w ∈ wordL, w.length ≤ 8 ∧ ∀ c ∈ w, 0 < c ∧ c < 128 := by decide +kernel
  exact this
theorem nm_inj8 {a b : List Nat} (ha : NmOk a) (hb : NmOk b) : lN (pkB 256 a) = lN (pkB 256 b) ↔ a = b := by
  have lt : ∀ a, NmOk a → pkB 256 a < 2 ^ 64 := by
    intro a ha
    have h1 := pkB_lt (B := 256) a (fun c hc => by have := ha.2 c hc; omega)
    have h2 : 256 ^ a.length ≤ 256 ^ 8 := Nat.pow_le_pow_right (by decide) ha.1
    have h3 : (256 : Nat) ^ 8 = 2 ^ 64 := by decide
    omega
  constructor
  · intro h
    have := congrArg (fun x => x.toBitVec.toNat) h
    simp only [wb_tn (lt a ha), wb_tn (lt b hb)] at this
    exact pkB_inj a b (fun c hc => by have := ha.2 c hc; omega) (fun c hc => by have := hb.2 c hc; omega) this
  · intro h; rw [h]
theorem nm_inj7 {a b : List Nat} (ha : NmOk a) (hb : NmOk b) : lN (pkB 128 a) = lN (pkB 128 b) ↔ a = b := by
  have lt : ∀ a, NmOk a → pkB 128 a < 2 ^ 64 := by
    intro a ha
    have h1 := pkB_lt (B := 128) a (fun c hc => (ha.2 c hc).2)
    have h2 : 128 ^ a.length ≤ 128 ^ 8 := Nat.pow_le_pow_right (by decide) ha.1
    have h3 : (128 : Nat) ^ 8 < 2 ^ 64 := by decide
    omega
  constructor
  · intro h
    have := congrArg (fun x => x.toBitVec.toNat) h
    simp only [wb_tn (lt a ha), wb_tn (lt b hb)] at this
    exact pkB_inj a b ha.2 hb.2 this
  · intro h; rw [h]
theorem beq_of_iff {x y : Int64} {p : Prop} [Decidable p] (h : x = y ↔ p) : (x == y) = decide p := by
  by_cases hp : p
  · rw [decide_eq_true hp]; exact beq_iff_eq.mpr (h.mpr hp)
  · rw [decide_eq_false hp]; exact beq_eq_false_iff_ne.mpr (fun q => hp (h.mp q))
/-- seeking in a row of packed names is seeking among the names -/
theorem srch_idx {f : Nat → Bool} {cs : List Nat} : ∀ (ns : List (List Nat)) (i : Nat), (∀ j, j < ns.length → f (i + j) = decide (ns.getD j [] = cs)) → srch f ns.length i = if cs ∈ ns then nI (i + ns.idxOf cs) else -1
  | [], i, h => by simp [srch]
  | x :: r, i, h => by
    have h0 := h 0 (by simp)
    simp only [Nat.add_zero, List.getD_cons_zero] at h0
    simp only [List.length_cons, srch, h0, decide_eq_true_eq]
    by_cases hx : x = cs
    · subst hx
      simp
    · have ih := srch_idx (f := f) (cs := cs) r (i + 1) (fun j hj => by
        have := h (j + 1) (by simp; omega)
        rw [show i + 1 + j = i + (j + 1) by omega, this]
        simp)
      rw [if_neg hx, ih]
      have hx2 : ¬ cs = x := fun q => hx q.symm
      simp only [List.mem_cons, hx2, false_or]
      by_cases hm : cs ∈ r
      · rw [if_pos hm, if_pos hm, List.idxOf_cons]
        have : (x == cs) = false := by simp [hx]
        rw [this]
        simp only [cond_false]
        congr 1
        omega
      · rw [if_neg hm, if_neg hm]
/-- the words, as the class has them -/
def WdC (L : Nat → Nat → Int64) : Prop := ∀ j, j < 15 → L 7 j = lN (pkB 256 (wordL.getD j []))
def WdM (L : Nat → Nat → Int64) : Prop := ∀ j, j < 15 → L 31 j = lN (pkB 128 (wordL.getD j []))
theorem wordL_len : wordL.length = 15 := by decide +kernel
theorem wordL_get {j : Nat} (h : j < 15) : NmOk (wordL.getD j []) := by
  apply wordL_ok
  rw [List.getD_eq_getElem?_getD, List.getElem?_eq_getElem (by rw [wordL_len]; exact h)]
  exact List.getElem_mem _
theorem word_srch8 {L : Nat → Nat → Int64} (hw : WdC L) {cs : List Nat} (hcs : NmOk cs) : srch (fun j => L 7 j == lN (pkB 256 cs)) 15 0 = if cs ∈ wordL then nI (wordIx cs) else -1 := by
  have := srch_idx (f := fun j => L 7 j == lN (pkB 256 cs)) (cs := cs) wordL 0 (fun j hj => by
    rw [wordL_len] at hj
    simp only [Nat.zero_add, hw j hj]
    exact beq_of_iff (nm_inj8 (wordL_get hj) hcs))
  rw [wordL_len, Nat.zero_add] at this
  exact this
theorem wordIx_in {cs : List Nat} (h : cs ∈ wordL) : wordIx cs < 15 := by
  have := List.idxOf_lt_length_iff.mpr h
  rw [wordL_len] at this
  exact this
theorem wordIx_out {cs : List Nat} (h : ¬ cs ∈ wordL) : wordIx cs = 15 := by
  have := List.idxOf_eq_length h
  rw [wordL_len] at this
  exact this
theorem nI_nm1 {j : Nat} (h : j < 2 ^ 31) : ¬ nI j = -1 := fun q => by
  have := congrArg Int32.toInt q
  rw [nI_toInt h] at this
  have h1 : (-1 : Int32).toInt = -1 := rfl
  omega
theorem c_nameKind' {XL : Nat} {XS : Nat → Int32} {n : Nat} {C : mC} {I : Nat → Nat → Int32} {L : Nat → Nat → Int64} {K : mK} {cs : List Nat} (hC : m_Ge XL XS (n + 1) C) (hw : WdC L) (hcs : NmOk cs) (hK : K (some (.int (nI (wordIx cs + 1)))) (m_SH, I, L)) : C 67 [.ref 3, .long (lN (pkB 256 cs))] (m_SH, I, L) K := by
  refine c_nameKind hC ?_
  rw [word_srch8 hw hcs]
  by_cases h : cs ∈ wordL
  · have h1 := wordIx_in h
    rw [if_pos h, if_neg (nI_nm1 (by omega)), show (1 : Int32) = nI 1 from rfl, nI_add, Nat.add_comm]
    exact hK
  · rw [if_neg h, if_pos rfl]
    rw [wordIx_out h] at hK
    exact hK
