/-! ===== the reference reads a token ===== -/
def S_nx : Nat → Nat → Bool := fun p q => p == 30 && (q == 3 || q == 4 || q == 5 || q == 7)
def S_nxL : Nat → Nat → Bool := fun p q => p == 30 && q == 6
theorem TxM.fr {tx : List Nat} {I J : Nat → Nat → Int32} {S : Nat → Nat → Bool} (h : TxM tx I) (hF : Fr S I J) (h1 : S 30 2 = false) (h2 : ∀ j, S 32 j = false) : TxM tx J := ⟨by rw [hF 30 2 h1]; exact h.1, fun j hj => by rw [hF 32 j (h2 j)]; exact h.2 j hj⟩
theorem WdM.fr {L M : Nat → Nat → Int64} {S : Nat → Nat → Bool} (h : WdM L) (hF : Fr S L M) (h2 : ∀ j, S 31 j = false) : WdM M := fun j hj => by rw [hF 31 j (h2 j)]; exact h j hj
theorem slice_snoc {tx : List Nat} {i j : Nat} (h : i ≤ j) (hj : j < tx.length) : slice tx i (j + 1) = slice tx i j ++ [tx.getD j 0] := by
  unfold slice
  rw [show j + 1 - i = (j - i) + 1 by omega, List.take_add_one]
  congr 1
  rw [List.getElem?_drop, show i + (j - i) = j by omega, List.getElem?_eq_getElem hj, List.getD_eq_getElem?_getD, List.getElem?_eq_getElem hj]
  rfl
theorem pkB_snoc (B : Nat) (l : List Nat) (c : Nat) : pkB B (l ++ [c]) = pkB B l * B + c := by
  unfold pkB
  rw [List.foldl_append]
  rfl
theorem pk7_step {tx : List Nat} {i j : Nat} (hij : i ≤ j) (hj : j < tx.length) (h8 : j - i < 8) (hs : ∀ c ∈ slice tx i (j + 1), c < 128) : (lN (pkB 128 (slice tx i j)) <<< ((7 : Int32).toInt64 &&& 63)) ||| (toc tx j).toInt64 = lN (pkB 128 (slice tx i (j + 1))) := by
  rw [slice_snoc hij hj] at hs ⊢
  rw [pkB_snoc]
  have hc : tx.getD j 0 < 128 := hs _ (by simp)
  have h1 := pkB_lt (B := 128) (slice tx i j) (fun c hc => hs c (by simp [hc]))
  rw [slice_len (by omega)] at h1
  have h2 : 128 ^ (j - i) ≤ 128 ^ 7 := Nat.pow_le_pow_right (by decide) (by omega)
  have h3 : (128 : Nat) ^ 7 = 562949953421312 := by decide
  generalize pkB 128 (slice tx i j) = a at h1 ⊢
  have ha : a < 562949953421312 := by omega
  have s1 : lN a <<< ((7 : Int32).toInt64 &&& 63) = lN (a * 128) := wb_shl a (k := 7) (by decide)
  rw [toc_lt hj, nI_l (by omega), s1, wb_or (by omega) (by omega)]
  congr 1
  rw [Nat.mul_comm a 128]
  exact (Nat.two_pow_add_eq_or_of_lt (i := 7) hc a).symm
theorem pk8_step {tx : List Nat} {i j : Nat} (hij : i ≤ j) (hj : j < tx.length) (h8 : j - i < 8) (hs : ∀ c ∈ slice tx i (j + 1), c < 128) : (lN (pkB 256 (slice tx i j)) <<< ((8 : Int32).toInt64 &&& 63)) ||| (toc tx j).toInt64 = lN (pkB 256 (slice tx i (j + 1))) := by
  rw [slice_snoc hij hj] at hs ⊢
  rw [pkB_snoc]
  have hc : tx.getD j 0 < 128 := hs _ (by simp)
  have h1 := pkB_lt (B := 256) (slice tx i j) (fun c hc => by have := hs c (by simp [hc]); omega)
  rw [slice_len (by omega)] at h1
  have h2 : 256 ^ (j - i) ≤ 256 ^ 7 := Nat.pow_le_pow_right (by decide) (by omega)
  have h3 : (256 : Nat) ^ 7 = 72057594037927936 := by decide
  generalize pkB 256 (slice tx i j) = a at h1 ⊢
  have ha : a < 72057594037927936 := by omega
  have s1 : lN a <<< ((8 : Int32).toInt64 &&& 63) = lN (a * 256) := wb_shl a (k := 8) (by decide)
  rw [toc_lt hj, nI_l (by omega), s1, wb_or (by omega) (by omega)]
  congr 1
  rw [Nat.mul_comm a 256]
  exact (Nat.two_pow_add_eq_or_of_lt (i := 8) (by omega) a).symm
theorem slice_q {q : Int32 → Bool} {tx : List Nat} {i : Nat} (hi : i ≤ tx.length) {j : Nat} (hj : j ≤ scan q tx i) : ∀ c ∈ slice tx i j, q (nI c) = true := by
  intro c hc
  have hb := scan_le (q := q) hi
  refine scan_all (q := q) (tx := tx) (tx.length - i) i (by omega) c ?_
  unfold slice at hc ⊢
  have : (tx.drop i).take (j - i) = ((tx.drop i).take (scan q tx i - i)).take (j - i) := by
    rw [List.take_take, Nat.min_eq_left (by omega)]
  rw [this] at hc
  exact List.mem_of_mem_take hc
/-- at a place within a scan one goes on just as the scan does -/
theorem scan_at {q : Int32 → Bool} {tx : List Nat} {i j : Nat} (hj : j < tx.length) (hs : scan q tx j = scan q tx i) : (q (toc tx j) = true ∧ scan q tx (j + 1) = scan q tx i ∧ j < scan q tx i) ∨ (¬ q (toc tx j) = true ∧ scan q tx i = j) := by
  rw [scan_lt hj] at hs
  by_cases h : q (toc tx j) = true
  · rw [if_pos h] at hs
    have := scan_le (q := q) (tx := tx) (i := j + 1) (by omega)
    exact Or.inl ⟨h, hs, by omega⟩
  · rw [if_neg h] at hs
    exact Or.inr ⟨h, hs.symm⟩
theorem q_end {tx : List Nat} {j : Nat} (hj : tx.length ≤ j) : ¬ qN (toc tx j) = true ∧ ¬ qF (toc tx j) = true ∧ ¬ qT (toc tx j) = true ∧ ¬ qB (toc tx j) = true := by
  rw [toc_ge hj]
  decide
/-- the token that is there, as the reference tells it -/
def MT (t : Tok) (I : Nat → Nat → Int32) (L : Nat → Nat → Int64) : Prop :=
  I 30 5 = nI t.2.1 ∧ (t.1 = 27 → I 30 4 = 0) ∧ (t.1 = 28 → I 30 4 = 6) ∧ (t.1 < 16 → I 30 4 = 5 ∧ I 30 7 = nI (t.1 - 1)) ∧ (t.1 = 16 → I 30 4 = 1 ∧ L 30 6 = lN (pkB 128 t.2.2.1)) ∧ (t.1 = 17 → I 30 4 = 2 ∧ I 30 7 = nI t.2.2.2.1) ∧
  (t.1 = 18 → I 30 4 = 3 ∧ L 30 6 = lN (pkB 256 t.2.2.1) ∧ I 30 7 = nI t.2.2.1.length) ∧
  (t.1 = 19 → I 30 4 = 4 ∧ I 30 7 = 123) ∧ (t.1 = 20 → I 30 4 = 4 ∧ I 30 7 = 125) ∧ (t.1 = 21 → I 30 4 = 4 ∧ I 30 7 = 58) ∧ (t.1 = 22 → I 30 4 = 4 ∧ I 30 7 = 59) ∧ (t.1 = 23 → I 30 4 = 4 ∧ I 30 7 = 44) ∧ (t.1 = 24 → I 30 4 = 4 ∧ I 30 7 = 61) ∧ (t.1 = 25 → I 30 4 = 4 ∧ I 30 7 = 45) ∧ (t.1 = 26 → I 30 4 = 4 ∧ I 30 7 = 62)
theorem word_srch7 {L : Nat → Nat → Int64} (hw : WdM L) {cs : List Nat} (hcs : NmOk cs) : ∀ j, j < 15 → ((L 31 j = lN (pkB 128 cs)) ↔ wordL.getD j [] = cs) := fun j hj => by
  rw [hw j hj]
  exact nm_inj7 (wordL_get hj) hcs
theorem wordIx_le {cs : List Nat} : wordIx cs ≤ 15 := by
  by_cases hm : cs ∈ wordL
  · have := wordIx_in hm; omega
  · rw [wordIx_out hm]; exact Nat.le_refl _
theorem wordIx_at {cs : List Nat} {j : Nat} (hj : j < 15) (h : wordL.getD j [] = cs) (hmin : ∀ k, k < j → ¬ wordL.getD k [] = cs) : wordIx cs = j := by
  have hl : j < wordL.length := by rw [wordL_len]; exact hj
  have hg : wordL.getD j [] = wordL[j] := by rw [List.getD_eq_getElem?_getD, List.getElem?_eq_getElem hl]; rfl
  have hm : cs ∈ wordL := by rw [← h, hg]; exact List.getElem_mem _
  have h1 := wordIx_in hm
  have h2 : wordL.getD (wordIx cs) [] = cs := by
    have hl2 : wordIx cs < wordL.length := by rw [wordL_len]; exact h1
    rw [List.getD_eq_getElem?_getD, List.getElem?_eq_getElem hl2]
    exact List.getElem_idxOf hl2
  have h3 : ¬ wordIx cs < j := fun z => hmin _ z h2
  have hnd : ∀ a b : Fin 15, wordL.getD a.val [] = wordL.getD b.val [] → a = b := by decide +kernel
  have := hnd ⟨wordIx cs, h1⟩ ⟨j, hj⟩ (by rw [h2, h])
  exact congrArg Fin.val this
theorem wordIx_none {cs : List Nat} (h : ∀ k, k < 15 → ¬ wordL.getD k [] = cs) : wordIx cs = 15 := by
  by_cases hm : cs ∈ wordL
  · have h1 := wordIx_in hm
    have hl2 : wordIx cs < wordL.length := by rw [wordL_len]; exact h1
    refine absurd ?_ (h _ h1)
    rw [List.getD_eq_getElem?_getD, List.getElem?_eq_getElem hl2]
    exact List.getElem_idxOf hl2
  · exact wordIx_out hm
