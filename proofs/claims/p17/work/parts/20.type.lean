/-! ===== type ===== -/
theorem bp_b (x : Int32) : x.toInt8.toInt32 &&& 255 = x &&& 255 := by
  apply Int32.toBitVec_inj.mp
  rw [Int32.toBitVec_and, Int32.toBitVec_and, Int8.toBitVec_toInt32, Int32.toBitVec_toInt8]
  apply BitVec.eq_of_getLsbD_eq
  intro i hi
  rw [BitVec.getLsbD_and, BitVec.getLsbD_and]
  have hm : ∀ i < 32, 8 ≤ i → (255 : Int32).toBitVec.getLsbD i = false := by decide
  rcases Nat.lt_or_ge i 8 with z | z
  · rw [BitVec.getLsbD_signExtend, BitVec.getLsbD_signExtend, if_pos z, if_pos hi]
    simp only [z, hi, decide_true, Bool.true_and]
  · rw [hm i hi z]; simp
/-! ===== the char cast and 65535 ===== -/
theorem wb_tb (n : Nat) : (lN n).toBitVec = BitVec.ofNat 64 n := rfl
theorem wb_inj {a b : Int64} (h : a.toBitVec = b.toBitVec) : a = b := Int64.toBitVec_inj.mp h
theorem wb_tn {n : Nat} (h : n < 2 ^ 64) : (lN n).toBitVec.toNat = n := by rw [wb_tb, BitVec.toNat_ofNat, Nat.mod_eq_of_lt h]
theorem wb_of (x : Int64) : ∃ n, n < 2 ^ 64 ∧ x = lN n := ⟨x.toBitVec.toNat, x.toBitVec.isLt, wb_inj (by rw [wb_tb]; simp)⟩
theorem wb_of32 (x : Int32) : ∃ n, n < 2 ^ 32 ∧ x = nI n := ⟨x.toBitVec.toNat, x.toBitVec.isLt, Int32.toBitVec_inj.mp (by show _ = BitVec.ofNat 32 _; simp)⟩
theorem wb_c : ∀ k, k < 64 → ((nI k).toInt64 &&& 63) = lN k := by decide +kernel
theorem wb_cu : ∀ k, k < 64 → ((nI k).toInt64.toUInt64 &&& Int64.toUInt64 63) = UInt64.ofNat k := by decide +kernel
theorem wb_sm : ∀ k, k < 64 → (BitVec.ofNat 64 k).smod 64 = BitVec.ofNat 64 k := by decide +kernel
theorem wb_pw {a b : Nat} (h : a ≤ b) : 2 ^ b = 2 ^ a * 2 ^ (b - a) := by rw [← Nat.pow_add]; congr 1; omega
theorem wb_lt2 {a b : Nat} (h : a < b) : 2 ^ a < 2 ^ b := Nat.pow_lt_pow_right (by decide) h
theorem wb_mod (n : Nat) : lN n = lN (n % 2 ^ 64) := wb_inj (by rw [wb_tb, wb_tb]; apply BitVec.eq_of_toNat_eq; rw [BitVec.toNat_ofNat, BitVec.toNat_ofNat, Nat.mod_mod])
theorem wb_shr {n k : Nat} (hn : n < 2 ^ 64) (hk : k < 64) : ((lN n).toUInt64 >>> ((nI k).toInt64.toUInt64 &&& Int64.toUInt64 63)).toInt64 = lN (n / 2 ^ k) := by
  rw [wb_cu k hk]
  apply wb_inj
  apply BitVec.eq_of_toNat_eq
  show ((lN n).toUInt64 >>> UInt64.ofNat k).toNat = (BitVec.ofNat 64 _).toNat
  have h1 : (UInt64.ofNat k).toNat = k := by
    show (BitVec.ofNat 64 k).toNat = k
    rw [BitVec.toNat_ofNat, Nat.mod_eq_of_lt (by omega)]
  have h2 : (lN n).toUInt64.toNat = n := wb_tn hn
  rw [UInt64.toNat_shiftRight, h1, h2, Nat.mod_eq_of_lt hk, Nat.shiftRight_eq_div_pow, BitVec.toNat_ofNat, Nat.mod_eq_of_lt (Nat.lt_of_le_of_lt (Nat.div_le_self _ _) hn)]
theorem wb_shl (n : Nat) {k : Nat} (hk : k < 64) : lN n <<< ((nI k).toInt64 &&& 63) = lN (n * 2 ^ k) := by
  rw [wb_c k hk]
  apply wb_inj
  rw [Int64.toBitVec_shiftLeft, wb_tb, wb_tb, wb_tb, wb_sm k hk]
  apply BitVec.eq_of_toNat_eq
  rw [BitVec.shiftLeft_eq', BitVec.toNat_shiftLeft, BitVec.toNat_ofNat, BitVec.toNat_ofNat, BitVec.toNat_ofNat, Nat.mod_eq_of_lt (show k < 2 ^ 64 by omega), Nat.shiftLeft_eq, Nat.mul_mod, Nat.mod_mod, ← Nat.mul_mod]
theorem wb_and {a b : Nat} (ha : a < 2 ^ 64) (hb : b < 2 ^ 64) : lN a &&& lN b = lN (a &&& b) := by
  apply wb_inj
  rw [Int64.toBitVec_and, wb_tb, wb_tb, wb_tb]
  apply BitVec.eq_of_toNat_eq
  rw [BitVec.toNat_and, BitVec.toNat_ofNat, BitVec.toNat_ofNat, BitVec.toNat_ofNat, Nat.mod_eq_of_lt ha, Nat.mod_eq_of_lt hb, Nat.mod_eq_of_lt (Nat.and_lt_two_pow _ hb)]
theorem wb_or {a b : Nat} (ha : a < 2 ^ 64) (hb : b < 2 ^ 64) : lN a ||| lN b = lN (a ||| b) := by
  apply wb_inj
  rw [Int64.toBitVec_or, wb_tb, wb_tb, wb_tb]
  apply BitVec.eq_of_toNat_eq
  rw [BitVec.toNat_or, BitVec.toNat_ofNat, BitVec.toNat_ofNat, BitVec.toNat_ofNat, Nat.mod_eq_of_lt ha, Nat.mod_eq_of_lt hb, Nat.mod_eq_of_lt (Nat.or_lt_two_pow ha hb)]
theorem wb_mask {n k : Nat} (hn : n < 2 ^ 64) (hk : k < 64) : lN n &&& lN (2 ^ k - 1) = lN (n % 2 ^ k) := by
  rw [wb_and hn (by have := wb_lt2 hk; omega), Nat.and_two_pow_sub_one_eq_mod]
theorem wb_a1 {n : Nat} (hn : n < 2 ^ 64) : lN n &&& 1 = lN (n % 2) := wb_mask (k := 1) hn (by decide)
theorem wb_bit {n k : Nat} (hn : n < 2 ^ 64) (hk : k < 64) : ((lN n).toUInt64 >>> ((nI k).toInt64.toUInt64 &&& Int64.toUInt64 63)).toInt64 &&& 1 = lN (n / 2 ^ k % 2) := by
  rw [wb_shr hn hk, wb_a1 (Nat.lt_of_le_of_lt (Nat.div_le_self _ _) hn)]
theorem wb_xor {q k : Nat} (hk : k < 63) (h : 2 ^ k ≤ q) (h2 : q < 2 ^ (k + 1)) : lN q ^^^ lN (2 ^ k) = lN (q - 2 ^ k) := by
  obtain ⟨r, rfl⟩ : ∃ r, q = 2 ^ k + r := ⟨q - 2 ^ k, by omega⟩
  have hr : r < 2 ^ k := by rw [Nat.pow_succ] at h2; omega
  have hx : (2 ^ k + r) ^^^ 2 ^ k = r := by
    apply Nat.eq_of_testBit_eq
    intro i
    rw [Nat.testBit_xor, Nat.testBit_two_pow]
    rcases Nat.lt_trichotomy i k with h | h | h
    · rw [Nat.testBit_two_pow_add_gt h]
      simp [show ¬ k = i by omega]
    · subst h
      rw [Nat.testBit_two_pow_add_eq]
      simp
    · have a1 : 2 ^ (k + 1) ≤ 2 ^ i := Nat.pow_le_pow_right (by decide) h
      rw [Nat.testBit_lt_two_pow (show 2 ^ k + r < 2 ^ i by omega), Nat.testBit_lt_two_pow (show r < 2 ^ i by omega)]
      simp [show ¬ k = i by omega]
  have b1 := wb_lt2 (show k + 1 < 64 by omega)
  have b2 := wb_lt2 (show k < 64 by omega)
  apply wb_inj
  rw [Int64.toBitVec_xor, wb_tb, wb_tb, wb_tb]
  apply BitVec.eq_of_toNat_eq
  rw [BitVec.toNat_xor, BitVec.toNat_ofNat, BitVec.toNat_ofNat, BitVec.toNat_ofNat, Nat.mod_eq_of_lt (by omega : 2 ^ k + r < 2 ^ 64), Nat.mod_eq_of_lt b2, hx, Nat.add_sub_cancel_left, Nat.mod_eq_of_lt (by omega)]
/-! ===== lN: masks, 'or' of parts that don't overlap is a sum ===== -/
/-- which places may have changed -/
def Fr {α : Type} (S : Nat → Nat → Bool) (I I' : Nat → Nat → α) : Prop := ∀ p q, S p q = false → I' p q = I p q
theorem Fr.rf {α : Type} {S : Nat → Nat → Bool} {I : Nat → Nat → α} : Fr S I I := fun _ _ _ => rfl
theorem Fr.tr {α : Type} {S : Nat → Nat → Bool} {I I' I'' : Nat → Nat → α} (h : Fr S I I') (h2 : Fr S I' I'') : Fr S I I'' := fun p q hs => (h2 p q hs).trans (h p q hs)
theorem Fr.mono {α : Type} {S T : Nat → Nat → Bool} {I I' : Nat → Nat → α} (h : Fr S I I') (hs : ∀ p q, T p q = false → S p q = false) : Fr T I I' := fun p q ht => h p q (hs p q ht)
theorem Fr.up {S : Nat → Nat → Bool} {I I' : Nat → Nat → Int32} {k j : Nat} {x : Int32} (h : Fr S I I') (hs : S k j = true) : Fr S I (m_up I' k j x) := by
  intro p q hf
  rw [m_upr]
  by_cases h1 : p = k
  · by_cases h2 : q = j
    · subst h1; subst h2; rw [hs] at hf; cases hf
    · rw [if_pos h1, if_neg h2]; exact h p q hf
  · rw [if_neg h1]; exact h p q hf
theorem Fr.upL {S : Nat → Nat → Bool} {L L' : Nat → Nat → Int64} {k j : Nat} {x : Int64} (h : Fr S L L') (hs : S k j = true) : Fr S L (m_upL L' k j x) := by
  intro p q hf
  rw [m_uprL]
  by_cases h1 : p = k
  · by_cases h2 : q = j
    · subst h1; subst h2; rw [hs] at hf; cases hf
    · rw [if_pos h1, if_neg h2]; exact h p q hf
  · rw [if_neg h1]; exact h p q hf
/-- octet i of v -/
def ov (v : Int64) (i : Nat) : Nat := ((v.toUInt64 >>> ((8 * nI i).toInt64.toUInt64 &&& Int64.toUInt64 63)).toInt64).toBitVec.toNat % 256
def octs (v : Int64) : Nat → List Nat
  | 0 => []
  | n + 1 => ov v n :: octs v n
theorem ov_lt (v : Int64) (i : Nat) : ov v i < 256 := Nat.mod_lt _ (by decide)
theorem octs_len (v : Int64) : ∀ n, (octs v n).length = n
  | 0 => rfl
  | n + 1 => by simp [octs, octs_len v n]
theorem octs_lt (v : Int64) : ∀ n, ∀ c ∈ octs v n, c < 256
  | 0, c, h => by simp [octs] at h
  | n + 1, c, h => by
    rcases List.mem_cons.mp h with h | h
    · rw [h]; exact ov_lt v n
    · exact octs_lt v n c h
theorem ov_char (x : Int64) : vp_nar .char ((((x &&& 255).toInt32).toUInt32 % 65536).toInt32) = nI (x.toBitVec.toNat % 256) := by
  rw [pk_vc]
  obtain ⟨m, hm, rfl⟩ := wb_of x
  rw [show (255 : Int64) = lN (2 ^ 8 - 1) from rfl, wb_mask hm (by decide), lN_i, wb_tn hm, pk_char]
  have h1 : m % 2 ^ 8 < 256 := Nat.mod_lt _ (by decide)
  rw [pk_tn (by omega)]
  congr 1
  omega
theorem ov_byte (x : Int64) : vp_nar .byte (x.toInt32.toInt8.toInt32) &&& 255 = nI (x.toBitVec.toNat % 256) := by
  rw [pk_vb, bp_b]
  obtain ⟨m, hm, rfl⟩ := wb_of x
  rw [lN_i, wb_tn hm, pk_and (nI m) (m := 255) 8 rfl]
  congr 1
  have : (nI m).toBitVec.toNat = m % 2 ^ 32 := by
    show (BitVec.ofNat 32 m).toNat = _
    rw [BitVec.toNat_ofNat]
  rw [this]
  omega
theorem getD_app_lt {l : List Nat} {o j : Nat} (h : j < l.length) : (l ++ [o]).getD j 0 = l.getD j 0 := by
  simp [List.getD_eq_getElem?_getD, List.getElem?_append_left h]
theorem getD_app_eq {l : List Nat} {o : Nat} : (l ++ [o]).getD l.length 0 = o := by
  simp [List.getD_eq_getElem?_getD]
theorem TxC_push {tx : List Nat} {I : Nat → Nat → Int32} {o : Nat} (h : TxC tx I) (hl : tx.length < 3000) : TxC (tx ++ [o]) (m_up (m_up I 2 tx.length (nI o)) 1 1 (nI (tx.length + 1))) := by
  refine ⟨by simp [m_upr], fun j hj => ?_⟩
  simp only [List.length_append, List.length_cons, List.length_nil] at hj
  by_cases hjl : j = tx.length
  · subst hjl
    rw [getD_app_eq]
    simp [m_upr]
  · rw [getD_app_lt (by omega), ← h.2 j (by omega)]
    simp [m_upr, hjl]
theorem TxM_push {tx : List Nat} {I : Nat → Nat → Int32} {o : Nat} {x : Int32} (h : TxM tx I) (hx : x &&& 255 = nI o) (hl : tx.length < 3000) : TxM (tx ++ [o]) (m_up (m_up I 32 tx.length x) 30 2 (nI (tx.length + 1))) := by
  refine ⟨by simp [m_upr], fun j hj => ?_⟩
  simp only [List.length_append, List.length_cons, List.length_nil] at hj
  by_cases hjl : j = tx.length
  · subst hjl
    rw [getD_app_eq, ← hx]
    simp [m_upr]
  · rw [getD_app_lt (by omega), ← h.2 j (by omega)]
    simp [m_upr, hjl]
def S_tx : Nat → Nat → Bool := fun p q => p == 2 || (p == 1 && q == 1)
def S_mt : Nat → Nat → Bool := fun p q => p == 32 || (p == 30 && q == 2)
set_option maxHeartbeats 1000000 in
theorem c_append {XL : Nat} {XS : Nat → Int32} {n : Nat} {C : mC} {I : Nat → Nat → Int32} {L : Nat → Nat → Int64} {K : mK} {tx : List Nat} {v : Int64} {k : Nat} (hC : m_Ge XL XS (n + 1) C) (h : TxC tx I) (hk8 : k ≤ 8) (hl : tx.length + k ≤ 3000) (hK : ∀ I', TxC (tx ++ octs v k) I' → Fr S_tx I I' → K (some (.int 1)) (m_SH, I', L)) : C 39 [.ref 1, .long v, .int (nI k)] (m_SH, I, L) K := by
  refine e_X2_append hC (Nat.le_of_ble_eq_true rfl) ?_
  intro C' hC' P hP
  have loop : ∀ (m : Nat) (t : List Nat) (J : Nat → Nat → Int32), TxC t J → t.length + m ≤ 3000 → Fr S_tx I J → (∀ I', TxC (t ++ octs v m) I' → Fr S_tx I I' → K (some (.int 1)) (m_SH, I', L)) → P (21, [some (.ref 1), some (.long v), none, some (.int (nI k)), some (.int (nI m - 1))], [], (m_SH, J, L), 0, 0) := by
    intro m
    induction m with
    | zero =>
      intro t J hJ hm hF hk
      repeat (refine hP _ ?_; conv => whnf)
      refine ⟨fun _ => ?_, fun h1 => absurd (show nI 0 - 1 < 0 by decide) h1⟩
      repeat (refine hP _ ?_; conv => whnf)
      refine ⟨rfl, ?_⟩
      exact hk J (by simpa [octs] using hJ) hF
    | succ m ih =>
      intro t J hJ hm hF hk
      rw [nI_pred]
      repeat (refine hP _ ?_; conv => whnf)
      refine ⟨fun h1 => absurd h1 (nI_pos (by omega)), fun _ => ?_⟩
      repeat (refine hP _ ?_; conv => whnf)
      rw [hJ.1]
      refine ⟨vp_in_nI (by omega) (by omega), ?_⟩
      rw [nI_clamp (by omega), ov_char]
      iterate 8 (refine hP _ ?_; conv => whnf)
      have hj2 := TxC_push (o := ov v m) hJ (by omega)
      have e := ih (t ++ [ov v m]) _ hj2 (by simp; omega) ((hF.up (by simp [S_tx])).up (by simp [S_tx])) (fun I' h1 h2 => hk I' (by simpa [octs] using h1) h2)
      have e1 : m_up J 2 t.length (nI (ov v m)) 1 1 + 1 = nI (t.length + 1) := by rw [m_upr, if_neg (by decide), hJ.1, nI_1]
      rw [← e1] at e
      rw [show nI m - 1 = nI m + -1 from by rw [Int32.sub_eq_add_neg]] at e
      exact e
  repeat (refine hP _ ?_; conv => whnf)
  rw [h.1]
  have hle : Int32.ofNat 3000 - nI tx.length = nI (3000 - tx.length) := pk_sub (a := 3000) (b := tx.length) (by omega)
  rw [hle]
  refine ⟨fun h1 => ?_, fun _ => ?_⟩
  · exact absurd h1 (nI_nlt (by omega) (by omega))
  · iterate 4 (refine hP _ ?_; conv => whnf)
    exact loop k tx I h hl Fr.rf hK
