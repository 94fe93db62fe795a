/-! ===== what is SET, bit by bit ===== -/
theorem nI_and (a b : Nat) : nI a &&& nI b = nI (a &&& b) := by
  apply Int32.toBitVec_inj.mp
  rw [Int32.toBitVec_and]
  show BitVec.ofNat 32 a &&& BitVec.ofNat 32 b = BitVec.ofNat 32 (a &&& b)
  apply BitVec.eq_of_toNat_eq
  rw [BitVec.toNat_and, BitVec.toNat_ofNat, BitVec.toNat_ofNat, BitVec.toNat_ofNat, Nat.and_mod_two_pow]
theorem nI_or (a b : Nat) : nI a ||| nI b = nI (a ||| b) := by
  apply Int32.toBitVec_inj.mp
  rw [Int32.toBitVec_or]
  show BitVec.ofNat 32 a ||| BitVec.ofNat 32 b = BitVec.ofNat 32 (a ||| b)
  apply BitVec.eq_of_toNat_eq
  rw [BitVec.toNat_or, BitVec.toNat_ofNat, BitVec.toNat_ofNat, BitVec.toNat_ofNat, Nat.or_mod_two_pow]
theorem i_and_m1 (x : Int32) : x &&& -1 = x := by
  apply Int32.toBitVec_inj.mp
  rw [Int32.toBitVec_and]
  show x.toBitVec &&& BitVec.allOnes 32 = x.toBitVec
  exact BitVec.and_allOnes
theorem i_and_comm (x y : Int32) : x &&& y = y &&& x := by
  apply Int32.toBitVec_inj.mp
  rw [Int32.toBitVec_and, Int32.toBitVec_and]
  exact BitVec.and_comm _ _
theorem i_m1_and (x : Int32) : -1 &&& x = x := by rw [i_and_comm, i_and_m1]
theorem bitsB.ne {c : Nat} {x : Int32} (hc : c ≤ 20) (h : bitsB c x) : ¬ x = -1 := by
  obtain ⟨b, hb, e⟩ := h
  have : 2 ^ c ≤ 2 ^ 20 := Nat.pow_le_pow_right (by decide) hc
  rw [e]
  exact nI_nm1 (by omega)
theorem bitsB.and {c : Nat} {x y : Int32} (hx : x = -1 ∨ bitsB c x) (hy : bitsB c y) : bitsB c (x &&& y) := by
  rcases hx with h | ⟨a, ha, e⟩
  · rw [h, i_m1_and]; exact hy
  · obtain ⟨b, hb, e2⟩ := hy
    rw [e, e2, nI_and]
    exact ⟨a &&& b, Nat.lt_of_le_of_lt Nat.and_le_left ha, rfl⟩
theorem sh_nI {k : Nat} (hk : k < 32) : (1 : Int32) <<< (nI k &&& 31) = nI (2 ^ k) := by
  have : ∀ k : Fin 32, (1 : Int32) <<< (nI k.val &&& 31) = nI (2 ^ k.val) := by decide +kernel
  exact this ⟨k, hk⟩
theorem sh1_nI {k : Nat} (hk : k < 32) : (1 : Int32) <<< (nI k &&& 31) - 1 = nI (2 ^ k - 1) := by
  have : ∀ k : Fin 32, (1 : Int32) <<< (nI k.val &&& 31) - 1 = nI (2 ^ k.val - 1) := by decide +kernel
  exact this ⟨k, hk⟩
theorem shx_nI {k : Nat} (hk : k < 32) : ((1 : Int32) <<< (nI k &&& 31)) ^^^ -1 = nI (2 ^ 32 - 1 - 2 ^ k) := by
  have : ∀ k : Fin 32, ((1 : Int32) <<< (nI k.val &&& 31)) ^^^ -1 = nI (2 ^ 32 - 1 - 2 ^ k.val) := by decide +kernel
  exact this ⟨k, hk⟩
theorem bitsB.mask {c k : Nat} {x : Int32} (hk : k < 32) (h : bitsB c x) : bitsB k (x &&& ((1 : Int32) <<< (nI k &&& 31) - 1)) := by
  obtain ⟨b, hb, e⟩ := h
  rw [sh1_nI hk, e, nI_and, Nat.and_two_pow_sub_one_eq_mod]
  exact ⟨b % 2 ^ k, Nat.mod_lt _ (Nat.two_pow_pos k), rfl⟩
theorem bitsB.mask_id {k : Nat} {x : Int32} (hk : k < 32) (h : bitsB k x) : x &&& ((1 : Int32) <<< (nI k &&& 31) - 1) = x := by
  obtain ⟨b, hb, e⟩ := h
  rw [sh1_nI hk, e, nI_and, Nat.and_two_pow_sub_one_eq_mod, Nat.mod_eq_of_lt hb]
theorem bitsB.clr {k : Nat} {x : Int32} (hk : k < 32) (h : bitsB k x) : x &&& (((1 : Int32) <<< (nI k &&& 31)) ^^^ -1) = x := by
  obtain ⟨b, hb, e⟩ := h
  rw [shx_nI hk, e, nI_and]
  congr 1
  apply Nat.eq_of_testBit_eq
  intro i
  rw [Nat.testBit_and]
  by_cases hi : i < k
  · have h1 : (2 ^ 32 - 1 - 2 ^ k).testBit i = true := by
      have : ∀ k : Fin 32, ∀ i : Fin 32, i.val < k.val → (2 ^ 32 - 1 - 2 ^ k.val).testBit i.val = true := by decide +kernel
      exact this ⟨k, hk⟩ ⟨i, by omega⟩ hi
    rw [h1, Bool.and_true]
  · have h1 : b.testBit i = false := Nat.testBit_lt_two_pow (Nat.lt_of_lt_of_le hb (Nat.pow_le_pow_right (by decide) (by omega)))
    rw [h1, Bool.false_and]
theorem bitsB.ins {c k : Nat} {x : Int32} (hk : k < c) (hc : c < 32) (h : bitsB c x) : bitsB c (x ||| (1 <<< (nI k &&& 31))) := by
  obtain ⟨b, hb, e⟩ := h
  rw [sh_nI (by omega), e, nI_or]
  exact ⟨b ||| 2 ^ k, Nat.or_lt_two_pow hb (Nat.pow_lt_pow_right (by decide) hk), rfl⟩
def bt (x : Int32) (i : Nat) : Bool := x.toBitVec.getLsbD i
theorem b_ext {x y : Int32} (h : ∀ i, i < 32 → bt x i = bt y i) : x = y := Int32.toBitVec_inj.mp (BitVec.eq_of_getLsbD_eq (fun i hi => h i hi))
theorem b_or (x y : Int32) (i : Nat) : bt (x ||| y) i = (bt x i || bt y i) := by unfold bt; rw [Int32.toBitVec_or, BitVec.getLsbD_or]
theorem b_and (x y : Int32) (i : Nat) : bt (x &&& y) i = (bt x i && bt y i) := by unfold bt; rw [Int32.toBitVec_and, BitVec.getLsbD_and]
theorem b_xor (x y : Int32) (i : Nat) : bt (x ^^^ y) i = (bt x i ^^ bt y i) := by unfold bt; rw [Int32.toBitVec_xor, BitVec.getLsbD_xor]
theorem b_big {x : Int32} {i : Nat} (h : 32 ≤ i) : bt x i = false := BitVec.getLsbD_of_ge _ _ h
theorem b_255 (i : Nat) : bt 255 i = decide (i < 8) := by
  rcases Nat.lt_or_ge i 32 with h | h
  · exact (by decide +kernel : ∀ i, i < 32 → bt 255 i = decide (i < 8)) i h
  · rw [b_big h, decide_eq_false (by omega)]
theorem b_65535 (i : Nat) : bt 65535 i = decide (i < 16) := by
  rcases Nat.lt_or_ge i 32 with h | h
  · exact (by decide +kernel : ∀ i, i < 32 → bt 65535 i = decide (i < 16)) i h
  · rw [b_big h, decide_eq_false (by omega)]
theorem b_m1 : ∀ i, i < 32 → bt (-1) i = true := by decide +kernel
theorem b_0 (i : Nat) : bt 0 i = false := BitVec.getLsbD_zero
theorem s_l : ∀ n, n < 32 → ((nI n &&& 31).toBitVec.smod 32).toNat = n := by decide +kernel
theorem s_u : ∀ n, n < 32 → (((nI n).toUInt32 &&& Int32.toUInt32 31).toBitVec % 32).toNat = n := by decide +kernel
theorem b_shl (n : Nat) (hn : n < 32) (x : Int32) {i : Nat} (hi : i < 32) : bt (x <<< (nI n &&& 31)) i = (decide (n ≤ i) && bt x (i - n)) := by
  unfold bt
  rw [Int32.toBitVec_shiftLeft]
  show (x.toBitVec <<< ((nI n &&& 31).toBitVec.smod 32).toNat).getLsbD i = _
  rw [s_l n hn, BitVec.getLsbD_shiftLeft]
  rcases Nat.lt_or_ge i n with h | h
  · simp [h, Nat.not_le.mpr h]
  · simp [hi, h, Nat.not_lt.mpr h]
theorem b_ushr (n : Nat) (hn : n < 32) (x : Int32) (i : Nat) : bt ((x.toUInt32 >>> ((nI n).toUInt32 &&& Int32.toUInt32 31)).toInt32) i = bt x (n + i) := by
  show (x.toUInt32 >>> ((nI n).toUInt32 &&& Int32.toUInt32 31)).toBitVec.getLsbD i = x.toUInt32.toBitVec.getLsbD (n + i)
  rw [UInt32.toBitVec_shiftRight]
  show (x.toUInt32.toBitVec >>> (((nI n).toUInt32 &&& Int32.toUInt32 31).toBitVec % 32).toNat).getLsbD i = _
  rw [s_u n hn, BitVec.getLsbD_ushiftRight]
theorem b_sshr (n : Nat) (hn : n < 32) (x : Int32) {i : Nat} (hi : i < 32) : bt (x >>> (nI n &&& 31)) i = if n + i < 32 then bt x (n + i) else bt x 31 := by
  unfold bt
  rw [Int32.toBitVec_shiftRight]
  show (x.toBitVec.sshiftRight ((nI n &&& 31).toBitVec.smod 32).toNat).getLsbD i = _
  rw [s_l n hn, BitVec.getLsbD_sshiftRight, BitVec.msb_eq_getLsbD_last]
  simp [hi]
theorem bt_1 (i : Nat) (hi : i < 32) : bt 1 i = decide (i = 0) := by
  have : ∀ i : Fin 32, bt 1 i.val = decide (i.val = 0) := by decide +kernel
  exact this ⟨i, hi⟩
theorem and1_0 (y : Int32) : y &&& 1 = 0 ↔ bt y 0 = false := by
  constructor
  · intro h
    have := congrArg (fun z => bt z 0) h
    simp only [b_and, b_0, bt_1 0 (by decide)] at this
    simpa using this
  · intro h
    apply b_ext
    intro i hi
    rw [b_and, b_0, bt_1 i hi]
    by_cases g : i = 0
    · subst g; rw [h]; rfl
    · simp [g]
theorem and1_1 (y : Int32) : y &&& 1 = 1 ↔ bt y 0 = true := by
  constructor
  · intro h
    have := congrArg (fun z => bt z 0) h
    simp only [b_and, bt_1 0 (by decide)] at this
    simpa using this
  · intro h
    apply b_ext
    intro i hi
    rw [b_and, bt_1 i hi]
    by_cases g : i = 0
    · subst g; rw [h]; rfl
    · simp [g]
/-- the reference's test of a bit is the class's -/
theorem bit_same {k : Nat} {x : Int32} (hk : k < 20) : (x >>> (nI k &&& 31) &&& 1 = 0) ↔ ¬ jbit (nI k) x := by
  have hn : ¬ nI k < 0 := nI_pos (by omega)
  have key : (x >>> (nI k &&& 31) &&& 1 = 0) ↔ ¬ ((x.toUInt32 >>> ((nI k).toUInt32 &&& Int32.toUInt32 31)).toInt32 &&& 1 = 1) := by
    rw [and1_0, and1_1, b_ushr k (by omega), b_sshr k (by omega) x (by decide), if_pos (by omega)]
    simp
  unfold jbit
  constructor
  · intro z y; exact key.mp z y.2
  · intro z; exact key.mpr (fun y => z ⟨hn, y⟩)
