/-! ===== the String methods of the JDK over the constants ===== -/
def chv (i j : Nat) : Int32 := ((((m_sbyt.getD i []).getD j 0) &&& 255).toUInt32 % 65536).toInt32
def pwx (i j : Nat) : Int64 := ((m_strT.getD i "").toList.take j).foldl (fun a ch => (a <<< ((8 : Int32).toInt64 &&& 63)) ||| (Int32.ofNat ch.toNat).toInt64) 0
theorem pw_len : ∀ i, i < 15 → m_slen.getD i 0 < 8 ∧ nI (m_slen.getD i 0) >>> ((0 : Int32) &&& 31) = nI (m_slen.getD i 0) ∧ pwx i 0 = 0 ∧ pwx i (m_slen.getD i 0) = m_pwv i := by
  have h : ∀ i : Fin 15, m_slen.getD i.val 0 < 8 ∧ nI (m_slen.getD i.val 0) >>> ((0 : Int32) &&& 31) = nI (m_slen.getD i.val 0) ∧ pwx i.val 0 = 0 ∧ pwx i.val (m_slen.getD i.val 0) = m_pwv i.val := by decide +kernel
  exact fun i hi => h ⟨i, hi⟩
theorem pw_ch : ∀ i, i < 15 → ∀ j, j < m_slen.getD i 0 → narrow .char (.int (chv i j)) = .int (chv i j) ∧ pwx i (j + 1) = (pwx i j <<< ((8 : Int32).toInt64 &&& 63)) ||| (chv i j).toInt64 := by
  have h1 : ∀ i : Fin 15, ∀ j : Fin 8, j.val < m_slen.getD i.val 0 → ((chv i.val j.val).toUInt32 % 65536).toInt32 = chv i.val j.val := by decide +kernel
  have h2 : ∀ i : Fin 15, ∀ j : Fin 8, j.val < m_slen.getD i.val 0 → pwx i.val (j.val + 1) = (pwx i.val j.val <<< ((8 : Int32).toInt64 &&& 63)) ||| (chv i.val j.val).toInt64 := by decide +kernel
  intro i hi j hj
  have := (pw_len i hi).1
  refine ⟨?_, h2 ⟨i, hi⟩ ⟨j, by omega⟩ hj⟩
  have e := h1 ⟨i, hi⟩ ⟨j, by omega⟩ hj
  simp only [narrow]
  exact congrArg Value.int e
theorem jd_J0_coder_7d493 : yJ0_coder_7d493.cls ≠ "java/lang/invoke/MethodHandle" ∧ yJ0_coder_7d493.cls ≠ "java/lang/invoke/VarHandle" ∧ (parseMethodDescriptor yJ0_coder_7d493.desc).map (fun d => d.parameters.length) = some 0 := by decide +kernel
theorem jd_J0_length_8abf5 : yJ0_length_8abf5.cls ≠ "java/lang/invoke/MethodHandle" ∧ yJ0_length_8abf5.cls ≠ "java/lang/invoke/VarHandle" ∧ (parseMethodDescriptor yJ0_length_8abf5.desc).map (fun d => d.parameters.length) = some 0 := by decide +kernel
theorem jd_J0_isLatin1_aae02 : yJ0_isLatin1_aae02.cls ≠ "java/lang/invoke/MethodHandle" ∧ yJ0_isLatin1_aae02.cls ≠ "java/lang/invoke/VarHandle" ∧ (parseMethodDescriptor yJ0_isLatin1_aae02.desc).map (fun d => d.parameters.length) = some 0 := by decide +kernel
theorem jd_J3_checkIndex_8e157 : yJ3_checkIndex_8e157.cls ≠ "java/lang/invoke/MethodHandle" ∧ yJ3_checkIndex_8e157.cls ≠ "java/lang/invoke/VarHandle" ∧ (parseMethodDescriptor yJ3_checkIndex_8e157.desc).map (fun d => d.parameters.length) = some 3 := by decide +kernel
theorem jd_J0_checkIndex_df160 : yJ0_checkIndex_df160.cls ≠ "java/lang/invoke/MethodHandle" ∧ yJ0_checkIndex_df160.cls ≠ "java/lang/invoke/VarHandle" ∧ (parseMethodDescriptor yJ0_checkIndex_df160.desc).map (fun d => d.parameters.length) = some 2 := by decide +kernel
theorem jd_J1_charAt_3b067 : yJ1_charAt_3b067.cls ≠ "java/lang/invoke/MethodHandle" ∧ yJ1_charAt_3b067.cls ≠ "java/lang/invoke/VarHandle" ∧ (parseMethodDescriptor yJ1_charAt_3b067.desc).map (fun d => d.parameters.length) = some 2 := by decide +kernel
theorem jd_J0_charAt_5068e : yJ0_charAt_5068e.cls ≠ "java/lang/invoke/MethodHandle" ∧ yJ0_charAt_5068e.cls ≠ "java/lang/invoke/VarHandle" ∧ (parseMethodDescriptor yJ0_charAt_5068e.desc).map (fun d => d.parameters.length) = some 1 := by decide +kernel
section JM
variable {l : Launch} {ad : Nat → Nat} {aC : FieldType → ClassId} {dC : Nat → ClassId} {dI : Nat → Nat → Nat} {base XL : Nat} {XS : Nat → Int32} {w : mW}
theorem j_coder {d i : Nat} (hi : i < 15) : jMet l ad aC dC dI base XL XS (d + 1) yJ0_coder_7d493 cJ0_coder_7d493 1 (some .byte) [.ref (ad (1000000 + i))] w (j_K (some (.int 0)) w) := by
  refine jm_of (by decide +kernel) (Nat.le_of_ble_eq_true rfl) ?_
  intro p e R s m below meth c QT ls B hP hR hl
  obtain ⟨⟨hx, hb, hml, hown, hts⟩, hctx, hr, hsz, hlen⟩ := id B
  obtain ⟨-, -, -, -, hE, hZ, hZq, hbs⟩ := hctx
  refine va_gets hx hb hZ va_S.rf hown (hts _ jw_fl_38) (fun x h => h) dJ0_coder_7d493_0 ?_
  refine lv_if_eq (tgt := 13) hx hb dJ0_coder_7d493_3 rfl (fun h => absurd h (by decide)) (fun _ => ?_)
  refine lv_aload_n hx hb dJ0_coder_7d493_6 rfl (lv_at hl 0 rfl) ?_
  refine vk_getf hx hb (hE.1 i hi).2.1 va_S.rf hown (hts _ jw_fl_15) (fun x h => h) dJ0_coder_7d493_7 ?_
  refine lv_goto (tgt := 14) hx hb dJ0_coder_7d493_10 rfl ?_
  exact (hR (some (.int 0)) w s.heap [] ls 14 ⟨rfl, rfl⟩ hP (by omega) hlen va_S.rf).1 0 .byte rfl rfl rfl dJ0_coder_7d493_14
theorem j_isLatin1 {d i : Nat} (hi : i < 15) : jMet l ad aC dC dI base XL XS (d + 1) yJ0_isLatin1_aae02 cJ0_isLatin1_aae02 1 (some .boolean) [.ref (ad (1000000 + i))] w (j_K (some (.int 1)) w) := by
  refine jm_of (by decide +kernel) (Nat.le_of_ble_eq_true rfl) ?_
  intro p e R s m below meth c QT ls B hP hR hl
  obtain ⟨⟨hx, hb, hml, hown, hts⟩, hctx, hr, hsz, hlen⟩ := id B
  obtain ⟨-, -, -, -, hE, hZ, hZq, hbs⟩ := hctx
  refine va_gets hx hb hZ va_S.rf hown (hts _ jw_fl_38) (fun x h => h) dJ0_isLatin1_aae02_0 ?_
  refine lv_if_eq (tgt := 17) hx hb dJ0_isLatin1_aae02_3 rfl (fun h => absurd h (by decide)) (fun _ => ?_)
  refine lv_aload_n hx hb dJ0_isLatin1_aae02_6 rfl (lv_at hl 0 rfl) ?_
  refine vk_getf hx hb (hE.1 i hi).2.1 va_S.rf hown (hts _ jw_fl_15) (fun x h => h) dJ0_isLatin1_aae02_7 ?_
  refine lv_if_ne (tgt := 17) hx hb dJ0_isLatin1_aae02_10 rfl (fun h => absurd rfl h) (fun _ => ?_)
  refine lv_iconst (v := 1) hx hb dJ0_isLatin1_aae02_13 (by decide) ?_
  refine lv_goto (tgt := 18) hx hb dJ0_isLatin1_aae02_14 rfl ?_
  exact (hR (some (.int 1)) w s.heap [] ls 18 ⟨rfl, rfl⟩ hP (by omega) hlen va_S.rf).1 1 .boolean rfl rfl rfl dJ0_isLatin1_aae02_18
theorem j_check3 {d j n : Nat} {v : Value} (hv : v = .null ∨ ∃ t, v = .ref t) (hj : j < n) (hn : n < 2 ^ 31) : jMet l ad aC dC dI base XL XS (d + 1) yJ3_checkIndex_8e157 cJ3_checkIndex_8e157 3 (some .int) [.int (nI j), .int (nI n), v] w (j_K (some (.int (nI j))) w) := by
  refine jm_of (by decide +kernel) (by rcases hv with rfl | ⟨t, rfl⟩ <;> exact Nat.le_of_ble_eq_true rfl) ?_
  intro p e R s m below meth c QT ls B hP hR hl
  obtain ⟨⟨hx, hb, hml, hown, hts⟩, hctx, hr, hsz, hlen⟩ := id B
  have l0 : ls[0]? = some (.val (.int (nI j))) := by rcases hv with rfl | ⟨t, rfl⟩ <;> exact lv_at hl 0 rfl
  have l1 : ls[1]? = some (.val (.int (nI n))) := by rcases hv with rfl | ⟨t, rfl⟩ <;> exact lv_at hl 1 rfl
  refine lv_iload_n hx hb dJ3_checkIndex_8e157_0 rfl l0 ?_
  refine lv_if_lt (tgt := 9) hx hb dJ3_checkIndex_8e157_1 rfl (fun h => absurd h (nI_pos (by omega))) (fun _ => ?_)
  refine lv_iload_n hx hb dJ3_checkIndex_8e157_4 rfl l0 ?_
  refine lv_iload_n hx hb dJ3_checkIndex_8e157_5 rfl l1 ?_
  refine lv_icmp_lt (tgt := 16) hx hb dJ3_checkIndex_8e157_6 rfl (fun _ => ?_) (fun h => absurd (nI_lt hj (by omega)) h)
  refine lv_iload_n hx hb dJ3_checkIndex_8e157_16 rfl l0 ?_
  exact (hR (some (.int (nI j))) w s.heap [] ls 17 ⟨rfl, rfl⟩ hP (by omega) hlen va_S.rf).1 (nI j) .int rfl rfl rfl dJ3_checkIndex_8e157_17
theorem j_check0 {d j n : Nat} (hj : j < n) (hn : n < 2 ^ 31) : jMet l ad aC dC dI base XL XS (d + 2) yJ0_checkIndex_df160 cJ0_checkIndex_df160 2 none [.int (nI j), .int (nI n)] w (j_K none w) := by
  refine jm_of (by decide +kernel) (Nat.le_of_ble_eq_true rfl) ?_
  intro p e R s m below meth c QT ls B hP hR hl
  obtain ⟨⟨hx, hb, hml, hown, hts⟩, hctx, hr, hsz, hlen⟩ := id B
  obtain ⟨-, -, -, -, hE, hZ, hZq, hbs⟩ := hctx
  refine lv_iload_n hx hb dJ0_checkIndex_df160_0 rfl (lv_at hl 0 rfl) ?_
  refine lv_iload_n hx hb dJ0_checkIndex_df160_1 rfl (lv_at hl 1 rfl) ?_
  have go : ∀ v : Value, (v = .null ∨ ∃ t, v = .ref t) → va_Z "jdk/internal/util/Preconditions" "SIOOBE_FORMATTER" "Ljava/util/function/BiFunction;" v (fun q => base ≤ q) s s.heap → W p l e R s m ([.int (nI j), .int (nI n)] : List Value).toArray below meth c s.heap [] 0 0 QT (F0 m 2 ls [.int (nI n), .int (nI j)]) := by
    intro v hv hz
    refine va_gets hx hb hz va_S.rf hown (hts _ jw_fl_1053) (fun x h => h) dJ0_checkIndex_df160_2 ?_
    refine j_callS (r := []) (As := [.int (nI j), .int (nI n), v]) B (j_check3 hv hj hn) jw_code_J3_checkIndex_8e157 jw_ini_J3 jw_st_J3_checkIndex_8e157 jw_lk_J0_1059 jd_J3_checkIndex_8e157 (by decide) hl.1 (Nat.le_of_ble_eq_true rfl) dJ0_checkIndex_df160_5 hP va_S.rf (fun H1 locs1 hP1 hS1 => ?_)
    refine lv_pop hx hb dJ0_checkIndex_df160_8 rfl ?_
    exact (hR none w H1 locs1 ls 9 ⟨rfl, rfl⟩ hP1 (by omega) hlen hS1).2.2 rfl rfl dJ0_checkIndex_df160_9
  rcases hZq with hz | ⟨t, hz⟩
  · exact go _ (Or.inl rfl) hz
  · exact go _ (Or.inr ⟨t, rfl⟩) hz
theorem j_charAt1 {d i j : Nat} (hi : i < 15) (hj : j < m_slen.getD i 0) : jMet l ad aC dC dI base XL XS (d + 3) yJ1_charAt_3b067 cJ1_charAt_3b067 2 (some .char) [.ref (ad (2000000 + i)), .int (nI j)] w (j_K (some (.int (chv i j))) w) := by
  have h8 := (pw_len i hi).1
  refine jm_of (by decide +kernel) (Nat.le_of_ble_eq_true rfl) ?_
  intro p e R s m below meth c QT ls B hP hR hl
  obtain ⟨⟨hx, hb, hml, hown, hts⟩, hctx, hr, hsz, hlen⟩ := id B
  obtain ⟨-, -, -, -, hE, hZ, hZq, hbs⟩ := hctx
  refine lv_iload_n hx hb dJ1_charAt_3b067_0 rfl (lv_at hl 1 rfl) ?_
  refine lv_aload_n hx hb dJ1_charAt_3b067_1 rfl (lv_at hl 0 rfl) ?_
  refine va_tlen (v := nI (m_slen.getD i 0)) hx hb (hE.1 i hi).2.2.2 va_S.rf rfl dJ1_charAt_3b067_2 ?_
  refine j_callS (r := []) (As := [.int (nI j), .int (nI (m_slen.getD i 0))]) B (j_check0 hj (by omega)) jw_code_J0_checkIndex_df160 jw_ini_J0 jw_st_J0_checkIndex_df160 jw_lk_J1_9 jd_J0_checkIndex_df160 (by decide) hl.1 (Nat.le_of_ble_eq_true rfl) dJ1_charAt_3b067_3 hP va_S.rf (fun H1 locs1 hP1 hS1 => ?_)
  refine lv_aload_n hx hb dJ1_charAt_3b067_6 rfl (lv_at hl 0 rfl) ?_
  refine lv_iload_n hx hb dJ1_charAt_3b067_7 rfl (lv_at hl 1 rfl) ?_
  refine va_tb (v := .int ((m_sbyt.getD i []).getD j 0)) hx hb (hE.1 i hi).2.2.2 hS1 (vp_in_nI hj (by omega)) (by rw [nI_clamp (by omega)]) dJ1_charAt_3b067_8 ?_
  refine lv_sipush (v := 255) hx hb dJ1_charAt_3b067_9 (by decide +kernel) ?_
  refine lv_iand hx hb dJ1_charAt_3b067_12 ?_
  refine lv_i2c (v := chv i j) hx hb dJ1_charAt_3b067_13 rfl ?_
  exact (hR (some (.int (chv i j))) w H1 locs1 ls 14 ⟨rfl, rfl⟩ hP1 (by omega) hlen hS1).1 (chv i j) .char rfl rfl (pw_ch i hi j hj).1 dJ1_charAt_3b067_14
theorem j_charAt {d i j : Nat} (hi : i < 15) (hj : j < m_slen.getD i 0) : jMet l ad aC dC dI base XL XS (d + 4) yJ0_charAt_5068e cJ0_charAt_5068e 2 (some .char) [.ref (ad (1000000 + i)), .int (nI j)] w (j_K (some (.int (chv i j))) w) := by
  refine jm_of (by decide +kernel) (Nat.le_of_ble_eq_true rfl) ?_
  intro p e R s m below meth c QT ls B hP hR hl
  obtain ⟨⟨hx, hb, hml, hown, hts⟩, hctx, hr, hsz, hlen⟩ := id B
  obtain ⟨-, -, -, -, hE, hZ, hZq, hbs⟩ := hctx
  refine lv_aload_n hx hb dJ0_charAt_5068e_0 rfl (lv_at hl 0 rfl) ?_
  refine j_callV (r := []) (As := []) B (j_isLatin1 hi) jw_code_J0_isLatin1_aae02 jw_ini_J0 jw_im_J0_isLatin1_aae02 jw_se_J0_isLatin1_aae02 jw_lk_J0_492 jd_J0_isLatin1_aae02 (by decide) (vk_recv (adK := fun i => ad (1000000 + i)) (i := i) hE hi va_S.rf) hl.1 (Nat.le_of_ble_eq_true rfl) dJ0_charAt_5068e_1 hP va_S.rf (fun H1 locs1 hP1 hS1 => ?_)
  refine lv_if_eq (tgt := 16) hx hb dJ0_charAt_5068e_4 rfl (fun h => absurd h (by decide)) (fun _ => ?_)
  refine lv_aload_n hx hb dJ0_charAt_5068e_7 rfl (lv_at hl 0 rfl) ?_
  refine vk_getf hx hb (hE.1 i hi).2.2.1 hS1 hown (hts _ jw_fl_9) (fun x h => h) dJ0_charAt_5068e_8 ?_
  refine lv_iload_n hx hb dJ0_charAt_5068e_11 rfl (lv_at hl 1 rfl) ?_
  refine j_callS (r := []) (As := [.ref (ad (2000000 + i)), .int (nI j)]) B (j_charAt1 hi hj) jw_code_J1_charAt_3b067 jw_ini_J1 jw_st_J1_charAt_3b067 jw_lk_J0_495 jd_J1_charAt_3b067 (by decide) hl.1 (Nat.le_of_ble_eq_true rfl) dJ0_charAt_5068e_12 hP1 hS1 (fun H2 locs2 hP2 hS2 => ?_)
  exact (hR (some (.int (chv i j))) w H2 locs2 ls 15 ⟨rfl, rfl⟩ hP2 (by omega) hlen hS2).1 (chv i j) .char rfl rfl (pw_ch i hi j hj).1 dJ0_charAt_5068e_15
theorem j_length {d i : Nat} (hi : i < 15) : jMet l ad aC dC dI base XL XS (d + 2) yJ0_length_8abf5 cJ0_length_8abf5 1 (some .int) [.ref (ad (1000000 + i))] w (j_K (some (.int (nI (m_slen.getD i 0)))) w) := by
  refine jm_of (by decide +kernel) (Nat.le_of_ble_eq_true rfl) ?_
  intro p e R s m below meth c QT ls B hP hR hl
  obtain ⟨⟨hx, hb, hml, hown, hts⟩, hctx, hr, hsz, hlen⟩ := id B
  obtain ⟨-, -, -, -, hE, hZ, hZq, hbs⟩ := hctx
  refine lv_aload_n hx hb dJ0_length_8abf5_0 rfl (lv_at hl 0 rfl) ?_
  refine vk_getf hx hb (hE.1 i hi).2.2.1 va_S.rf hown (hts _ jw_fl_9) (fun x h => h) dJ0_length_8abf5_1 ?_
  refine va_tlen (v := nI (m_slen.getD i 0)) hx hb (hE.1 i hi).2.2.2 va_S.rf rfl dJ0_length_8abf5_4 ?_
  refine lv_aload_n hx hb dJ0_length_8abf5_5 rfl (lv_at hl 0 rfl) ?_
  refine j_callV (r := [.int (nI (m_slen.getD i 0))]) (As := []) B (j_coder hi) jw_code_J0_coder_7d493 jw_ini_J0 jw_im_J0_coder_7d493 jw_se_J0_coder_7d493 jw_lk_J0_335 jd_J0_coder_7d493 (by decide) (vk_recv (adK := fun i => ad (1000000 + i)) (i := i) hE hi va_S.rf) hl.1 (Nat.le_of_ble_eq_true rfl) dJ0_length_8abf5_6 hP va_S.rf (fun H1 locs1 hP1 hS1 => ?_)
  refine lv_ishr hx hb dJ0_length_8abf5_9 ?_
  rw [(pw_len i hi).2.1]
  exact (hR (some (.int (nI (m_slen.getD i 0)))) w H1 locs1 ls 10 ⟨rfl, rfl⟩ hP1 (by omega) hlen hS1).1 _ .int rfl rfl rfl dJ0_length_8abf5_10
theorem j_packedWord {d i : Nat} {K : mK} (hi : i < 15) (hK : K (some (.long (m_pwv i))) w) : jMet l ad aC dC dI base XL XS (d + 5) yX6_packedWord cX6_packedWord 4 (some .long) [.ref (ad (1000000 + i))] w K := by
  have h8 := (pw_len i hi).1
  refine jm_of (by decide +kernel) (Nat.le_of_ble_eq_true rfl) ?_
  intro p e R s m below meth c QT ls0 B hP0 hR hl0
  obtain ⟨⟨hx, hb, hml, hown, hts⟩, hctx, hr, hsz, hlen⟩ := id B
  obtain ⟨-, -, -, -, hE, hZ, hZq, hbs⟩ := hctx
  have loop : ∀ (k j : Nat) (ls : Array Slot) (H : Heap) (locs : List Loc), j + k = m_slen.getD i 0 → m_Hp ad aC dC dI w H → va_S (fun q => base ≤ q) s.heap H locs → lv_has ls 4 [(3, .int (nI j)), (1, .long (pwx i j)), (0, .ref (ad (1000000 + i)))] → W p l e R s m ([.ref (ad (1000000 + i))] : List Value).toArray below meth c H locs 0 0 QT (F0 m 4 ls []) := by
    intro k
    induction k with
    | zero =>
      intro j ls H locs hj hP hS hl
      refine lv_iload_n hx hb dX6_packedWord_4 rfl (lv_at hl 0 rfl) ?_
      refine lv_aload_n hx hb dX6_packedWord_5 rfl (lv_at hl 2 rfl) ?_
      refine j_callV (r := [.int (nI j)]) (As := []) B (j_length hi) jw_code_J0_length_8abf5 jw_ini_J0 jw_im_J0_length_8abf5 jw_se_J0_length_8abf5 jw_lk_X6_60 jd_J0_length_8abf5 (by decide) (vk_recv (adK := fun i => ad (1000000 + i)) (i := i) hE hi hS) hl.1 (Nat.le_of_ble_eq_true rfl) dX6_packedWord_6 hP hS (fun H1 locs1 hP1 hS1 => ?_)
      refine lv_icmp_ge (tgt := 30) hx hb dX6_packedWord_9 rfl (fun _ => ?_) (fun h => absurd (nI_le (by omega) (by omega)) h)
      refine lv_lload_n hx hb dX6_packedWord_30 rfl (lv_at hl 1 rfl) ?_
      have e : pwx i j = m_pwv i := by rw [show j = m_slen.getD i 0 by omega]; exact (pw_len i hi).2.2.2
      rw [e]
      exact (hR (some (.long (m_pwv i))) w H1 locs1 ls 31 hK hP1 (by omega) hlen hS1).2.1 _ rfl rfl dX6_packedWord_31
    | succ k ih =>
      intro j ls H locs hj hP hS hl
      refine lv_iload_n hx hb dX6_packedWord_4 rfl (lv_at hl 0 rfl) ?_
      refine lv_aload_n hx hb dX6_packedWord_5 rfl (lv_at hl 2 rfl) ?_
      refine j_callV (r := [.int (nI j)]) (As := []) B (j_length hi) jw_code_J0_length_8abf5 jw_ini_J0 jw_im_J0_length_8abf5 jw_se_J0_length_8abf5 jw_lk_X6_60 jd_J0_length_8abf5 (by decide) (vk_recv (adK := fun i => ad (1000000 + i)) (i := i) hE hi hS) hl.1 (Nat.le_of_ble_eq_true rfl) dX6_packedWord_6 hP hS (fun H1 locs1 hP1 hS1 => ?_)
      refine lv_icmp_ge (tgt := 30) hx hb dX6_packedWord_9 rfl (fun h => absurd h (nI_ge (by omega) (by omega))) (fun _ => ?_)
      refine lv_lload_n hx hb dX6_packedWord_12 rfl (lv_at hl 1 rfl) ?_
      refine lv_bipush (v := 8) hx hb dX6_packedWord_13 (by decide +kernel) ?_
      refine lv_lshl (v := pwx i j <<< ((8 : Int32).toInt64 &&& 63)) hx hb dX6_packedWord_15 rfl ?_
      refine lv_aload_n hx hb dX6_packedWord_16 rfl (lv_at hl 2 rfl) ?_
      refine lv_iload_n hx hb dX6_packedWord_17 rfl (lv_at hl 0 rfl) ?_
      refine j_callV (r := [.long (pwx i j <<< ((8 : Int32).toInt64 &&& 63))]) (As := [.int (nI j)]) B (j_charAt hi (by omega)) jw_code_J0_charAt_5068e jw_ini_J0 jw_im_J0_charAt_5068e jw_se_J0_charAt_5068e jw_lk_X6_66 jd_J0_charAt_5068e (by decide) (vk_recv (adK := fun i => ad (1000000 + i)) (i := i) hE hi hS1) hl.1 (Nat.le_of_ble_eq_true rfl) dX6_packedWord_18 hP1 hS1 (fun H2 locs2 hP2 hS2 => ?_)
      refine lv_i2l (v := (chv i j).toInt64) hx hb dX6_packedWord_21 rfl ?_
      refine lv_lor hx hb dX6_packedWord_22 ?_
      rw [← (pw_ch i hi j (by omega)).2]
      refine lv_lstore_n hx hb dX6_packedWord_23 rfl hl (by decide) rfl (fun ls1 hl1 => ?_)
      refine lv_iinc (k := 1) (v := nI (j + 1)) hx hb dX6_packedWord_24 hl1 rfl (nI_1 j) (by decide) rfl (fun ls2 hl2 => ?_)
      refine lv_goto (tgt := 4) hx hb dX6_packedWord_27 rfl ?_
      exact ih (j + 1) ls2 H2 locs2 (by omega) hP2 hS2 hl2
  refine lv_lconst (v := 0) hx hb dX6_packedWord_0 (by decide +kernel) ?_
  refine lv_lstore_n hx hb dX6_packedWord_1 rfl hl0 (by decide) rfl (fun ls1 hl1 => ?_)
  refine lv_iconst (v := 0) hx hb dX6_packedWord_2 (by decide) ?_
  refine lv_istore_n hx hb dX6_packedWord_3 rfl hl1 (by decide) rfl (fun ls2 hl2 => ?_)
  refine loop (m_slen.getD i 0) 0 ls2 s.heap [] (by omega) hP0 va_S.rf ?_
  rw [(pw_len i hi).2.2.1]
  exact hl2
end JM
theorem m_hPW {l : Launch} {ad : Nat → Nat} {aC : FieldType → ClassId} {dC : Nat → ClassId} {dI : Nat → Nat → Nat} {base XL : Nat} {XS : Nat → Int32} (d : Nat) (as : List Value) (w : mW) (K : mK) (hd : 8 ≤ d) (h : m_pwC as w K) : m_Met l ad aC dC dI base XL XS (d + 1) 62 as w K := by
  obtain ⟨i, hi, rfl, hK⟩ := h
  intro M hM
  have e : M = (yX6_packedWord, cX6_packedWord, 4, some .long, 1, 6, 1, []) := by
    have : m_nth m_tab 62 = some (yX6_packedWord, cX6_packedWord, 4, some .long, 1, 6, 1, []) := rfl
    rw [this] at hM
    exact (Option.some.inj hM).symm
  subst e
  obtain ⟨d', rfl⟩ : ∃ d', d = d' + 4 := ⟨d - 4, by omega⟩
  exact j_packedWord (d := d') hi hK
