/-! ===== the String methods of the JDK: decode rows, words ===== -/
theorem dJ0_coder_7d493_0 : decode cJ0_coder_7d493 0 = .ok (.getstatic 38, 3) := by decide +kernel
theorem dJ0_coder_7d493_3 : decode cJ0_coder_7d493 3 = .ok (.ifCond .eq 10, 3) := by decide +kernel
theorem dJ0_coder_7d493_6 : decode cJ0_coder_7d493 6 = .ok (.aload_n 0, 1) := by decide +kernel
theorem dJ0_coder_7d493_7 : decode cJ0_coder_7d493 7 = .ok (.getfield 15, 3) := by decide +kernel
theorem dJ0_coder_7d493_10 : decode cJ0_coder_7d493 10 = .ok (.goto 4, 3) := by decide +kernel
theorem dJ0_coder_7d493_14 : decode cJ0_coder_7d493 14 = .ok (.ireturn, 1) := by decide +kernel
theorem dJ0_length_8abf5_0 : decode cJ0_length_8abf5 0 = .ok (.aload_n 0, 1) := by decide +kernel
theorem dJ0_length_8abf5_1 : decode cJ0_length_8abf5 1 = .ok (.getfield 9, 3) := by decide +kernel
theorem dJ0_length_8abf5_4 : decode cJ0_length_8abf5 4 = .ok (.arraylength, 1) := by decide +kernel
theorem dJ0_length_8abf5_5 : decode cJ0_length_8abf5 5 = .ok (.aload_n 0, 1) := by decide +kernel
theorem dJ0_length_8abf5_6 : decode cJ0_length_8abf5 6 = .ok (.invokevirtual 335, 3) := by decide +kernel
theorem dJ0_length_8abf5_9 : decode cJ0_length_8abf5 9 = .ok (.ishr, 1) := by decide +kernel
theorem dJ0_length_8abf5_10 : decode cJ0_length_8abf5 10 = .ok (.ireturn, 1) := by decide +kernel
theorem dJ0_isLatin1_aae02_0 : decode cJ0_isLatin1_aae02 0 = .ok (.getstatic 38, 3) := by decide +kernel
theorem dJ0_isLatin1_aae02_3 : decode cJ0_isLatin1_aae02 3 = .ok (.ifCond .eq 14, 3) := by decide +kernel
theorem dJ0_isLatin1_aae02_6 : decode cJ0_isLatin1_aae02 6 = .ok (.aload_n 0, 1) := by decide +kernel
theorem dJ0_isLatin1_aae02_7 : decode cJ0_isLatin1_aae02 7 = .ok (.getfield 15, 3) := by decide +kernel
theorem dJ0_isLatin1_aae02_10 : decode cJ0_isLatin1_aae02 10 = .ok (.ifCond .ne 7, 3) := by decide +kernel
theorem dJ0_isLatin1_aae02_13 : decode cJ0_isLatin1_aae02 13 = .ok (.iconst 1, 1) := by decide +kernel
theorem dJ0_isLatin1_aae02_14 : decode cJ0_isLatin1_aae02 14 = .ok (.goto 4, 3) := by decide +kernel
theorem dJ0_isLatin1_aae02_18 : decode cJ0_isLatin1_aae02 18 = .ok (.ireturn, 1) := by decide +kernel
theorem dJ3_checkIndex_8e157_0 : decode cJ3_checkIndex_8e157 0 = .ok (.iload_n 0, 1) := by decide +kernel
theorem dJ3_checkIndex_8e157_1 : decode cJ3_checkIndex_8e157 1 = .ok (.ifCond .lt 8, 3) := by decide +kernel
theorem dJ3_checkIndex_8e157_4 : decode cJ3_checkIndex_8e157 4 = .ok (.iload_n 0, 1) := by decide +kernel
theorem dJ3_checkIndex_8e157_5 : decode cJ3_checkIndex_8e157 5 = .ok (.iload_n 1, 1) := by decide +kernel
theorem dJ3_checkIndex_8e157_6 : decode cJ3_checkIndex_8e157 6 = .ok (.if_icmp .lt 10, 3) := by decide +kernel
theorem dJ3_checkIndex_8e157_16 : decode cJ3_checkIndex_8e157 16 = .ok (.iload_n 0, 1) := by decide +kernel
theorem dJ3_checkIndex_8e157_17 : decode cJ3_checkIndex_8e157 17 = .ok (.ireturn, 1) := by decide +kernel
theorem dJ0_checkIndex_df160_0 : decode cJ0_checkIndex_df160 0 = .ok (.iload_n 0, 1) := by decide +kernel
theorem dJ0_checkIndex_df160_1 : decode cJ0_checkIndex_df160 1 = .ok (.iload_n 1, 1) := by decide +kernel
theorem dJ0_checkIndex_df160_2 : decode cJ0_checkIndex_df160 2 = .ok (.getstatic 1053, 3) := by decide +kernel
theorem dJ0_checkIndex_df160_5 : decode cJ0_checkIndex_df160 5 = .ok (.invokestatic 1059, 3) := by decide +kernel
theorem dJ0_checkIndex_df160_8 : decode cJ0_checkIndex_df160 8 = .ok (.pop, 1) := by decide +kernel
theorem dJ0_checkIndex_df160_9 : decode cJ0_checkIndex_df160 9 = .ok (.return_, 1) := by decide +kernel
theorem dJ1_charAt_3b067_0 : decode cJ1_charAt_3b067 0 = .ok (.iload_n 1, 1) := by decide +kernel
theorem dJ1_charAt_3b067_1 : decode cJ1_charAt_3b067 1 = .ok (.aload_n 0, 1) := by decide +kernel
theorem dJ1_charAt_3b067_2 : decode cJ1_charAt_3b067 2 = .ok (.arraylength, 1) := by decide +kernel
theorem dJ1_charAt_3b067_3 : decode cJ1_charAt_3b067 3 = .ok (.invokestatic 9, 3) := by decide +kernel
theorem dJ1_charAt_3b067_6 : decode cJ1_charAt_3b067 6 = .ok (.aload_n 0, 1) := by decide +kernel
theorem dJ1_charAt_3b067_7 : decode cJ1_charAt_3b067 7 = .ok (.iload_n 1, 1) := by decide +kernel
theorem dJ1_charAt_3b067_8 : decode cJ1_charAt_3b067 8 = .ok (.baload, 1) := by decide +kernel
theorem dJ1_charAt_3b067_9 : decode cJ1_charAt_3b067 9 = .ok (.sipush 255, 3) := by decide +kernel
theorem dJ1_charAt_3b067_12 : decode cJ1_charAt_3b067 12 = .ok (.iand, 1) := by decide +kernel
theorem dJ1_charAt_3b067_13 : decode cJ1_charAt_3b067 13 = .ok (.i2c, 1) := by decide +kernel
theorem dJ1_charAt_3b067_14 : decode cJ1_charAt_3b067 14 = .ok (.ireturn, 1) := by decide +kernel
theorem dJ0_charAt_5068e_0 : decode cJ0_charAt_5068e 0 = .ok (.aload_n 0, 1) := by decide +kernel
theorem dJ0_charAt_5068e_1 : decode cJ0_charAt_5068e 1 = .ok (.invokevirtual 492, 3) := by decide +kernel
theorem dJ0_charAt_5068e_4 : decode cJ0_charAt_5068e 4 = .ok (.ifCond .eq 12, 3) := by decide +kernel
theorem dJ0_charAt_5068e_7 : decode cJ0_charAt_5068e 7 = .ok (.aload_n 0, 1) := by decide +kernel
theorem dJ0_charAt_5068e_8 : decode cJ0_charAt_5068e 8 = .ok (.getfield 9, 3) := by decide +kernel
theorem dJ0_charAt_5068e_11 : decode cJ0_charAt_5068e 11 = .ok (.iload_n 1, 1) := by decide +kernel
theorem dJ0_charAt_5068e_12 : decode cJ0_charAt_5068e 12 = .ok (.invokestatic 495, 3) := by decide +kernel
theorem dJ0_charAt_5068e_15 : decode cJ0_charAt_5068e 15 = .ok (.ireturn, 1) := by decide +kernel
theorem dX6_packedWord_0 : decode cX6_packedWord 0 = .ok (.lconst 0, 1) := by decide +kernel
theorem dX6_packedWord_1 : decode cX6_packedWord 1 = .ok (.lstore_n 1, 1) := by decide +kernel
theorem dX6_packedWord_2 : decode cX6_packedWord 2 = .ok (.iconst 0, 1) := by decide +kernel
theorem dX6_packedWord_3 : decode cX6_packedWord 3 = .ok (.istore_n 3, 1) := by decide +kernel
theorem dX6_packedWord_4 : decode cX6_packedWord 4 = .ok (.iload_n 3, 1) := by decide +kernel
theorem dX6_packedWord_5 : decode cX6_packedWord 5 = .ok (.aload_n 0, 1) := by decide +kernel
theorem dX6_packedWord_6 : decode cX6_packedWord 6 = .ok (.invokevirtual 60, 3) := by decide +kernel
theorem dX6_packedWord_9 : decode cX6_packedWord 9 = .ok (.if_icmp .ge 21, 3) := by decide +kernel
theorem dX6_packedWord_12 : decode cX6_packedWord 12 = .ok (.lload_n 1, 1) := by decide +kernel
theorem dX6_packedWord_13 : decode cX6_packedWord 13 = .ok (.bipush 8, 2) := by decide +kernel
theorem dX6_packedWord_15 : decode cX6_packedWord 15 = .ok (.lshl, 1) := by decide +kernel
theorem dX6_packedWord_16 : decode cX6_packedWord 16 = .ok (.aload_n 0, 1) := by decide +kernel
theorem dX6_packedWord_17 : decode cX6_packedWord 17 = .ok (.iload_n 3, 1) := by decide +kernel
theorem dX6_packedWord_18 : decode cX6_packedWord 18 = .ok (.invokevirtual 66, 3) := by decide +kernel
theorem dX6_packedWord_21 : decode cX6_packedWord 21 = .ok (.i2l, 1) := by decide +kernel
theorem dX6_packedWord_22 : decode cX6_packedWord 22 = .ok (.lor, 1) := by decide +kernel
theorem dX6_packedWord_23 : decode cX6_packedWord 23 = .ok (.lstore_n 1, 1) := by decide +kernel
theorem dX6_packedWord_24 : decode cX6_packedWord 24 = .ok (.iinc 3 1, 3) := by decide +kernel
theorem dX6_packedWord_27 : decode cX6_packedWord 27 = .ok (.goto (-23), 3) := by decide +kernel
theorem dX6_packedWord_30 : decode cX6_packedWord 30 = .ok (.lload_n 1, 1) := by decide +kernel
theorem dX6_packedWord_31 : decode cX6_packedWord 31 = .ok (.lreturn, 1) := by decide +kernel
theorem jw_code_J0_coder_7d493 : Cond.code yJ0_coder_7d493 cJ0_coder_7d493 1 (some .byte) ∈ m_ws := m_in 134 (by decide +kernel) rfl
theorem jw_code_J0_length_8abf5 : Cond.code yJ0_length_8abf5 cJ0_length_8abf5 1 (some .int) ∈ m_ws := m_in 130 (by decide +kernel) rfl
theorem jw_code_J0_isLatin1_aae02 : Cond.code yJ0_isLatin1_aae02 cJ0_isLatin1_aae02 1 (some .boolean) ∈ m_ws := m_in 144 (by decide +kernel) rfl
theorem jw_code_J3_checkIndex_8e157 : Cond.code yJ3_checkIndex_8e157 cJ3_checkIndex_8e157 3 (some .int) ∈ m_ws := m_in 155 (by decide +kernel) rfl
theorem jw_code_J0_checkIndex_df160 : Cond.code yJ0_checkIndex_df160 cJ0_checkIndex_df160 2 none ∈ m_ws := m_in 150 (by decide +kernel) rfl
theorem jw_code_J1_charAt_3b067 : Cond.code yJ1_charAt_3b067 cJ1_charAt_3b067 2 (some .char) ∈ m_ws := m_in 147 (by decide +kernel) rfl
theorem jw_code_J0_charAt_5068e : Cond.code yJ0_charAt_5068e cJ0_charAt_5068e 2 (some .char) ∈ m_ws := m_in 140 (by decide +kernel) rfl
theorem jw_ini_J0 : Cond.initialized RJ0 ∈ m_ws := m_in 82 (by decide +kernel) rfl
theorem jw_ini_J1 : Cond.initialized RJ1 ∈ m_ws := m_in 83 (by decide +kernel) rfl
theorem jw_ini_J3 : Cond.initialized RJ3 ∈ m_ws := m_in 84 (by decide +kernel) rfl
theorem jw_im_J0_coder_7d493 : Cond.instanceMethod yJ0_coder_7d493 ∈ m_ws := m_in 132 (by decide +kernel) rfl
theorem jw_se_J0_coder_7d493 : Cond.selects RJ0 yJ0_coder_7d493 yJ0_coder_7d493 ∈ m_ws := m_in 133 (by decide +kernel) rfl
theorem jw_im_J0_length_8abf5 : Cond.instanceMethod yJ0_length_8abf5 ∈ m_ws := m_in 128 (by decide +kernel) rfl
theorem jw_se_J0_length_8abf5 : Cond.selects RJ0 yJ0_length_8abf5 yJ0_length_8abf5 ∈ m_ws := m_in 129 (by decide +kernel) rfl
theorem jw_im_J0_isLatin1_aae02 : Cond.instanceMethod yJ0_isLatin1_aae02 ∈ m_ws := m_in 142 (by decide +kernel) rfl
theorem jw_se_J0_isLatin1_aae02 : Cond.selects RJ0 yJ0_isLatin1_aae02 yJ0_isLatin1_aae02 ∈ m_ws := m_in 143 (by decide +kernel) rfl
theorem jw_im_J0_charAt_5068e : Cond.instanceMethod yJ0_charAt_5068e ∈ m_ws := m_in 138 (by decide +kernel) rfl
theorem jw_se_J0_charAt_5068e : Cond.selects RJ0 yJ0_charAt_5068e yJ0_charAt_5068e ∈ m_ws := m_in 139 (by decide +kernel) rfl
theorem jw_st_J3_checkIndex_8e157 : Cond.static yJ3_checkIndex_8e157 ∈ m_ws := m_in 154 (by decide +kernel) rfl
theorem jw_st_J0_checkIndex_df160 : Cond.static yJ0_checkIndex_df160 ∈ m_ws := m_in 149 (by decide +kernel) rfl
theorem jw_st_J1_charAt_3b067 : Cond.static yJ1_charAt_3b067 ∈ m_ws := m_in 146 (by decide +kernel) rfl
theorem jw_lk_J0_335 : Cond.methodLink RJ0 335 yJ0_coder_7d493 ∈ m_ws := m_in 131 (by decide +kernel) rfl
theorem jw_lk_J0_492 : Cond.methodLink RJ0 492 yJ0_isLatin1_aae02 ∈ m_ws := m_in 141 (by decide +kernel) rfl
theorem jw_lk_J0_495 : Cond.methodLink RJ0 495 yJ1_charAt_3b067 ∈ m_ws := m_in 145 (by decide +kernel) rfl
theorem jw_lk_J0_1059 : Cond.methodLink RJ0 1059 yJ3_checkIndex_8e157 ∈ m_ws := m_in 153 (by decide +kernel) rfl
theorem jw_lk_J1_9 : Cond.methodLink RJ1 9 yJ0_checkIndex_df160 ∈ m_ws := m_in 148 (by decide +kernel) rfl
theorem jw_lk_X6_60 : Cond.methodLink RX6 60 yJ0_length_8abf5 ∈ m_ws := m_in 127 (by decide +kernel) rfl
theorem jw_lk_X6_66 : Cond.methodLink RX6 66 yJ0_charAt_5068e ∈ m_ws := m_in 137 (by decide +kernel) rfl
theorem jw_fl_9 : Cond.fieldLink RJ0 9 "java/lang/String" "value" "[B" ∈ m_ws := m_in 1246 (by decide +kernel) rfl
theorem jw_fl_15 : Cond.fieldLink RJ0 15 "java/lang/String" "coder" "B" ∈ m_ws := m_in 1247 (by decide +kernel) rfl
theorem jw_fl_38 : Cond.fieldLink RJ0 38 "java/lang/String" "COMPACT_STRINGS" "Z" ∈ m_ws := m_in 135 (by decide +kernel) rfl
theorem jw_fl_1053 : Cond.fieldLink RJ0 1053 "jdk/internal/util/Preconditions" "SIOOBE_FORMATTER" "Ljava/util/function/BiFunction;" ∈ m_ws := m_in 151 (by decide +kernel) rfl
