abbrev mM : Type := MethodName × ByteArray × Nat × Option FieldType × Nat × Nat × Nat × mL
def m_tab : List mM := [(yX0_init, cX0_init, 1, none, 2, 0, 1, kX0_init),
  (yX0_step, cX0_step, 4, none, 0, 0, 4, kX0_step),
  (yX0_leadHere, cX0_leadHere, 2, none, 0, 0, 2, kX0_leadHere),
  (yX1_init, cX1_init, 3, none, 2, 1, 3, kX1_init),
  (yX1_begin, cX1_begin, 1, none, 0, 1, 1, kX1_begin),
  (yX1_kind, cX1_kind, 1, (some .int), 0, 1, 1, kX1_kind),
  (yX1_tokenValue, cX1_tokenValue, 1, (some .long), 0, 1, 1, kX1_tokenValue),
  (yX1_fail, cX1_fail, 3, none, 0, 1, 3, kX1_fail),
  (yX1_expect, cX1_expect, 2, none, 0, 1, 2, kX1_expect),
  (yX1_enumerations, cX1_enumerations, 2, none, 0, 1, 1, kX1_enumerations),
  (yX1_enumeration, cX1_enumeration, 1, none, 0, 1, 1, kX1_enumeration),
  (yX1_constants, cX1_constants, 3, none, 0, 1, 2, kX1_constants),
  (yX1_constant, cX1_constant, 3, none, 0, 1, 2, kX1_constant),
  (yX1_findEnumeration, cX1_findEnumeration, 4, (some .int), 0, 1, 2, kX1_findEnumeration),
  (yX1_constantCount, cX1_constantCount, 2, (some .int), 0, 1, 2, kX1_constantCount),
  (yX1_findConstant, cX1_findConstant, 6, (some .int), 0, 1, 3, kX1_findConstant),
  (yX1_selector, cX1_selector, 1, none, 0, 1, 1, kX1_selector),
  (yX1_chooseEnumeration, cX1_chooseEnumeration, 1, none, 0, 1, 1, kX1_chooseEnumeration),
  (yX1_arms, cX1_arms, 2, none, 0, 1, 1, kX1_arms),
  (yX1_arm, cX1_arm, 4, none, 0, 1, 2, kX1_arm),
  (yX1_labels, cX1_labels, 2, none, 0, 1, 1, kX1_labels),
  (yX1_oneLabel, cX1_oneLabel, 7, none, 0, 1, 1, kX1_oneLabel),
  (yX1_body, cX1_body, 4, none, 0, 1, 1, kX1_body),
  (yX1_stmts, cX1_stmts, 3, none, 0, 1, 2, kX1_stmts),
  (yX1_beginsStmt, cX1_beginsStmt, 1, (some .boolean), 1, 1, 1, kX1_beginsStmt),
  (yX1_openStmt, cX1_openStmt, 3, none, 0, 1, 2, kX1_openStmt),
  (yX1_stmt, cX1_stmt, 2, none, 0, 1, 2, kX1_stmt),
  (yX1_block, cX1_block, 3, none, 0, 1, 2, kX1_block),
  (yX1_branches, cX1_branches, 6, none, 0, 1, 2, kX1_branches),
  (yX1_let, cX1_let, 2, none, 0, 1, 1, kX1_let),
  (yX1_setName, cX1_setName, 3, none, 0, 1, 3, kX1_setName),
  (yX1_simple, cX1_simple, 3, none, 0, 1, 1, kX1_simple),
  (yX1_useName, cX1_useName, 2, none, 0, 1, 1, kX1_useName),
  (yX1_yieldNumber, cX1_yieldNumber, 3, none, 0, 1, 1, kX1_yieldNumber),
  (yX1_leave, cX1_leave, 3, none, 0, 1, 3, kX1_leave),
  (yX1_number, cX1_number, 2, (some .int), 0, 1, 1, kX1_number),
  (yX1_end, cX1_end, 1, none, 0, 1, 1, kX1_end),
  (yX2_init, cX2_init, 1, none, 2, 2, 1, kX2_init),
  (yX2_at, cX2_at, 2, (some .int), 0, 2, 2, kX2_at),
  (yX2_append, cX2_append, 5, (some .boolean), 0, 2, 3, kX2_append),
  (yX2_packed, cX2_packed, 6, (some .long), 0, 2, 3, kX2_packed),
  (yX2_whole, cX2_whole, 2, (some .long), 0, 2, 1, kX2_whole),
  (yX2_wholeHash, cX2_wholeHash, 3, (some .int), 0, 2, 1, kX2_wholeHash),
  (yX3_init, cX3_init, 1, none, 2, 3, 1, kX3_init),
  (yX3_forget, cX3_forget, 1, none, 0, 3, 1, kX3_forget),
  (yX3_begin, cX3_begin, 1, none, 0, 3, 1, kX3_begin),
  (yX3_go, cX3_go, 10, (some .int), 0, 3, 4, kX3_go),
  (yX3_isName, cX3_isName, 1, (some .boolean), 1, 3, 1, kX3_isName),
  (yX3_addToTrace, cX3_addToTrace, 2, none, 0, 3, 2, kX3_addToTrace),
  (yX4_init, cX4_init, 1, none, 2, 4, 1, kX4_init),
  (yX4_find, cX4_find, 4, (some .int), 0, 4, 2, kX4_find),
  (yX4_add, cX4_add, 3, (some .int), 0, 4, 2, kX4_add),
  (yX4_shrink, cX4_shrink, 2, none, 0, 4, 2, kX4_shrink),
  (yX4_isSet, cX4_isSet, 2, (some .boolean), 0, 4, 2, kX4_isSet),
  (yX4_makeSet, cX4_makeSet, 2, none, 0, 4, 2, kX4_makeSet),
  (yX4_isReached, cX4_isReached, 1, (some .boolean), 0, 4, 1, kX4_isReached),
  (yX5_init, cX5_init, 1, none, 2, 5, 1, kX5_init),
  (yX5_make, cX5_make, 3, none, 0, 5, 2, kX5_make),
  (yX5_put, cX5_put, 5, none, 0, 5, 3, kX5_put),
  (yX5_has, cX5_has, 2, (some .boolean), 0, 5, 2, kX5_has),
  (yX5_isDense, cX5_isDense, 3, (some .boolean), 0, 5, 1, kX5_isDense),
  (yX6_init, cX6_init, 1, none, 2, 6, 1, kX6_init),
  (yX6_packedWord, cX6_packedWord, 4, (some .long), 1, 6, 1, []),
  (yX6_cut, cX6_cut, 6, none, 0, 6, 2, kX6_cut),
  (yX6_behindBlanks, cX6_behindBlanks, 4, (some .int), 1, 6, 2, kX6_behindBlanks),
  (yX6_cutOne, cX6_cutOne, 5, (some .int), 0, 6, 4, kX6_cutOne),
  (yX6_cutName, cX6_cutName, 6, (some .int), 0, 6, 3, kX6_cutName),
  (yX6_nameKind, cX6_nameKind, 4, (some .int), 0, 6, 2, kX6_nameKind),
  (yX6_cutNumber, cX6_cutNumber, 6, (some .int), 0, 6, 3, kX6_cutNumber),
  (yX6_cutText, cX6_cutText, 4, (some .int), 0, 6, 3, kX6_cutText),
  (yX6_isSmall, cX6_isSmall, 1, (some .boolean), 1, 6, 1, kX6_isSmall),
  (yX6_isFigure, cX6_isFigure, 1, (some .boolean), 1, 6, 1, kX6_isFigure),
  (yX6_isTextSign, cX6_isTextSign, 1, (some .boolean), 1, 6, 1, kX6_isTextSign),
  (yX6_signKind, cX6_signKind, 1, (some .int), 1, 6, 1, kX6_signKind),
  (yX6_keep, cX6_keep, 5, none, 0, 6, 4, kX6_keep),
  (yX7_init, cX7_init, 1, none, 2, 7, 1, kX7_init),
  (yX7_clear, cX7_clear, 1, none, 0, 7, 1, kX7_clear),
  (yX7_addArm, cX7_addArm, 1, none, 0, 7, 1, kX7_addArm),
  (yX7_startOf, cX7_startOf, 2, (some .int), 0, 7, 2, kX7_startOf),
  (yX7_addLabel, cX7_addLabel, 3, none, 0, 7, 2, kX7_addLabel),
  (yX7_packedHash, cX7_packedHash, 4, (some .int), 1, 7, 1, kX7_packedHash),
  (yX7_hasLabel, cX7_hasLabel, 3, (some .boolean), 0, 7, 2, kX7_hasLabel),
  (yX7_labelWith, cX7_labelWith, 4, (some .int), 0, 7, 2, kX7_labelWith),
  (yX7_armFor, cX7_armFor, 4, (some .int), 0, 7, 2, kX7_armFor),
  (yX7_isExhaustive, cX7_isExhaustive, 1, (some .boolean), 0, 7, 1, kX7_isExhaustive),
  (yX8_init, cX8_init, 1, none, 2, 8, 1, kX8_init),
  (yX8_type, cX8_type, 4, (some .int), 0, 8, 3, kX8_type),
  (yX8_read, cX8_read, 1, (some .int), 0, 8, 1, kX8_read),
  (yX8_place, cX8_place, 1, (some .int), 0, 8, 1, kX8_place),
  (yX8_told, cX8_told, 2, (some .int), 0, 8, 2, kX8_told),
  (yX8_label, cX8_label, 3, (some .int), 0, 8, 3, kX8_label),
  (yX8_run, cX8_run, 4, (some .int), 0, 8, 3, kX8_run),
  (yX8_runNone, cX8_runNone, 1, (some .int), 0, 8, 1, kX8_runNone),
  (yX8_traced, cX8_traced, 1, (some .int), 0, 8, 1, kX8_traced),
  (yX8_trace, cX8_trace, 2, (some .int), 0, 8, 2, kX8_trace),
  (yX8_value, cX8_value, 1, (some .int), 0, 8, 1, kX8_value),
  (yX8_form, cX8_form, 1, (some .int), 0, 8, 1, kX8_form),
  (yX8_keys, cX8_keys, 1, (some .int), 0, 8, 1, kX8_keys),
  (yX8_key, cX8_key, 2, (some .int), 0, 8, 2, kX8_key),
  (yX8_target, cX8_target, 2, (some .int), 0, 8, 2, kX8_target),
  (yX8_alike, cX8_alike, 2, (some .int), 0, 8, 2, kX8_alike),
  (yX8_hash, cX8_hash, 1, (some .int), 0, 8, 1, kX8_hash),
  (yX9_init, cX9_init, 1, none, 2, 9, 1, kX9_init),
  (yX9_type, cX9_type, 5, (some .int), 0, 9, 3, kX9_type),
  (yX9_octet, cX9_octet, 2, (some .int), 0, 9, 2, kX9_octet),
  (yX9_isSmall, cX9_isSmall, 1, (some .boolean), 1, 9, 1, kX9_isSmall),
  (yX9_isFigure, cX9_isFigure, 1, (some .boolean), 1, 9, 1, kX9_isFigure),
  (yX9_next, cX9_next, 2, none, 0, 9, 1, kX9_next),
  (yX9_nextName, cX9_nextName, 3, none, 0, 9, 1, kX9_nextName),
  (yX9_nextNumber, cX9_nextNumber, 2, none, 0, 9, 1, kX9_nextNumber),
  (yX9_nextText, cX9_nextText, 2, none, 0, 9, 1, kX9_nextText),
  (yX9_wrong, cX9_wrong, 2, none, 0, 9, 2, kX9_wrong),
  (yX9_wrongAt, cX9_wrongAt, 3, none, 0, 9, 3, kX9_wrongAt),
  (yX9_cannot, cX9_cannot, 1, none, 0, 9, 1, kX9_cannot),
  (yX9_isSign, cX9_isSign, 2, (some .boolean), 0, 9, 2, kX9_isSign),
  (yX9_isWord, cX9_isWord, 2, (some .boolean), 0, 9, 2, kX9_isWord),
  (yX9_wantsSign, cX9_wantsSign, 2, none, 0, 9, 2, kX9_wantsSign),
  (yX9_number, cX9_number, 2, (some .int), 0, 9, 1, kX9_number),
  (yX9_signed, cX9_signed, 3, (some .int), 0, 9, 1, kX9_signed),
  (yX9_readEnum, cX9_readEnum, 3, none, 0, 9, 1, kX9_readEnum),
  (yX9_constantOf, cX9_constantOf, 5, (some .int), 0, 9, 3, kX9_constantOf),
  (yX9_readHead, cX9_readHead, 2, none, 0, 9, 1, kX9_readHead),
  (yX9_isOther, cX9_isOther, 6, (some .boolean), 0, 9, 4, kX9_isOther),
  (yX9_hashOf, cX9_hashOf, 5, (some .int), 1, 9, 2, kX9_hashOf),
  (yX9_readLabel, cX9_readLabel, 8, none, 0, 9, 1, kX9_readLabel),
  (yX9_emit, cX9_emit, 4, (some .int), 0, 9, 4, kX9_emit),
  (yX9_inScope, cX9_inScope, 4, (some .int), 0, 9, 2, kX9_inScope),
  (yX9_push, cX9_push, 2, none, 0, 9, 2, kX9_push),
  (yX9_pop, cX9_pop, 1, none, 0, 9, 1, kX9_pop),
  (yX9_through, cX9_through, 5, none, 0, 9, 2, kX9_through),
  (yX9_isList, cX9_isList, 1, (some .boolean), 0, 9, 1, kX9_isList),
  (yX9_begin, cX9_begin, 1, none, 0, 9, 1, kX9_begin),
  (yX9_dead, cX9_dead, 1, none, 0, 9, 1, kX9_dead),
  (yX9_simple, cX9_simple, 3, none, 0, 9, 1, kX9_simple),
  (yX9_use, cX9_use, 2, none, 0, 9, 1, kX9_use),
  (yX9_let, cX9_let, 2, none, 0, 9, 1, kX9_let),
  (yX9_yieldStmt, cX9_yieldStmt, 1, none, 0, 9, 1, kX9_yieldStmt),
  (yX9_isSimple, cX9_isSimple, 1, (some .boolean), 0, 9, 1, kX9_isSimple),
  (yX9_stmt, cX9_stmt, 1, none, 0, 9, 1, kX9_stmt),
  (yX9_endBlock, cX9_endBlock, 3, none, 0, 9, 1, kX9_endBlock),
  (yX9_readStmts, cX9_readStmts, 3, none, 0, 9, 2, kX9_readStmts),
  (yX9_readOld, cX9_readOld, 1, none, 0, 9, 1, kX9_readOld),
  (yX9_readBody, cX9_readBody, 2, none, 0, 9, 1, kX9_readBody),
  (yX9_readArm, cX9_readArm, 2, none, 0, 9, 1, kX9_readArm),
  (yX9_read, cX9_read, 1, (some .int), 0, 9, 1, kX9_read),
  (yX9_emitEnd, cX9_emitEnd, 1, none, 0, 9, 1, kX9_emitEnd),
  (yX9_place, cX9_place, 1, (some .int), 0, 9, 1, kX9_place),
  (yX9_told, cX9_told, 2, (some .int), 0, 9, 2, kX9_told),
  (yX9_label, cX9_label, 3, (some .int), 0, 9, 3, kX9_label),
  (yX9_armFor, cX9_armFor, 3, (some .int), 0, 9, 2, kX9_armFor),
  (yX9_isTextAt, cX9_isTextAt, 4, (some .boolean), 0, 9, 2, kX9_isTextAt),
  (yX9_run, cX9_run, 7, (some .int), 0, 9, 3, kX9_run),
  (yX9_runNone, cX9_runNone, 1, (some .int), 0, 9, 1, kX9_runNone),
  (yX9_traced, cX9_traced, 1, (some .int), 0, 9, 1, kX9_traced),
  (yX9_trace, cX9_trace, 2, (some .int), 0, 9, 2, kX9_trace),
  (yX9_value, cX9_value, 1, (some .int), 0, 9, 1, kX9_value),
  (yX9_findKeys, cX9_findKeys, 4, none, 0, 9, 1, kX9_findKeys),
  (yX9_form, cX9_form, 3, (some .int), 0, 9, 1, kX9_form),
  (yX9_keys, cX9_keys, 1, (some .int), 0, 9, 1, kX9_keys),
  (yX9_key, cX9_key, 2, (some .int), 0, 9, 2, kX9_key),
  (yX9_target, cX9_target, 2, (some .int), 0, 9, 2, kX9_target),
  (yX9_alike, cX9_alike, 2, (some .int), 0, 9, 2, kX9_alike),
  (yX9_hash, cX9_hash, 3, (some .int), 0, 9, 1, kX9_hash),
  (yX1_judgeMinus, cX1_judgeMinus, 2, none, 0, 1, 2, kX1_judgeMinus)]
/-- what is known of each method -/
def m_Mok (q : mM) : Prop := Cond.code q.1 q.2.1 q.2.2.1 q.2.2.2.1 ∈ m_ws ∧ Cond.initialized q.1.cls ∈ m_ws ∧ (match q.2.2.2.2.1 with | 0 => Cond.instanceMethod q.1 ∈ m_ws ∧ Cond.selects q.1.cls q.1 q.1 ∈ m_ws | 1 => Cond.static q.1 ∈ m_ws | _ => Cond.instanceMethod q.1 ∈ m_ws ∧ q.1.name = "<init>" ∧ q.2.2.2.1 = none) ∧ (plainName q.1.cls = true ∧ q.1.cls = m_RR q.2.2.2.2.2.1 ∧ q.1.cls ≠ "java/lang/invoke/MethodHandle" ∧ q.1.cls ≠ "java/lang/invoke/VarHandle" ∧ (parseMethodDescriptor q.1.desc).map (fun d => d.parameters.length + (if q.2.2.2.2.1 = 1 then 0 else 1)) = some q.2.2.2.2.2.2.1 ∧ q.2.2.1 ≤ 45 ∧ q.2.2.2.2.1 ≤ 2 ∧ q.2.2.2.2.2.1 ≤ 9) ∧ m_okC q.2.2.2.2.2.1 q.2.1 q.2.2.2.2.2.2.2 = true
/-- bytes alike, one by one -/
def m_bl : List UInt8 → List UInt8 → Bool
  | [], [] => true
  | a :: l, b :: m => Nat.beq a.toNat b.toNat && m_bl l m
  | _, _ => false
theorem m_bl_eq : ∀ (l m : List UInt8), m_bl l m = true → l = m
  | [], [], _ => rfl
  | [], _ :: _, h => by simp [m_bl] at h
  | _ :: _, [], h => by simp [m_bl] at h
  | a :: l, b :: m, h => by
    simp only [m_bl, Bool.and_eq_true] at h
    rw [m_bl_eq l m h.2, UInt8.toNat_inj.mp (Nat.eq_of_beq_eq_true h.1)]
def m_cq (o : Option Cond) (y : MethodName) (c : ByteArray) (n : Nat) (r : Option FieldType) : Bool := match o with
  | some (.code y1 c1 n1 r1) => decide (y1 = y) && (m_bl c1.data.toList c.data.toList && (decide (n1 = n) && decide (r1 = r)))
  | _ => false
theorem m_inC {y : MethodName} {c : ByteArray} {n : Nat} {r : Option FieldType} (i : Nat) (h : m_cq lw_tbl[i]? y c n r = true) : Cond.code y c n r ∈ m_ws := by
  unfold m_cq at h
  split at h
  · rename_i y1 c1 n1 r1 hw
    simp only [Bool.and_eq_true, decide_eq_true_eq] at h
    obtain ⟨h1, h2, h3, h4⟩ := h
    have h5 : c1 = c := ByteArray.ext (Array.ext' (m_bl_eq _ _ h2))
    subst h1
    subst h3
    subst h4
    subst h5
    exact m_in i hw rfl
  · cases h
theorem m_cAX0 : Cond.initialized RX0 ∈ m_ws := m_in 87 (by decide +kernel) rfl
theorem m_cBX0 : plainName RX0 = true ∧ RX0 = m_RR 0 ∧ RX0 ≠ "java/lang/invoke/MethodHandle" ∧ RX0 ≠ "java/lang/invoke/VarHandle" := by decide +kernel
theorem m_cAX1 : Cond.initialized RX1 ∈ m_ws := m_in 88 (by decide +kernel) rfl
theorem m_cBX1 : plainName RX1 = true ∧ RX1 = m_RR 1 ∧ RX1 ≠ "java/lang/invoke/MethodHandle" ∧ RX1 ≠ "java/lang/invoke/VarHandle" := by decide +kernel
theorem m_cAX2 : Cond.initialized RX2 ∈ m_ws := m_in 80 (by decide +kernel) rfl
theorem m_cBX2 : plainName RX2 = true ∧ RX2 = m_RR 2 ∧ RX2 ≠ "java/lang/invoke/MethodHandle" ∧ RX2 ≠ "java/lang/invoke/VarHandle" := by decide +kernel
theorem m_cAX3 : Cond.initialized RX3 ∈ m_ws := m_in 91 (by decide +kernel) rfl
theorem m_cBX3 : plainName RX3 = true ∧ RX3 = m_RR 3 ∧ RX3 ≠ "java/lang/invoke/MethodHandle" ∧ RX3 ≠ "java/lang/invoke/VarHandle" := by decide +kernel
theorem m_cAX4 : Cond.initialized RX4 ∈ m_ws := m_in 89 (by decide +kernel) rfl
theorem m_cBX4 : plainName RX4 = true ∧ RX4 = m_RR 4 ∧ RX4 ≠ "java/lang/invoke/MethodHandle" ∧ RX4 ≠ "java/lang/invoke/VarHandle" := by decide +kernel
theorem m_cAX5 : Cond.initialized RX5 ∈ m_ws := m_in 90 (by decide +kernel) rfl
theorem m_cBX5 : plainName RX5 = true ∧ RX5 = m_RR 5 ∧ RX5 ≠ "java/lang/invoke/MethodHandle" ∧ RX5 ≠ "java/lang/invoke/VarHandle" := by decide +kernel
theorem m_cAX6 : Cond.initialized RX6 ∈ m_ws := m_in 81 (by decide +kernel) rfl
theorem m_cBX6 : plainName RX6 = true ∧ RX6 = m_RR 6 ∧ RX6 ≠ "java/lang/invoke/MethodHandle" ∧ RX6 ≠ "java/lang/invoke/VarHandle" := by decide +kernel
theorem m_cAX7 : Cond.initialized RX7 ∈ m_ws := m_in 86 (by decide +kernel) rfl
theorem m_cBX7 : plainName RX7 = true ∧ RX7 = m_RR 7 ∧ RX7 ≠ "java/lang/invoke/MethodHandle" ∧ RX7 ≠ "java/lang/invoke/VarHandle" := by decide +kernel
theorem m_cAX8 : Cond.initialized RX8 ∈ m_ws := m_in 79 (by decide +kernel) rfl
theorem m_cBX8 : plainName RX8 = true ∧ RX8 = m_RR 8 ∧ RX8 ≠ "java/lang/invoke/MethodHandle" ∧ RX8 ≠ "java/lang/invoke/VarHandle" := by decide +kernel
theorem m_cAX9 : Cond.initialized RX9 ∈ m_ws := m_in 92 (by decide +kernel) rfl
theorem m_cBX9 : plainName RX9 = true ∧ RX9 = m_RR 9 ∧ RX9 ≠ "java/lang/invoke/MethodHandle" ∧ RX9 ≠ "java/lang/invoke/VarHandle" := by decide +kernel
theorem m_cD0 : (parseMethodDescriptor "()V").map (fun d => d.parameters.length + (if 2 = 1 then 0 else 1)) = some 1 := by decide +kernel
theorem m_cD1 : (parseMethodDescriptor "(III)V").map (fun d => d.parameters.length + (if 0 = 1 then 0 else 1)) = some 4 := by decide +kernel
theorem m_cD2 : (parseMethodDescriptor "(I)V").map (fun d => d.parameters.length + (if 0 = 1 then 0 else 1)) = some 2 := by decide +kernel
theorem m_cD3 : (parseMethodDescriptor "(LSwitchRules$Tokens;LSwitchRules$Unit;)V").map (fun d => d.parameters.length + (if 2 = 1 then 0 else 1)) = some 3 := by decide +kernel
theorem m_cD4 : (parseMethodDescriptor "()V").map (fun d => d.parameters.length + (if 0 = 1 then 0 else 1)) = some 1 := by decide +kernel
theorem m_cD5 : (parseMethodDescriptor "()I").map (fun d => d.parameters.length + (if 0 = 1 then 0 else 1)) = some 1 := by decide +kernel
theorem m_cD6 : (parseMethodDescriptor "()J").map (fun d => d.parameters.length + (if 0 = 1 then 0 else 1)) = some 1 := by decide +kernel
theorem m_cD7 : (parseMethodDescriptor "(II)V").map (fun d => d.parameters.length + (if 0 = 1 then 0 else 1)) = some 3 := by decide +kernel
theorem m_cD8 : (parseMethodDescriptor "(J)I").map (fun d => d.parameters.length + (if 0 = 1 then 0 else 1)) = some 2 := by decide +kernel
theorem m_cD9 : (parseMethodDescriptor "(I)I").map (fun d => d.parameters.length + (if 0 = 1 then 0 else 1)) = some 2 := by decide +kernel
theorem m_cD10 : (parseMethodDescriptor "(IJ)I").map (fun d => d.parameters.length + (if 0 = 1 then 0 else 1)) = some 3 := by decide +kernel
theorem m_cD11 : (parseMethodDescriptor "(I)Z").map (fun d => d.parameters.length + (if 1 = 1 then 0 else 1)) = some 1 := by decide +kernel
theorem m_cD12 : (parseMethodDescriptor "(JI)Z").map (fun d => d.parameters.length + (if 0 = 1 then 0 else 1)) = some 3 := by decide +kernel
theorem m_cD13 : (parseMethodDescriptor "(II)J").map (fun d => d.parameters.length + (if 0 = 1 then 0 else 1)) = some 3 := by decide +kernel
theorem m_cD14 : (parseMethodDescriptor "(LSwitchRules$Code;II)I").map (fun d => d.parameters.length + (if 0 = 1 then 0 else 1)) = some 4 := by decide +kernel
theorem m_cD15 : (parseMethodDescriptor "(I)Z").map (fun d => d.parameters.length + (if 0 = 1 then 0 else 1)) = some 2 := by decide +kernel
theorem m_cD16 : (parseMethodDescriptor "()Z").map (fun d => d.parameters.length + (if 0 = 1 then 0 else 1)) = some 1 := by decide +kernel
theorem m_cD17 : (parseMethodDescriptor "(LSwitchRules$Unit;)V").map (fun d => d.parameters.length + (if 0 = 1 then 0 else 1)) = some 2 := by decide +kernel
theorem m_cD18 : (parseMethodDescriptor "(Ljava/lang/String;)J").map (fun d => d.parameters.length + (if 1 = 1 then 0 else 1)) = some 1 := by decide +kernel
theorem m_cD19 : (parseMethodDescriptor "(LSwitchRules$Octets;)V").map (fun d => d.parameters.length + (if 0 = 1 then 0 else 1)) = some 2 := by decide +kernel
theorem m_cD20 : (parseMethodDescriptor "(LSwitchRules$Octets;I)I").map (fun d => d.parameters.length + (if 1 = 1 then 0 else 1)) = some 2 := by decide +kernel
theorem m_cD21 : (parseMethodDescriptor "(LSwitchRules$Octets;II)I").map (fun d => d.parameters.length + (if 0 = 1 then 0 else 1)) = some 4 := by decide +kernel
theorem m_cD22 : (parseMethodDescriptor "(LSwitchRules$Octets;I)I").map (fun d => d.parameters.length + (if 0 = 1 then 0 else 1)) = some 3 := by decide +kernel
theorem m_cD23 : (parseMethodDescriptor "(I)I").map (fun d => d.parameters.length + (if 1 = 1 then 0 else 1)) = some 1 := by decide +kernel
theorem m_cD24 : (parseMethodDescriptor "(IIJ)V").map (fun d => d.parameters.length + (if 0 = 1 then 0 else 1)) = some 4 := by decide +kernel
theorem m_cD25 : (parseMethodDescriptor "(J)V").map (fun d => d.parameters.length + (if 0 = 1 then 0 else 1)) = some 2 := by decide +kernel
theorem m_cD26 : (parseMethodDescriptor "(J)I").map (fun d => d.parameters.length + (if 1 = 1 then 0 else 1)) = some 1 := by decide +kernel
theorem m_cD27 : (parseMethodDescriptor "(J)Z").map (fun d => d.parameters.length + (if 0 = 1 then 0 else 1)) = some 2 := by decide +kernel
theorem m_cD28 : (parseMethodDescriptor "(JI)I").map (fun d => d.parameters.length + (if 0 = 1 then 0 else 1)) = some 3 := by decide +kernel
theorem m_cD29 : (parseMethodDescriptor "(II)I").map (fun d => d.parameters.length + (if 0 = 1 then 0 else 1)) = some 3 := by decide +kernel
theorem m_cD30 : (parseMethodDescriptor "(IJI)Z").map (fun d => d.parameters.length + (if 0 = 1 then 0 else 1)) = some 4 := by decide +kernel
theorem m_cD31 : (parseMethodDescriptor "(JI)I").map (fun d => d.parameters.length + (if 1 = 1 then 0 else 1)) = some 2 := by decide +kernel
theorem m_cD32 : (parseMethodDescriptor "(III)I").map (fun d => d.parameters.length + (if 0 = 1 then 0 else 1)) = some 4 := by decide +kernel
theorem m_cD33 : (parseMethodDescriptor "(Z)V").map (fun d => d.parameters.length + (if 0 = 1 then 0 else 1)) = some 2 := by decide +kernel
theorem m_MX0_init : m_Mok (yX0_init, cX0_init, 1, none, 2, 0, 1, kX0_init) := ⟨m_inC 222 (by decide +kernel), m_cAX0, ⟨m_in 221 (by decide +kernel) rfl, rfl, rfl⟩, ⟨m_cBX0.1, m_cBX0.2.1, m_cBX0.2.2.1, m_cBX0.2.2.2, m_cD0, by decide, by decide, by decide⟩, kX0_init_ok⟩
theorem m_MX0_step : m_Mok (yX0_step, cX0_step, 4, none, 0, 0, 4, kX0_step) := ⟨m_inC 649 (by decide +kernel), m_cAX0, ⟨m_in 647 (by decide +kernel) rfl, m_in 648 (by decide +kernel) rfl⟩, ⟨m_cBX0.1, m_cBX0.2.1, m_cBX0.2.2.1, m_cBX0.2.2.2, m_cD1, by decide, by decide, by decide⟩, kX0_step_ok⟩
theorem m_MX0_leadHere : m_Mok (yX0_leadHere, cX0_leadHere, 2, none, 0, 0, 2, kX0_leadHere) := ⟨m_inC 653 (by decide +kernel), m_cAX0, ⟨m_in 651 (by decide +kernel) rfl, m_in 652 (by decide +kernel) rfl⟩, ⟨m_cBX0.1, m_cBX0.2.1, m_cBX0.2.2.1, m_cBX0.2.2.2, m_cD2, by decide, by decide, by decide⟩, kX0_leadHere_ok⟩
theorem m_MX1_init : m_Mok (yX1_init, cX1_init, 3, none, 2, 1, 3, kX1_init) := ⟨m_inC 313 (by decide +kernel), m_cAX1, ⟨m_in 312 (by decide +kernel) rfl, rfl, rfl⟩, ⟨m_cBX1.1, m_cBX1.2.1, m_cBX1.2.2.1, m_cBX1.2.2.2, m_cD3, by decide, by decide, by decide⟩, kX1_init_ok⟩
theorem m_MX1_begin : m_Mok (yX1_begin, cX1_begin, 1, none, 0, 1, 1, kX1_begin) := ⟨m_inC 514 (by decide +kernel), m_cAX1, ⟨m_in 512 (by decide +kernel) rfl, m_in 513 (by decide +kernel) rfl⟩, ⟨m_cBX1.1, m_cBX1.2.1, m_cBX1.2.2.1, m_cBX1.2.2.2, m_cD4, by decide, by decide, by decide⟩, kX1_begin_ok⟩
theorem m_MX1_kind : m_Mok (yX1_kind, cX1_kind, 1, (some .int), 0, 1, 1, kX1_kind) := ⟨m_inC 526 (by decide +kernel), m_cAX1, ⟨m_in 525 (by decide +kernel) rfl, m_in 6 (by decide +kernel) rfl⟩, ⟨m_cBX1.1, m_cBX1.2.1, m_cBX1.2.2.1, m_cBX1.2.2.2, m_cD5, by decide, by decide, by decide⟩, kX1_kind_ok⟩
theorem m_MX1_tokenValue : m_Mok (yX1_tokenValue, cX1_tokenValue, 1, (some .long), 0, 1, 1, kX1_tokenValue) := ⟨m_inC 538 (by decide +kernel), m_cAX1, ⟨m_in 537 (by decide +kernel) rfl, m_in 9 (by decide +kernel) rfl⟩, ⟨m_cBX1.1, m_cBX1.2.1, m_cBX1.2.2.1, m_cBX1.2.2.2, m_cD6, by decide, by decide, by decide⟩, kX1_tokenValue_ok⟩
theorem m_MX1_fail : m_Mok (yX1_fail, cX1_fail, 3, none, 0, 1, 3, kX1_fail) := ⟨m_inC 534 (by decide +kernel), m_cAX1, ⟨m_in 533 (by decide +kernel) rfl, m_in 8 (by decide +kernel) rfl⟩, ⟨m_cBX1.1, m_cBX1.2.1, m_cBX1.2.2.1, m_cBX1.2.2.2, m_cD7, by decide, by decide, by decide⟩, kX1_fail_ok⟩
theorem m_MX1_expect : m_Mok (yX1_expect, cX1_expect, 2, none, 0, 1, 2, kX1_expect) := ⟨m_inC 546 (by decide +kernel), m_cAX1, ⟨m_in 545 (by decide +kernel) rfl, m_in 11 (by decide +kernel) rfl⟩, ⟨m_cBX1.1, m_cBX1.2.1, m_cBX1.2.2.1, m_cBX1.2.2.2, m_cD2, by decide, by decide, by decide⟩, kX1_expect_ok⟩
theorem m_MX1_enumerations : m_Mok (yX1_enumerations, cX1_enumerations, 2, none, 0, 1, 1, kX1_enumerations) := ⟨m_inC 522 (by decide +kernel), m_cAX1, ⟨m_in 520 (by decide +kernel) rfl, m_in 521 (by decide +kernel) rfl⟩, ⟨m_cBX1.1, m_cBX1.2.1, m_cBX1.2.2.1, m_cBX1.2.2.2, m_cD4, by decide, by decide, by decide⟩, kX1_enumerations_ok⟩
theorem m_MX1_enumeration : m_Mok (yX1_enumeration, cX1_enumeration, 1, none, 0, 1, 1, kX1_enumeration) := ⟨m_inC 530 (by decide +kernel), m_cAX1, ⟨m_in 529 (by decide +kernel) rfl, m_in 7 (by decide +kernel) rfl⟩, ⟨m_cBX1.1, m_cBX1.2.1, m_cBX1.2.2.1, m_cBX1.2.2.2, m_cD4, by decide, by decide, by decide⟩, kX1_enumeration_ok⟩
theorem m_MX1_constants : m_Mok (yX1_constants, cX1_constants, 3, none, 0, 1, 2, kX1_constants) := ⟨m_inC 550 (by decide +kernel), m_cAX1, ⟨m_in 549 (by decide +kernel) rfl, m_in 12 (by decide +kernel) rfl⟩, ⟨m_cBX1.1, m_cBX1.2.1, m_cBX1.2.2.1, m_cBX1.2.2.2, m_cD2, by decide, by decide, by decide⟩, kX1_constants_ok⟩
theorem m_MX1_constant : m_Mok (yX1_constant, cX1_constant, 3, none, 0, 1, 2, kX1_constant) := ⟨m_inC 554 (by decide +kernel), m_cAX1, ⟨m_in 553 (by decide +kernel) rfl, m_in 13 (by decide +kernel) rfl⟩, ⟨m_cBX1.1, m_cBX1.2.1, m_cBX1.2.2.1, m_cBX1.2.2.2, m_cD2, by decide, by decide, by decide⟩, kX1_constant_ok⟩
theorem m_MX1_findEnumeration : m_Mok (yX1_findEnumeration, cX1_findEnumeration, 4, (some .int), 0, 1, 2, kX1_findEnumeration) := ⟨m_inC 542 (by decide +kernel), m_cAX1, ⟨m_in 541 (by decide +kernel) rfl, m_in 10 (by decide +kernel) rfl⟩, ⟨m_cBX1.1, m_cBX1.2.1, m_cBX1.2.2.1, m_cBX1.2.2.2, m_cD8, by decide, by decide, by decide⟩, kX1_findEnumeration_ok⟩
theorem m_MX1_constantCount : m_Mok (yX1_constantCount, cX1_constantCount, 2, (some .int), 0, 1, 2, kX1_constantCount) := ⟨m_inC 558 (by decide +kernel), m_cAX1, ⟨m_in 557 (by decide +kernel) rfl, m_in 14 (by decide +kernel) rfl⟩, ⟨m_cBX1.1, m_cBX1.2.1, m_cBX1.2.2.1, m_cBX1.2.2.2, m_cD9, by decide, by decide, by decide⟩, kX1_constantCount_ok⟩
theorem m_MX1_findConstant : m_Mok (yX1_findConstant, cX1_findConstant, 6, (some .int), 0, 1, 3, kX1_findConstant) := ⟨m_inC 562 (by decide +kernel), m_cAX1, ⟨m_in 561 (by decide +kernel) rfl, m_in 15 (by decide +kernel) rfl⟩, ⟨m_cBX1.1, m_cBX1.2.1, m_cBX1.2.2.1, m_cBX1.2.2.2, m_cD10, by decide, by decide, by decide⟩, kX1_findConstant_ok⟩
theorem m_MX1_selector : m_Mok (yX1_selector, cX1_selector, 1, none, 0, 1, 1, kX1_selector) := ⟨m_inC 566 (by decide +kernel), m_cAX1, ⟨m_in 564 (by decide +kernel) rfl, m_in 565 (by decide +kernel) rfl⟩, ⟨m_cBX1.1, m_cBX1.2.1, m_cBX1.2.2.1, m_cBX1.2.2.2, m_cD4, by decide, by decide, by decide⟩, kX1_selector_ok⟩
theorem m_MX1_chooseEnumeration : m_Mok (yX1_chooseEnumeration, cX1_chooseEnumeration, 1, none, 0, 1, 1, kX1_chooseEnumeration) := ⟨m_inC 570 (by decide +kernel), m_cAX1, ⟨m_in 569 (by decide +kernel) rfl, m_in 16 (by decide +kernel) rfl⟩, ⟨m_cBX1.1, m_cBX1.2.1, m_cBX1.2.2.1, m_cBX1.2.2.2, m_cD4, by decide, by decide, by decide⟩, kX1_chooseEnumeration_ok⟩
theorem m_MX1_arms : m_Mok (yX1_arms, cX1_arms, 2, none, 0, 1, 1, kX1_arms) := ⟨m_inC 574 (by decide +kernel), m_cAX1, ⟨m_in 572 (by decide +kernel) rfl, m_in 573 (by decide +kernel) rfl⟩, ⟨m_cBX1.1, m_cBX1.2.1, m_cBX1.2.2.1, m_cBX1.2.2.2, m_cD4, by decide, by decide, by decide⟩, kX1_arms_ok⟩
theorem m_MX1_arm : m_Mok (yX1_arm, cX1_arm, 4, none, 0, 1, 2, kX1_arm) := ⟨m_inC 578 (by decide +kernel), m_cAX1, ⟨m_in 577 (by decide +kernel) rfl, m_in 17 (by decide +kernel) rfl⟩, ⟨m_cBX1.1, m_cBX1.2.1, m_cBX1.2.2.1, m_cBX1.2.2.2, m_cD2, by decide, by decide, by decide⟩, kX1_arm_ok⟩
theorem m_MX1_labels : m_Mok (yX1_labels, cX1_labels, 2, none, 0, 1, 1, kX1_labels) := ⟨m_inC 586 (by decide +kernel), m_cAX1, ⟨m_in 585 (by decide +kernel) rfl, m_in 18 (by decide +kernel) rfl⟩, ⟨m_cBX1.1, m_cBX1.2.1, m_cBX1.2.2.1, m_cBX1.2.2.2, m_cD4, by decide, by decide, by decide⟩, kX1_labels_ok⟩
theorem m_MX1_oneLabel : m_Mok (yX1_oneLabel, cX1_oneLabel, 7, none, 0, 1, 1, kX1_oneLabel) := ⟨m_inC 590 (by decide +kernel), m_cAX1, ⟨m_in 589 (by decide +kernel) rfl, m_in 19 (by decide +kernel) rfl⟩, ⟨m_cBX1.1, m_cBX1.2.1, m_cBX1.2.2.1, m_cBX1.2.2.2, m_cD4, by decide, by decide, by decide⟩, kX1_oneLabel_ok⟩
theorem m_MX1_body : m_Mok (yX1_body, cX1_body, 4, none, 0, 1, 1, kX1_body) := ⟨m_inC 697 (by decide +kernel), m_cAX1, ⟨m_in 696 (by decide +kernel) rfl, m_in 34 (by decide +kernel) rfl⟩, ⟨m_cBX1.1, m_cBX1.2.1, m_cBX1.2.2.1, m_cBX1.2.2.2, m_cD4, by decide, by decide, by decide⟩, kX1_body_ok⟩
theorem m_MX1_stmts : m_Mok (yX1_stmts, cX1_stmts, 3, none, 0, 1, 2, kX1_stmts) := ⟨m_inC 614 (by decide +kernel), m_cAX1, ⟨m_in 613 (by decide +kernel) rfl, m_in 22 (by decide +kernel) rfl⟩, ⟨m_cBX1.1, m_cBX1.2.1, m_cBX1.2.2.1, m_cBX1.2.2.2, m_cD2, by decide, by decide, by decide⟩, kX1_stmts_ok⟩
theorem m_MX1_beginsStmt : m_Mok (yX1_beginsStmt, cX1_beginsStmt, 1, (some .boolean), 1, 1, 1, kX1_beginsStmt) := ⟨m_inC 617 (by decide +kernel), m_cAX1, m_in 616 (by decide +kernel) rfl, ⟨m_cBX1.1, m_cBX1.2.1, m_cBX1.2.2.1, m_cBX1.2.2.2, m_cD11, by decide, by decide, by decide⟩, kX1_beginsStmt_ok⟩
theorem m_MX1_openStmt : m_Mok (yX1_openStmt, cX1_openStmt, 3, none, 0, 1, 2, kX1_openStmt) := ⟨m_inC 625 (by decide +kernel), m_cAX1, ⟨m_in 624 (by decide +kernel) rfl, m_in 24 (by decide +kernel) rfl⟩, ⟨m_cBX1.1, m_cBX1.2.1, m_cBX1.2.2.1, m_cBX1.2.2.2, m_cD2, by decide, by decide, by decide⟩, kX1_openStmt_ok⟩
theorem m_MX1_stmt : m_Mok (yX1_stmt, cX1_stmt, 2, none, 0, 1, 2, kX1_stmt) := ⟨m_inC 621 (by decide +kernel), m_cAX1, ⟨m_in 620 (by decide +kernel) rfl, m_in 23 (by decide +kernel) rfl⟩, ⟨m_cBX1.1, m_cBX1.2.1, m_cBX1.2.2.1, m_cBX1.2.2.2, m_cD2, by decide, by decide, by decide⟩, kX1_stmt_ok⟩
theorem m_MX1_block : m_Mok (yX1_block, cX1_block, 3, none, 0, 1, 2, kX1_block) := ⟨m_inC 637 (by decide +kernel), m_cAX1, ⟨m_in 636 (by decide +kernel) rfl, m_in 25 (by decide +kernel) rfl⟩, ⟨m_cBX1.1, m_cBX1.2.1, m_cBX1.2.2.1, m_cBX1.2.2.2, m_cD2, by decide, by decide, by decide⟩, kX1_block_ok⟩
theorem m_MX1_branches : m_Mok (yX1_branches, cX1_branches, 6, none, 0, 1, 2, kX1_branches) := ⟨m_inC 645 (by decide +kernel), m_cAX1, ⟨m_in 644 (by decide +kernel) rfl, m_in 26 (by decide +kernel) rfl⟩, ⟨m_cBX1.1, m_cBX1.2.1, m_cBX1.2.2.1, m_cBX1.2.2.2, m_cD2, by decide, by decide, by decide⟩, kX1_branches_ok⟩
theorem m_MX1_let : m_Mok (yX1_let, cX1_let, 2, none, 0, 1, 1, kX1_let) := ⟨m_inC 657 (by decide +kernel), m_cAX1, ⟨m_in 656 (by decide +kernel) rfl, m_in 27 (by decide +kernel) rfl⟩, ⟨m_cBX1.1, m_cBX1.2.1, m_cBX1.2.2.1, m_cBX1.2.2.2, m_cD4, by decide, by decide, by decide⟩, kX1_let_ok⟩
theorem m_MX1_setName : m_Mok (yX1_setName, cX1_setName, 3, none, 0, 1, 3, kX1_setName) := ⟨m_inC 669 (by decide +kernel), m_cAX1, ⟨m_in 668 (by decide +kernel) rfl, m_in 29 (by decide +kernel) rfl⟩, ⟨m_cBX1.1, m_cBX1.2.1, m_cBX1.2.2.1, m_cBX1.2.2.2, m_cD7, by decide, by decide, by decide⟩, kX1_setName_ok⟩
theorem m_MX1_simple : m_Mok (yX1_simple, cX1_simple, 3, none, 0, 1, 1, kX1_simple) := ⟨m_inC 685 (by decide +kernel), m_cAX1, ⟨m_in 684 (by decide +kernel) rfl, m_in 32 (by decide +kernel) rfl⟩, ⟨m_cBX1.1, m_cBX1.2.1, m_cBX1.2.2.1, m_cBX1.2.2.2, m_cD4, by decide, by decide, by decide⟩, kX1_simple_ok⟩
theorem m_MX1_useName : m_Mok (yX1_useName, cX1_useName, 2, none, 0, 1, 1, kX1_useName) := ⟨m_inC 689 (by decide +kernel), m_cAX1, ⟨m_in 688 (by decide +kernel) rfl, m_in 33 (by decide +kernel) rfl⟩, ⟨m_cBX1.1, m_cBX1.2.1, m_cBX1.2.2.1, m_cBX1.2.2.2, m_cD4, by decide, by decide, by decide⟩, kX1_useName_ok⟩
theorem m_MX1_yieldNumber : m_Mok (yX1_yieldNumber, cX1_yieldNumber, 3, none, 0, 1, 1, kX1_yieldNumber) := ⟨m_inC 677 (by decide +kernel), m_cAX1, ⟨m_in 676 (by decide +kernel) rfl, m_in 30 (by decide +kernel) rfl⟩, ⟨m_cBX1.1, m_cBX1.2.1, m_cBX1.2.2.1, m_cBX1.2.2.2, m_cD4, by decide, by decide, by decide⟩, kX1_yieldNumber_ok⟩
theorem m_MX1_leave : m_Mok (yX1_leave, cX1_leave, 3, none, 0, 1, 3, kX1_leave) := ⟨m_inC 681 (by decide +kernel), m_cAX1, ⟨m_in 680 (by decide +kernel) rfl, m_in 31 (by decide +kernel) rfl⟩, ⟨m_cBX1.1, m_cBX1.2.1, m_cBX1.2.2.1, m_cBX1.2.2.2, m_cD7, by decide, by decide, by decide⟩, kX1_leave_ok⟩
theorem m_MX1_number : m_Mok (yX1_number, cX1_number, 2, (some .int), 0, 1, 1, kX1_number) := ⟨m_inC 665 (by decide +kernel), m_cAX1, ⟨m_in 664 (by decide +kernel) rfl, m_in 28 (by decide +kernel) rfl⟩, ⟨m_cBX1.1, m_cBX1.2.1, m_cBX1.2.2.1, m_cBX1.2.2.2, m_cD5, by decide, by decide, by decide⟩, kX1_number_ok⟩
theorem m_MX1_end : m_Mok (yX1_end, cX1_end, 1, none, 0, 1, 1, kX1_end) := ⟨m_inC 701 (by decide +kernel), m_cAX1, ⟨m_in 699 (by decide +kernel) rfl, m_in 700 (by decide +kernel) rfl⟩, ⟨m_cBX1.1, m_cBX1.2.1, m_cBX1.2.2.1, m_cBX1.2.2.2, m_cD4, by decide, by decide, by decide⟩, kX1_end_ok⟩
theorem m_MX2_init : m_Mok (yX2_init, cX2_init, 1, none, 2, 2, 1, kX2_init) := ⟨m_inC 105 (by decide +kernel), m_cAX2, ⟨m_in 104 (by decide +kernel) rfl, rfl, rfl⟩, ⟨m_cBX2.1, m_cBX2.2.1, m_cBX2.2.2.1, m_cBX2.2.2.2, m_cD0, by decide, by decide, by decide⟩, kX2_init_ok⟩
theorem m_MX2_at : m_Mok (yX2_at, cX2_at, 2, (some .int), 0, 2, 2, kX2_at) := ⟨m_inC 460 (by decide +kernel), m_cAX2, ⟨m_in 458 (by decide +kernel) rfl, m_in 459 (by decide +kernel) rfl⟩, ⟨m_cBX2.1, m_cBX2.2.1, m_cBX2.2.2.1, m_cBX2.2.2.2, m_cD9, by decide, by decide, by decide⟩, kX2_at_ok⟩
theorem m_MX2_append : m_Mok (yX2_append, cX2_append, 5, (some .boolean), 0, 2, 3, kX2_append) := ⟨m_inC 444 (by decide +kernel), m_cAX2, ⟨m_in 442 (by decide +kernel) rfl, m_in 443 (by decide +kernel) rfl⟩, ⟨m_cBX2.1, m_cBX2.2.1, m_cBX2.2.2.1, m_cBX2.2.2.2, m_cD12, by decide, by decide, by decide⟩, kX2_append_ok⟩
theorem m_MX2_packed : m_Mok (yX2_packed, cX2_packed, 6, (some .long), 0, 2, 3, kX2_packed) := ⟨m_inC 482 (by decide +kernel), m_cAX2, ⟨m_in 480 (by decide +kernel) rfl, m_in 481 (by decide +kernel) rfl⟩, ⟨m_cBX2.1, m_cBX2.2.1, m_cBX2.2.2.1, m_cBX2.2.2.2, m_cD13, by decide, by decide, by decide⟩, kX2_packed_ok⟩
theorem m_MX2_whole : m_Mok (yX2_whole, cX2_whole, 2, (some .long), 0, 2, 1, kX2_whole) := ⟨m_inC 733 (by decide +kernel), m_cAX2, ⟨m_in 731 (by decide +kernel) rfl, m_in 732 (by decide +kernel) rfl⟩, ⟨m_cBX2.1, m_cBX2.2.1, m_cBX2.2.2.1, m_cBX2.2.2.2, m_cD6, by decide, by decide, by decide⟩, kX2_whole_ok⟩
theorem m_MX2_wholeHash : m_Mok (yX2_wholeHash, cX2_wholeHash, 3, (some .int), 0, 2, 1, kX2_wholeHash) := ⟨m_inC 811 (by decide +kernel), m_cAX2, ⟨m_in 809 (by decide +kernel) rfl, m_in 810 (by decide +kernel) rfl⟩, ⟨m_cBX2.1, m_cBX2.2.1, m_cBX2.2.2.1, m_cBX2.2.2.2, m_cD5, by decide, by decide, by decide⟩, kX2_wholeHash_ok⟩
theorem m_MX3_init : m_Mok (yX3_init, cX3_init, 1, none, 2, 3, 1, kX3_init) := ⟨m_inC 396 (by decide +kernel), m_cAX3, ⟨m_in 395 (by decide +kernel) rfl, rfl, rfl⟩, ⟨m_cBX3.1, m_cBX3.2.1, m_cBX3.2.2.1, m_cBX3.2.2.2, m_cD0, by decide, by decide, by decide⟩, kX3_init_ok⟩
theorem m_MX3_forget : m_Mok (yX3_forget, cX3_forget, 1, none, 0, 3, 1, kX3_forget) := ⟨m_inC 506 (by decide +kernel), m_cAX3, ⟨m_in 504 (by decide +kernel) rfl, m_in 505 (by decide +kernel) rfl⟩, ⟨m_cBX3.1, m_cBX3.2.1, m_cBX3.2.2.1, m_cBX3.2.2.2, m_cD4, by decide, by decide, by decide⟩, kX3_forget_ok⟩
theorem m_MX3_begin : m_Mok (yX3_begin, cX3_begin, 1, none, 0, 3, 1, kX3_begin) := ⟨m_inC 510 (by decide +kernel), m_cAX3, ⟨m_in 508 (by decide +kernel) rfl, m_in 509 (by decide +kernel) rfl⟩, ⟨m_cBX3.1, m_cBX3.2.1, m_cBX3.2.2.1, m_cBX3.2.2.2, m_cD4, by decide, by decide, by decide⟩, kX3_begin_ok⟩
theorem m_MX3_go : m_Mok (yX3_go, cX3_go, 10, (some .int), 0, 3, 4, kX3_go) := ⟨m_inC 748 (by decide +kernel), m_cAX3, ⟨m_in 746 (by decide +kernel) rfl, m_in 747 (by decide +kernel) rfl⟩, ⟨m_cBX3.1, m_cBX3.2.1, m_cBX3.2.2.1, m_cBX3.2.2.2, m_cD14, by decide, by decide, by decide⟩, kX3_go_ok⟩
theorem m_MX3_isName : m_Mok (yX3_isName, cX3_isName, 1, (some .boolean), 1, 3, 1, kX3_isName) := ⟨m_inC 755 (by decide +kernel), m_cAX3, m_in 754 (by decide +kernel) rfl, ⟨m_cBX3.1, m_cBX3.2.1, m_cBX3.2.2.1, m_cBX3.2.2.2, m_cD11, by decide, by decide, by decide⟩, kX3_isName_ok⟩
theorem m_MX3_addToTrace : m_Mok (yX3_addToTrace, cX3_addToTrace, 2, none, 0, 3, 2, kX3_addToTrace) := ⟨m_inC 752 (by decide +kernel), m_cAX3, ⟨m_in 751 (by decide +kernel) rfl, m_in 36 (by decide +kernel) rfl⟩, ⟨m_cBX3.1, m_cBX3.2.1, m_cBX3.2.2.1, m_cBX3.2.2.2, m_cD2, by decide, by decide, by decide⟩, kX3_addToTrace_ok⟩
theorem m_MX4_init : m_Mok (yX4_init, cX4_init, 1, none, 2, 4, 1, kX4_init) := ⟨m_inC 319 (by decide +kernel), m_cAX4, ⟨m_in 318 (by decide +kernel) rfl, rfl, rfl⟩, ⟨m_cBX4.1, m_cBX4.2.1, m_cBX4.2.2.1, m_cBX4.2.2.2, m_cD0, by decide, by decide, by decide⟩, kX4_init_ok⟩
theorem m_MX4_find : m_Mok (yX4_find, cX4_find, 4, (some .int), 0, 4, 2, kX4_find) := ⟨m_inC 629 (by decide +kernel), m_cAX4, ⟨m_in 627 (by decide +kernel) rfl, m_in 628 (by decide +kernel) rfl⟩, ⟨m_cBX4.1, m_cBX4.2.1, m_cBX4.2.2.1, m_cBX4.2.2.2, m_cD8, by decide, by decide, by decide⟩, kX4_find_ok⟩
theorem m_MX4_add : m_Mok (yX4_add, cX4_add, 3, (some .int), 0, 4, 2, kX4_add) := ⟨m_inC 661 (by decide +kernel), m_cAX4, ⟨m_in 659 (by decide +kernel) rfl, m_in 660 (by decide +kernel) rfl⟩, ⟨m_cBX4.1, m_cBX4.2.1, m_cBX4.2.2.1, m_cBX4.2.2.2, m_cD8, by decide, by decide, by decide⟩, kX4_add_ok⟩
theorem m_MX4_shrink : m_Mok (yX4_shrink, cX4_shrink, 2, none, 0, 4, 2, kX4_shrink) := ⟨m_inC 641 (by decide +kernel), m_cAX4, ⟨m_in 639 (by decide +kernel) rfl, m_in 640 (by decide +kernel) rfl⟩, ⟨m_cBX4.1, m_cBX4.2.1, m_cBX4.2.2.1, m_cBX4.2.2.2, m_cD2, by decide, by decide, by decide⟩, kX4_shrink_ok⟩
theorem m_MX4_isSet : m_Mok (yX4_isSet, cX4_isSet, 2, (some .boolean), 0, 4, 2, kX4_isSet) := ⟨m_inC 693 (by decide +kernel), m_cAX4, ⟨m_in 691 (by decide +kernel) rfl, m_in 692 (by decide +kernel) rfl⟩, ⟨m_cBX4.1, m_cBX4.2.1, m_cBX4.2.2.1, m_cBX4.2.2.2, m_cD15, by decide, by decide, by decide⟩, kX4_isSet_ok⟩
theorem m_MX4_makeSet : m_Mok (yX4_makeSet, cX4_makeSet, 2, none, 0, 4, 2, kX4_makeSet) := ⟨m_inC 673 (by decide +kernel), m_cAX4, ⟨m_in 671 (by decide +kernel) rfl, m_in 672 (by decide +kernel) rfl⟩, ⟨m_cBX4.1, m_cBX4.2.1, m_cBX4.2.2.1, m_cBX4.2.2.2, m_cD2, by decide, by decide, by decide⟩, kX4_makeSet_ok⟩
theorem m_MX4_isReached : m_Mok (yX4_isReached, cX4_isReached, 1, (some .boolean), 0, 4, 1, kX4_isReached) := ⟨m_inC 633 (by decide +kernel), m_cAX4, ⟨m_in 631 (by decide +kernel) rfl, m_in 632 (by decide +kernel) rfl⟩, ⟨m_cBX4.1, m_cBX4.2.1, m_cBX4.2.2.1, m_cBX4.2.2.2, m_cD16, by decide, by decide, by decide⟩, kX4_isReached_ok⟩
theorem m_MX5_init : m_Mok (yX5_init, cX5_init, 1, none, 2, 5, 1, kX5_init) := ⟨m_inC 373 (by decide +kernel), m_cAX5, ⟨m_in 372 (by decide +kernel) rfl, rfl, rfl⟩, ⟨m_cBX5.1, m_cBX5.2.1, m_cBX5.2.2.1, m_cBX5.2.2.2, m_cD0, by decide, by decide, by decide⟩, kX5_init_ok⟩
theorem m_MX5_make : m_Mok (yX5_make, cX5_make, 3, none, 0, 5, 2, kX5_make) := ⟨m_inC 709 (by decide +kernel), m_cAX5, ⟨m_in 707 (by decide +kernel) rfl, m_in 708 (by decide +kernel) rfl⟩, ⟨m_cBX5.1, m_cBX5.2.1, m_cBX5.2.2.1, m_cBX5.2.2.2, m_cD17, by decide, by decide, by decide⟩, kX5_make_ok⟩
theorem m_MX5_put : m_Mok (yX5_put, cX5_put, 5, none, 0, 5, 3, kX5_put) := ⟨m_inC 713 (by decide +kernel), m_cAX5, ⟨m_in 712 (by decide +kernel) rfl, m_in 35 (by decide +kernel) rfl⟩, ⟨m_cBX5.1, m_cBX5.2.1, m_cBX5.2.2.1, m_cBX5.2.2.2, m_cD7, by decide, by decide, by decide⟩, kX5_put_ok⟩
theorem m_MX5_has : m_Mok (yX5_has, cX5_has, 2, (some .boolean), 0, 5, 2, kX5_has) := ⟨m_inC 795 (by decide +kernel), m_cAX5, ⟨m_in 793 (by decide +kernel) rfl, m_in 794 (by decide +kernel) rfl⟩, ⟨m_cBX5.1, m_cBX5.2.1, m_cBX5.2.2.1, m_cBX5.2.2.2, m_cD15, by decide, by decide, by decide⟩, kX5_has_ok⟩
theorem m_MX5_isDense : m_Mok (yX5_isDense, cX5_isDense, 3, (some .boolean), 0, 5, 1, kX5_isDense) := ⟨m_inC 779 (by decide +kernel), m_cAX5, ⟨m_in 777 (by decide +kernel) rfl, m_in 778 (by decide +kernel) rfl⟩, ⟨m_cBX5.1, m_cBX5.2.1, m_cBX5.2.2.1, m_cBX5.2.2.2, m_cD16, by decide, by decide, by decide⟩, kX5_isDense_ok⟩
theorem m_MX6_init : m_Mok (yX6_init, cX6_init, 1, none, 2, 6, 1, kX6_init) := ⟨m_inC 121 (by decide +kernel), m_cAX6, ⟨m_in 120 (by decide +kernel) rfl, rfl, rfl⟩, ⟨m_cBX6.1, m_cBX6.2.1, m_cBX6.2.2.1, m_cBX6.2.2.2, m_cD0, by decide, by decide, by decide⟩, kX6_init_ok⟩
theorem m_MX6_packedWord : m_Mok (yX6_packedWord, cX6_packedWord, 4, (some .long), 1, 6, 1, []) := ⟨m_inC 126 (by decide +kernel), m_cAX6, m_in 125 (by decide +kernel) rfl, ⟨m_cBX6.1, m_cBX6.2.1, m_cBX6.2.2.1, m_cBX6.2.2.2, m_cD18, by decide, by decide, by decide⟩, rfl⟩
theorem m_MX6_cut : m_Mok (yX6_cut, cX6_cut, 6, none, 0, 6, 2, kX6_cut) := ⟨m_inC 453 (by decide +kernel), m_cAX6, ⟨m_in 451 (by decide +kernel) rfl, m_in 452 (by decide +kernel) rfl⟩, ⟨m_cBX6.1, m_cBX6.2.1, m_cBX6.2.2.1, m_cBX6.2.2.2, m_cD19, by decide, by decide, by decide⟩, kX6_cut_ok⟩
theorem m_MX6_behindBlanks : m_Mok (yX6_behindBlanks, cX6_behindBlanks, 4, (some .int), 1, 6, 2, kX6_behindBlanks) := ⟨m_inC 456 (by decide +kernel), m_cAX6, m_in 455 (by decide +kernel) rfl, ⟨m_cBX6.1, m_cBX6.2.1, m_cBX6.2.2.1, m_cBX6.2.2.2, m_cD20, by decide, by decide, by decide⟩, kX6_behindBlanks_ok⟩
theorem m_MX6_cutOne : m_Mok (yX6_cutOne, cX6_cutOne, 5, (some .int), 0, 6, 4, kX6_cutOne) := ⟨m_inC 468 (by decide +kernel), m_cAX6, ⟨m_in 467 (by decide +kernel) rfl, m_in 1 (by decide +kernel) rfl⟩, ⟨m_cBX6.1, m_cBX6.2.1, m_cBX6.2.2.1, m_cBX6.2.2.2, m_cD21, by decide, by decide, by decide⟩, kX6_cutOne_ok⟩
theorem m_MX6_cutName : m_Mok (yX6_cutName, cX6_cutName, 6, (some .int), 0, 6, 3, kX6_cutName) := ⟨m_inC 475 (by decide +kernel), m_cAX6, ⟨m_in 474 (by decide +kernel) rfl, m_in 2 (by decide +kernel) rfl⟩, ⟨m_cBX6.1, m_cBX6.2.1, m_cBX6.2.2.1, m_cBX6.2.2.2, m_cD22, by decide, by decide, by decide⟩, kX6_cutName_ok⟩
theorem m_MX6_nameKind : m_Mok (yX6_nameKind, cX6_nameKind, 4, (some .int), 0, 6, 2, kX6_nameKind) := ⟨m_inC 487 (by decide +kernel), m_cAX6, ⟨m_in 486 (by decide +kernel) rfl, m_in 3 (by decide +kernel) rfl⟩, ⟨m_cBX6.1, m_cBX6.2.1, m_cBX6.2.2.1, m_cBX6.2.2.2, m_cD8, by decide, by decide, by decide⟩, kX6_nameKind_ok⟩
theorem m_MX6_cutNumber : m_Mok (yX6_cutNumber, cX6_cutNumber, 6, (some .int), 0, 6, 3, kX6_cutNumber) := ⟨m_inC 491 (by decide +kernel), m_cAX6, ⟨m_in 490 (by decide +kernel) rfl, m_in 4 (by decide +kernel) rfl⟩, ⟨m_cBX6.1, m_cBX6.2.1, m_cBX6.2.2.1, m_cBX6.2.2.2, m_cD22, by decide, by decide, by decide⟩, kX6_cutNumber_ok⟩
theorem m_MX6_cutText : m_Mok (yX6_cutText, cX6_cutText, 4, (some .int), 0, 6, 3, kX6_cutText) := ⟨m_inC 496 (by decide +kernel), m_cAX6, ⟨m_in 495 (by decide +kernel) rfl, m_in 5 (by decide +kernel) rfl⟩, ⟨m_cBX6.1, m_cBX6.2.1, m_cBX6.2.2.1, m_cBX6.2.2.2, m_cD22, by decide, by decide, by decide⟩, kX6_cutText_ok⟩
theorem m_MX6_isSmall : m_Mok (yX6_isSmall, cX6_isSmall, 1, (some .boolean), 1, 6, 1, kX6_isSmall) := ⟨m_inC 471 (by decide +kernel), m_cAX6, m_in 470 (by decide +kernel) rfl, ⟨m_cBX6.1, m_cBX6.2.1, m_cBX6.2.2.1, m_cBX6.2.2.2, m_cD11, by decide, by decide, by decide⟩, kX6_isSmall_ok⟩
theorem m_MX6_isFigure : m_Mok (yX6_isFigure, cX6_isFigure, 1, (some .boolean), 1, 6, 1, kX6_isFigure) := ⟨m_inC 478 (by decide +kernel), m_cAX6, m_in 477 (by decide +kernel) rfl, ⟨m_cBX6.1, m_cBX6.2.1, m_cBX6.2.2.1, m_cBX6.2.2.2, m_cD11, by decide, by decide, by decide⟩, kX6_isFigure_ok⟩
theorem m_MX6_isTextSign : m_Mok (yX6_isTextSign, cX6_isTextSign, 1, (some .boolean), 1, 6, 1, kX6_isTextSign) := ⟨m_inC 499 (by decide +kernel), m_cAX6, m_in 498 (by decide +kernel) rfl, ⟨m_cBX6.1, m_cBX6.2.1, m_cBX6.2.2.1, m_cBX6.2.2.2, m_cD11, by decide, by decide, by decide⟩, kX6_isTextSign_ok⟩
theorem m_MX6_signKind : m_Mok (yX6_signKind, cX6_signKind, 1, (some .int), 1, 6, 1, kX6_signKind) := ⟨m_inC 502 (by decide +kernel), m_cAX6, m_in 501 (by decide +kernel) rfl, ⟨m_cBX6.1, m_cBX6.2.1, m_cBX6.2.2.1, m_cBX6.2.2.2, m_cD23, by decide, by decide, by decide⟩, kX6_signKind_ok⟩
theorem m_MX6_keep : m_Mok (yX6_keep, cX6_keep, 5, none, 0, 6, 4, kX6_keep) := ⟨m_inC 464 (by decide +kernel), m_cAX6, ⟨m_in 463 (by decide +kernel) rfl, m_in 0 (by decide +kernel) rfl⟩, ⟨m_cBX6.1, m_cBX6.2.1, m_cBX6.2.2.1, m_cBX6.2.2.2, m_cD24, by decide, by decide, by decide⟩, kX6_keep_ok⟩
theorem m_MX7_init : m_Mok (yX7_init, cX7_init, 1, none, 2, 7, 1, kX7_init) := ⟨m_inC 216 (by decide +kernel), m_cAX7, ⟨m_in 215 (by decide +kernel) rfl, rfl, rfl⟩, ⟨m_cBX7.1, m_cBX7.2.1, m_cBX7.2.2.1, m_cBX7.2.2.2, m_cD0, by decide, by decide, by decide⟩, kX7_init_ok⟩
theorem m_MX7_clear : m_Mok (yX7_clear, cX7_clear, 1, none, 0, 7, 1, kX7_clear) := ⟨m_inC 518 (by decide +kernel), m_cAX7, ⟨m_in 516 (by decide +kernel) rfl, m_in 517 (by decide +kernel) rfl⟩, ⟨m_cBX7.1, m_cBX7.2.1, m_cBX7.2.2.1, m_cBX7.2.2.2, m_cD4, by decide, by decide, by decide⟩, kX7_clear_ok⟩
theorem m_MX7_addArm : m_Mok (yX7_addArm, cX7_addArm, 1, none, 0, 7, 1, kX7_addArm) := ⟨m_inC 582 (by decide +kernel), m_cAX7, ⟨m_in 580 (by decide +kernel) rfl, m_in 581 (by decide +kernel) rfl⟩, ⟨m_cBX7.1, m_cBX7.2.1, m_cBX7.2.2.1, m_cBX7.2.2.2, m_cD4, by decide, by decide, by decide⟩, kX7_addArm_ok⟩
theorem m_MX7_startOf : m_Mok (yX7_startOf, cX7_startOf, 2, (some .int), 0, 7, 2, kX7_startOf) := ⟨m_inC 744 (by decide +kernel), m_cAX7, ⟨m_in 742 (by decide +kernel) rfl, m_in 743 (by decide +kernel) rfl⟩, ⟨m_cBX7.1, m_cBX7.2.1, m_cBX7.2.2.1, m_cBX7.2.2.2, m_cD9, by decide, by decide, by decide⟩, kX7_startOf_ok⟩
theorem m_MX7_addLabel : m_Mok (yX7_addLabel, cX7_addLabel, 3, none, 0, 7, 2, kX7_addLabel) := ⟨m_inC 606 (by decide +kernel), m_cAX7, ⟨m_in 604 (by decide +kernel) rfl, m_in 605 (by decide +kernel) rfl⟩, ⟨m_cBX7.1, m_cBX7.2.1, m_cBX7.2.2.1, m_cBX7.2.2.2, m_cD25, by decide, by decide, by decide⟩, kX7_addLabel_ok⟩
theorem m_MX7_packedHash : m_Mok (yX7_packedHash, cX7_packedHash, 4, (some .int), 1, 7, 1, kX7_packedHash) := ⟨m_inC 609 (by decide +kernel), m_cAX7, m_in 608 (by decide +kernel) rfl, ⟨m_cBX7.1, m_cBX7.2.1, m_cBX7.2.2.1, m_cBX7.2.2.2, m_cD26, by decide, by decide, by decide⟩, kX7_packedHash_ok⟩
theorem m_MX7_hasLabel : m_Mok (yX7_hasLabel, cX7_hasLabel, 3, (some .boolean), 0, 7, 2, kX7_hasLabel) := ⟨m_inC 598 (by decide +kernel), m_cAX7, ⟨m_in 596 (by decide +kernel) rfl, m_in 597 (by decide +kernel) rfl⟩, ⟨m_cBX7.1, m_cBX7.2.1, m_cBX7.2.2.1, m_cBX7.2.2.2, m_cD27, by decide, by decide, by decide⟩, kX7_hasLabel_ok⟩
theorem m_MX7_labelWith : m_Mok (yX7_labelWith, cX7_labelWith, 4, (some .int), 0, 7, 2, kX7_labelWith) := ⟨m_inC 602 (by decide +kernel), m_cAX7, ⟨m_in 601 (by decide +kernel) rfl, m_in 21 (by decide +kernel) rfl⟩, ⟨m_cBX7.1, m_cBX7.2.1, m_cBX7.2.2.1, m_cBX7.2.2.2, m_cD8, by decide, by decide, by decide⟩, kX7_labelWith_ok⟩
theorem m_MX7_armFor : m_Mok (yX7_armFor, cX7_armFor, 4, (some .int), 0, 7, 2, kX7_armFor) := ⟨m_inC 739 (by decide +kernel), m_cAX7, ⟨m_in 737 (by decide +kernel) rfl, m_in 738 (by decide +kernel) rfl⟩, ⟨m_cBX7.1, m_cBX7.2.1, m_cBX7.2.2.1, m_cBX7.2.2.2, m_cD8, by decide, by decide, by decide⟩, kX7_armFor_ok⟩
theorem m_MX7_isExhaustive : m_Mok (yX7_isExhaustive, cX7_isExhaustive, 1, (some .boolean), 0, 7, 1, kX7_isExhaustive) := ⟨m_inC 705 (by decide +kernel), m_cAX7, ⟨m_in 703 (by decide +kernel) rfl, m_in 704 (by decide +kernel) rfl⟩, ⟨m_cBX7.1, m_cBX7.2.1, m_cBX7.2.2.1, m_cBX7.2.2.2, m_cD16, by decide, by decide, by decide⟩, kX7_isExhaustive_ok⟩
theorem m_MX8_init : m_Mok (yX8_init, cX8_init, 1, none, 2, 8, 1, kX8_init) := ⟨m_inC 97 (by decide +kernel), m_cAX8, ⟨m_in 96 (by decide +kernel) rfl, rfl, rfl⟩, ⟨m_cBX8.1, m_cBX8.2.1, m_cBX8.2.2.1, m_cBX8.2.2.2, m_cD0, by decide, by decide, by decide⟩, kX8_init_ok⟩
theorem m_MX8_type : m_Mok (yX8_type, cX8_type, 4, (some .int), 0, 8, 3, kX8_type) := ⟨m_inC 440 (by decide +kernel), m_cAX8, ⟨m_in 438 (by decide +kernel) rfl, m_in 439 (by decide +kernel) rfl⟩, ⟨m_cBX8.1, m_cBX8.2.1, m_cBX8.2.2.1, m_cBX8.2.2.2, m_cD28, by decide, by decide, by decide⟩, kX8_type_ok⟩
theorem m_MX8_read : m_Mok (yX8_read, cX8_read, 1, (some .int), 0, 8, 1, kX8_read) := ⟨m_inC 449 (by decide +kernel), m_cAX8, ⟨m_in 447 (by decide +kernel) rfl, m_in 448 (by decide +kernel) rfl⟩, ⟨m_cBX8.1, m_cBX8.2.1, m_cBX8.2.2.1, m_cBX8.2.2.2, m_cD5, by decide, by decide, by decide⟩, kX8_read_ok⟩
theorem m_MX8_place : m_Mok (yX8_place, cX8_place, 1, (some .int), 0, 8, 1, kX8_place) := ⟨m_inC 717 (by decide +kernel), m_cAX8, ⟨m_in 715 (by decide +kernel) rfl, m_in 716 (by decide +kernel) rfl⟩, ⟨m_cBX8.1, m_cBX8.2.1, m_cBX8.2.2.1, m_cBX8.2.2.2, m_cD5, by decide, by decide, by decide⟩, kX8_place_ok⟩
theorem m_MX8_told : m_Mok (yX8_told, cX8_told, 2, (some .int), 0, 8, 2, kX8_told) := ⟨m_inC 721 (by decide +kernel), m_cAX8, ⟨m_in 719 (by decide +kernel) rfl, m_in 720 (by decide +kernel) rfl⟩, ⟨m_cBX8.1, m_cBX8.2.1, m_cBX8.2.2.1, m_cBX8.2.2.2, m_cD9, by decide, by decide, by decide⟩, kX8_told_ok⟩
theorem m_MX8_label : m_Mok (yX8_label, cX8_label, 3, (some .int), 0, 8, 3, kX8_label) := ⟨m_inC 725 (by decide +kernel), m_cAX8, ⟨m_in 723 (by decide +kernel) rfl, m_in 724 (by decide +kernel) rfl⟩, ⟨m_cBX8.1, m_cBX8.2.1, m_cBX8.2.2.1, m_cBX8.2.2.2, m_cD29, by decide, by decide, by decide⟩, kX8_label_ok⟩
theorem m_MX8_run : m_Mok (yX8_run, cX8_run, 4, (some .int), 0, 8, 3, kX8_run) := ⟨m_inC 729 (by decide +kernel), m_cAX8, ⟨m_in 727 (by decide +kernel) rfl, m_in 728 (by decide +kernel) rfl⟩, ⟨m_cBX8.1, m_cBX8.2.1, m_cBX8.2.2.1, m_cBX8.2.2.2, m_cD29, by decide, by decide, by decide⟩, kX8_run_ok⟩
theorem m_MX8_runNone : m_Mok (yX8_runNone, cX8_runNone, 1, (some .int), 0, 8, 1, kX8_runNone) := ⟨m_inC 759 (by decide +kernel), m_cAX8, ⟨m_in 757 (by decide +kernel) rfl, m_in 758 (by decide +kernel) rfl⟩, ⟨m_cBX8.1, m_cBX8.2.1, m_cBX8.2.2.1, m_cBX8.2.2.2, m_cD5, by decide, by decide, by decide⟩, kX8_runNone_ok⟩
theorem m_MX8_traced : m_Mok (yX8_traced, cX8_traced, 1, (some .int), 0, 8, 1, kX8_traced) := ⟨m_inC 763 (by decide +kernel), m_cAX8, ⟨m_in 761 (by decide +kernel) rfl, m_in 762 (by decide +kernel) rfl⟩, ⟨m_cBX8.1, m_cBX8.2.1, m_cBX8.2.2.1, m_cBX8.2.2.2, m_cD5, by decide, by decide, by decide⟩, kX8_traced_ok⟩
theorem m_MX8_trace : m_Mok (yX8_trace, cX8_trace, 2, (some .int), 0, 8, 2, kX8_trace) := ⟨m_inC 767 (by decide +kernel), m_cAX8, ⟨m_in 765 (by decide +kernel) rfl, m_in 766 (by decide +kernel) rfl⟩, ⟨m_cBX8.1, m_cBX8.2.1, m_cBX8.2.2.1, m_cBX8.2.2.2, m_cD9, by decide, by decide, by decide⟩, kX8_trace_ok⟩
theorem m_MX8_value : m_Mok (yX8_value, cX8_value, 1, (some .int), 0, 8, 1, kX8_value) := ⟨m_inC 771 (by decide +kernel), m_cAX8, ⟨m_in 769 (by decide +kernel) rfl, m_in 770 (by decide +kernel) rfl⟩, ⟨m_cBX8.1, m_cBX8.2.1, m_cBX8.2.2.1, m_cBX8.2.2.2, m_cD5, by decide, by decide, by decide⟩, kX8_value_ok⟩
theorem m_MX8_form : m_Mok (yX8_form, cX8_form, 1, (some .int), 0, 8, 1, kX8_form) := ⟨m_inC 775 (by decide +kernel), m_cAX8, ⟨m_in 773 (by decide +kernel) rfl, m_in 774 (by decide +kernel) rfl⟩, ⟨m_cBX8.1, m_cBX8.2.1, m_cBX8.2.2.1, m_cBX8.2.2.2, m_cD5, by decide, by decide, by decide⟩, kX8_form_ok⟩
theorem m_MX8_keys : m_Mok (yX8_keys, cX8_keys, 1, (some .int), 0, 8, 1, kX8_keys) := ⟨m_inC 787 (by decide +kernel), m_cAX8, ⟨m_in 785 (by decide +kernel) rfl, m_in 786 (by decide +kernel) rfl⟩, ⟨m_cBX8.1, m_cBX8.2.1, m_cBX8.2.2.1, m_cBX8.2.2.2, m_cD5, by decide, by decide, by decide⟩, kX8_keys_ok⟩
theorem m_MX8_key : m_Mok (yX8_key, cX8_key, 2, (some .int), 0, 8, 2, kX8_key) := ⟨m_inC 791 (by decide +kernel), m_cAX8, ⟨m_in 789 (by decide +kernel) rfl, m_in 790 (by decide +kernel) rfl⟩, ⟨m_cBX8.1, m_cBX8.2.1, m_cBX8.2.2.1, m_cBX8.2.2.2, m_cD9, by decide, by decide, by decide⟩, kX8_key_ok⟩
theorem m_MX8_target : m_Mok (yX8_target, cX8_target, 2, (some .int), 0, 8, 2, kX8_target) := ⟨m_inC 799 (by decide +kernel), m_cAX8, ⟨m_in 797 (by decide +kernel) rfl, m_in 798 (by decide +kernel) rfl⟩, ⟨m_cBX8.1, m_cBX8.2.1, m_cBX8.2.2.1, m_cBX8.2.2.2, m_cD9, by decide, by decide, by decide⟩, kX8_target_ok⟩
theorem m_MX8_alike : m_Mok (yX8_alike, cX8_alike, 2, (some .int), 0, 8, 2, kX8_alike) := ⟨m_inC 803 (by decide +kernel), m_cAX8, ⟨m_in 801 (by decide +kernel) rfl, m_in 802 (by decide +kernel) rfl⟩, ⟨m_cBX8.1, m_cBX8.2.1, m_cBX8.2.2.1, m_cBX8.2.2.2, m_cD9, by decide, by decide, by decide⟩, kX8_alike_ok⟩
theorem m_MX8_hash : m_Mok (yX8_hash, cX8_hash, 1, (some .int), 0, 8, 1, kX8_hash) := ⟨m_inC 807 (by decide +kernel), m_cAX8, ⟨m_in 805 (by decide +kernel) rfl, m_in 806 (by decide +kernel) rfl⟩, ⟨m_cBX8.1, m_cBX8.2.1, m_cBX8.2.2.1, m_cBX8.2.2.2, m_cD5, by decide, by decide, by decide⟩, kX8_hash_ok⟩
theorem m_MX9_init : m_Mok (yX9_init, cX9_init, 1, none, 2, 9, 1, kX9_init) := ⟨m_inC 816 (by decide +kernel), m_cAX9, ⟨m_in 815 (by decide +kernel) rfl, rfl, rfl⟩, ⟨m_cBX9.1, m_cBX9.2.1, m_cBX9.2.2.1, m_cBX9.2.2.2, m_cD0, by decide, by decide, by decide⟩, kX9_init_ok⟩
theorem m_MX9_type : m_Mok (yX9_type, cX9_type, 5, (some .int), 0, 9, 3, kX9_type) := ⟨m_inC 1006 (by decide +kernel), m_cAX9, ⟨m_in 1004 (by decide +kernel) rfl, m_in 1005 (by decide +kernel) rfl⟩, ⟨m_cBX9.1, m_cBX9.2.1, m_cBX9.2.2.1, m_cBX9.2.2.2, m_cD28, by decide, by decide, by decide⟩, kX9_type_ok⟩
theorem m_MX9_octet : m_Mok (yX9_octet, cX9_octet, 2, (some .int), 0, 9, 2, kX9_octet) := ⟨m_inC 1018 (by decide +kernel), m_cAX9, ⟨m_in 1017 (by decide +kernel) rfl, m_in 38 (by decide +kernel) rfl⟩, ⟨m_cBX9.1, m_cBX9.2.1, m_cBX9.2.2.1, m_cBX9.2.2.2, m_cD9, by decide, by decide, by decide⟩, kX9_octet_ok⟩
theorem m_MX9_isSmall : m_Mok (yX9_isSmall, cX9_isSmall, 1, (some .boolean), 1, 9, 1, kX9_isSmall) := ⟨m_inC 1021 (by decide +kernel), m_cAX9, m_in 1020 (by decide +kernel) rfl, ⟨m_cBX9.1, m_cBX9.2.1, m_cBX9.2.2.1, m_cBX9.2.2.2, m_cD11, by decide, by decide, by decide⟩, kX9_isSmall_ok⟩
theorem m_MX9_isFigure : m_Mok (yX9_isFigure, cX9_isFigure, 1, (some .boolean), 1, 9, 1, kX9_isFigure) := ⟨m_inC 1028 (by decide +kernel), m_cAX9, m_in 1027 (by decide +kernel) rfl, ⟨m_cBX9.1, m_cBX9.2.1, m_cBX9.2.2.1, m_cBX9.2.2.2, m_cD11, by decide, by decide, by decide⟩, kX9_isFigure_ok⟩
theorem m_MX9_next : m_Mok (yX9_next, cX9_next, 2, none, 0, 9, 1, kX9_next) := ⟨m_inC 1014 (by decide +kernel), m_cAX9, ⟨m_in 1013 (by decide +kernel) rfl, m_in 37 (by decide +kernel) rfl⟩, ⟨m_cBX9.1, m_cBX9.2.1, m_cBX9.2.2.1, m_cBX9.2.2.2, m_cD4, by decide, by decide, by decide⟩, kX9_next_ok⟩
theorem m_MX9_nextName : m_Mok (yX9_nextName, cX9_nextName, 3, none, 0, 9, 1, kX9_nextName) := ⟨m_inC 1025 (by decide +kernel), m_cAX9, ⟨m_in 1024 (by decide +kernel) rfl, m_in 39 (by decide +kernel) rfl⟩, ⟨m_cBX9.1, m_cBX9.2.1, m_cBX9.2.2.1, m_cBX9.2.2.2, m_cD4, by decide, by decide, by decide⟩, kX9_nextName_ok⟩
theorem m_MX9_nextNumber : m_Mok (yX9_nextNumber, cX9_nextNumber, 2, none, 0, 9, 1, kX9_nextNumber) := ⟨m_inC 1032 (by decide +kernel), m_cAX9, ⟨m_in 1031 (by decide +kernel) rfl, m_in 40 (by decide +kernel) rfl⟩, ⟨m_cBX9.1, m_cBX9.2.1, m_cBX9.2.2.1, m_cBX9.2.2.2, m_cD4, by decide, by decide, by decide⟩, kX9_nextNumber_ok⟩
theorem m_MX9_nextText : m_Mok (yX9_nextText, cX9_nextText, 2, none, 0, 9, 1, kX9_nextText) := ⟨m_inC 1036 (by decide +kernel), m_cAX9, ⟨m_in 1035 (by decide +kernel) rfl, m_in 41 (by decide +kernel) rfl⟩, ⟨m_cBX9.1, m_cBX9.2.1, m_cBX9.2.2.1, m_cBX9.2.2.2, m_cD4, by decide, by decide, by decide⟩, kX9_nextText_ok⟩
theorem m_MX9_wrong : m_Mok (yX9_wrong, cX9_wrong, 2, none, 0, 9, 2, kX9_wrong) := ⟨m_inC 1052 (by decide +kernel), m_cAX9, ⟨m_in 1051 (by decide +kernel) rfl, m_in 45 (by decide +kernel) rfl⟩, ⟨m_cBX9.1, m_cBX9.2.1, m_cBX9.2.2.1, m_cBX9.2.2.2, m_cD2, by decide, by decide, by decide⟩, kX9_wrong_ok⟩
theorem m_MX9_wrongAt : m_Mok (yX9_wrongAt, cX9_wrongAt, 3, none, 0, 9, 3, kX9_wrongAt) := ⟨m_inC 1096 (by decide +kernel), m_cAX9, ⟨m_in 1095 (by decide +kernel) rfl, m_in 55 (by decide +kernel) rfl⟩, ⟨m_cBX9.1, m_cBX9.2.1, m_cBX9.2.2.1, m_cBX9.2.2.2, m_cD7, by decide, by decide, by decide⟩, kX9_wrongAt_ok⟩
theorem m_MX9_cannot : m_Mok (yX9_cannot, cX9_cannot, 1, none, 0, 9, 1, kX9_cannot) := ⟨m_inC 1048 (by decide +kernel), m_cAX9, ⟨m_in 1047 (by decide +kernel) rfl, m_in 44 (by decide +kernel) rfl⟩, ⟨m_cBX9.1, m_cBX9.2.1, m_cBX9.2.2.1, m_cBX9.2.2.2, m_cD4, by decide, by decide, by decide⟩, kX9_cannot_ok⟩
theorem m_MX9_isSign : m_Mok (yX9_isSign, cX9_isSign, 2, (some .boolean), 0, 9, 2, kX9_isSign) := ⟨m_inC 1060 (by decide +kernel), m_cAX9, ⟨m_in 1059 (by decide +kernel) rfl, m_in 47 (by decide +kernel) rfl⟩, ⟨m_cBX9.1, m_cBX9.2.1, m_cBX9.2.2.1, m_cBX9.2.2.2, m_cD15, by decide, by decide, by decide⟩, kX9_isSign_ok⟩
theorem m_MX9_isWord : m_Mok (yX9_isWord, cX9_isWord, 2, (some .boolean), 0, 9, 2, kX9_isWord) := ⟨m_inC 1040 (by decide +kernel), m_cAX9, ⟨m_in 1039 (by decide +kernel) rfl, m_in 42 (by decide +kernel) rfl⟩, ⟨m_cBX9.1, m_cBX9.2.1, m_cBX9.2.2.1, m_cBX9.2.2.2, m_cD15, by decide, by decide, by decide⟩, kX9_isWord_ok⟩
theorem m_MX9_wantsSign : m_Mok (yX9_wantsSign, cX9_wantsSign, 2, none, 0, 9, 2, kX9_wantsSign) := ⟨m_inC 1056 (by decide +kernel), m_cAX9, ⟨m_in 1055 (by decide +kernel) rfl, m_in 46 (by decide +kernel) rfl⟩, ⟨m_cBX9.1, m_cBX9.2.1, m_cBX9.2.2.1, m_cBX9.2.2.2, m_cD2, by decide, by decide, by decide⟩, kX9_wantsSign_ok⟩
theorem m_MX9_number : m_Mok (yX9_number, cX9_number, 2, (some .int), 0, 9, 1, kX9_number) := ⟨m_inC 1084 (by decide +kernel), m_cAX9, ⟨m_in 1083 (by decide +kernel) rfl, m_in 53 (by decide +kernel) rfl⟩, ⟨m_cBX9.1, m_cBX9.2.1, m_cBX9.2.2.1, m_cBX9.2.2.2, m_cD5, by decide, by decide, by decide⟩, kX9_number_ok⟩
theorem m_MX9_signed : m_Mok (yX9_signed, cX9_signed, 3, (some .int), 0, 9, 1, kX9_signed) := ⟨m_inC 1080 (by decide +kernel), m_cAX9, ⟨m_in 1079 (by decide +kernel) rfl, m_in 52 (by decide +kernel) rfl⟩, ⟨m_cBX9.1, m_cBX9.2.1, m_cBX9.2.2.1, m_cBX9.2.2.2, m_cD5, by decide, by decide, by decide⟩, kX9_signed_ok⟩
theorem m_MX9_readEnum : m_Mok (yX9_readEnum, cX9_readEnum, 3, none, 0, 9, 1, kX9_readEnum) := ⟨m_inC 1044 (by decide +kernel), m_cAX9, ⟨m_in 1043 (by decide +kernel) rfl, m_in 43 (by decide +kernel) rfl⟩, ⟨m_cBX9.1, m_cBX9.2.1, m_cBX9.2.2.1, m_cBX9.2.2.2, m_cD4, by decide, by decide, by decide⟩, kX9_readEnum_ok⟩
theorem m_MX9_constantOf : m_Mok (yX9_constantOf, cX9_constantOf, 5, (some .int), 0, 9, 3, kX9_constantOf) := ⟨m_inC 1064 (by decide +kernel), m_cAX9, ⟨m_in 1063 (by decide +kernel) rfl, m_in 48 (by decide +kernel) rfl⟩, ⟨m_cBX9.1, m_cBX9.2.1, m_cBX9.2.2.1, m_cBX9.2.2.2, m_cD10, by decide, by decide, by decide⟩, kX9_constantOf_ok⟩
theorem m_MX9_readHead : m_Mok (yX9_readHead, cX9_readHead, 2, none, 0, 9, 1, kX9_readHead) := ⟨m_inC 1068 (by decide +kernel), m_cAX9, ⟨m_in 1067 (by decide +kernel) rfl, m_in 49 (by decide +kernel) rfl⟩, ⟨m_cBX9.1, m_cBX9.2.1, m_cBX9.2.2.1, m_cBX9.2.2.2, m_cD4, by decide, by decide, by decide⟩, kX9_readHead_ok⟩
theorem m_MX9_isOther : m_Mok (yX9_isOther, cX9_isOther, 6, (some .boolean), 0, 9, 4, kX9_isOther) := ⟨m_inC 1092 (by decide +kernel), m_cAX9, ⟨m_in 1091 (by decide +kernel) rfl, m_in 54 (by decide +kernel) rfl⟩, ⟨m_cBX9.1, m_cBX9.2.1, m_cBX9.2.2.1, m_cBX9.2.2.2, m_cD30, by decide, by decide, by decide⟩, kX9_isOther_ok⟩
theorem m_MX9_hashOf : m_Mok (yX9_hashOf, cX9_hashOf, 5, (some .int), 1, 9, 2, kX9_hashOf) := ⟨m_inC 1087 (by decide +kernel), m_cAX9, m_in 1086 (by decide +kernel) rfl, ⟨m_cBX9.1, m_cBX9.2.1, m_cBX9.2.2.1, m_cBX9.2.2.2, m_cD31, by decide, by decide, by decide⟩, kX9_hashOf_ok⟩
theorem m_MX9_readLabel : m_Mok (yX9_readLabel, cX9_readLabel, 8, none, 0, 9, 1, kX9_readLabel) := ⟨m_inC 1076 (by decide +kernel), m_cAX9, ⟨m_in 1075 (by decide +kernel) rfl, m_in 51 (by decide +kernel) rfl⟩, ⟨m_cBX9.1, m_cBX9.2.1, m_cBX9.2.2.1, m_cBX9.2.2.2, m_cD4, by decide, by decide, by decide⟩, kX9_readLabel_ok⟩
theorem m_MX9_emit : m_Mok (yX9_emit, cX9_emit, 4, (some .int), 0, 9, 4, kX9_emit) := ⟨m_inC 1124 (by decide +kernel), m_cAX9, ⟨m_in 1123 (by decide +kernel) rfl, m_in 62 (by decide +kernel) rfl⟩, ⟨m_cBX9.1, m_cBX9.2.1, m_cBX9.2.2.1, m_cBX9.2.2.2, m_cD32, by decide, by decide, by decide⟩, kX9_emit_ok⟩
theorem m_MX9_inScope : m_Mok (yX9_inScope, cX9_inScope, 4, (some .int), 0, 9, 2, kX9_inScope) := ⟨m_inC 1144 (by decide +kernel), m_cAX9, ⟨m_in 1143 (by decide +kernel) rfl, m_in 67 (by decide +kernel) rfl⟩, ⟨m_cBX9.1, m_cBX9.2.1, m_cBX9.2.2.1, m_cBX9.2.2.2, m_cD8, by decide, by decide, by decide⟩, kX9_inScope_ok⟩
theorem m_MX9_push : m_Mok (yX9_push, cX9_push, 2, none, 0, 9, 2, kX9_push) := ⟨m_inC 1104 (by decide +kernel), m_cAX9, ⟨m_in 1103 (by decide +kernel) rfl, m_in 57 (by decide +kernel) rfl⟩, ⟨m_cBX9.1, m_cBX9.2.1, m_cBX9.2.2.1, m_cBX9.2.2.2, m_cD2, by decide, by decide, by decide⟩, kX9_push_ok⟩
theorem m_MX9_pop : m_Mok (yX9_pop, cX9_pop, 1, none, 0, 9, 1, kX9_pop) := ⟨m_inC 1116 (by decide +kernel), m_cAX9, ⟨m_in 1115 (by decide +kernel) rfl, m_in 60 (by decide +kernel) rfl⟩, ⟨m_cBX9.1, m_cBX9.2.1, m_cBX9.2.2.1, m_cBX9.2.2.2, m_cD4, by decide, by decide, by decide⟩, kX9_pop_ok⟩
theorem m_MX9_through : m_Mok (yX9_through, cX9_through, 5, none, 0, 9, 2, kX9_through) := ⟨m_inC 1120 (by decide +kernel), m_cAX9, ⟨m_in 1119 (by decide +kernel) rfl, m_in 61 (by decide +kernel) rfl⟩, ⟨m_cBX9.1, m_cBX9.2.1, m_cBX9.2.2.1, m_cBX9.2.2.2, m_cD33, by decide, by decide, by decide⟩, kX9_through_ok⟩
theorem m_MX9_isList : m_Mok (yX9_isList, cX9_isList, 1, (some .boolean), 0, 9, 1, kX9_isList) := ⟨m_inC 1136 (by decide +kernel), m_cAX9, ⟨m_in 1135 (by decide +kernel) rfl, m_in 65 (by decide +kernel) rfl⟩, ⟨m_cBX9.1, m_cBX9.2.1, m_cBX9.2.2.1, m_cBX9.2.2.2, m_cD16, by decide, by decide, by decide⟩, kX9_isList_ok⟩
theorem m_MX9_begin : m_Mok (yX9_begin, cX9_begin, 1, none, 0, 9, 1, kX9_begin) := ⟨m_inC 1132 (by decide +kernel), m_cAX9, ⟨m_in 1131 (by decide +kernel) rfl, m_in 64 (by decide +kernel) rfl⟩, ⟨m_cBX9.1, m_cBX9.2.1, m_cBX9.2.2.1, m_cBX9.2.2.2, m_cD4, by decide, by decide, by decide⟩, kX9_begin_ok⟩
theorem m_MX9_dead : m_Mok (yX9_dead, cX9_dead, 1, none, 0, 9, 1, kX9_dead) := ⟨m_inC 1152 (by decide +kernel), m_cAX9, ⟨m_in 1151 (by decide +kernel) rfl, m_in 69 (by decide +kernel) rfl⟩, ⟨m_cBX9.1, m_cBX9.2.1, m_cBX9.2.2.1, m_cBX9.2.2.2, m_cD4, by decide, by decide, by decide⟩, kX9_dead_ok⟩
theorem m_MX9_simple : m_Mok (yX9_simple, cX9_simple, 3, none, 0, 9, 1, kX9_simple) := ⟨m_inC 1160 (by decide +kernel), m_cAX9, ⟨m_in 1159 (by decide +kernel) rfl, m_in 71 (by decide +kernel) rfl⟩, ⟨m_cBX9.1, m_cBX9.2.1, m_cBX9.2.2.1, m_cBX9.2.2.2, m_cD4, by decide, by decide, by decide⟩, kX9_simple_ok⟩
theorem m_MX9_use : m_Mok (yX9_use, cX9_use, 2, none, 0, 9, 1, kX9_use) := ⟨m_inC 1164 (by decide +kernel), m_cAX9, ⟨m_in 1163 (by decide +kernel) rfl, m_in 72 (by decide +kernel) rfl⟩, ⟨m_cBX9.1, m_cBX9.2.1, m_cBX9.2.2.1, m_cBX9.2.2.2, m_cD4, by decide, by decide, by decide⟩, kX9_use_ok⟩
theorem m_MX9_let : m_Mok (yX9_let, cX9_let, 2, none, 0, 9, 1, kX9_let) := ⟨m_inC 1140 (by decide +kernel), m_cAX9, ⟨m_in 1139 (by decide +kernel) rfl, m_in 66 (by decide +kernel) rfl⟩, ⟨m_cBX9.1, m_cBX9.2.1, m_cBX9.2.2.1, m_cBX9.2.2.2, m_cD4, by decide, by decide, by decide⟩, kX9_let_ok⟩
theorem m_MX9_yieldStmt : m_Mok (yX9_yieldStmt, cX9_yieldStmt, 1, none, 0, 9, 1, kX9_yieldStmt) := ⟨m_inC 1148 (by decide +kernel), m_cAX9, ⟨m_in 1147 (by decide +kernel) rfl, m_in 68 (by decide +kernel) rfl⟩, ⟨m_cBX9.1, m_cBX9.2.1, m_cBX9.2.2.1, m_cBX9.2.2.2, m_cD4, by decide, by decide, by decide⟩, kX9_yieldStmt_ok⟩
theorem m_MX9_isSimple : m_Mok (yX9_isSimple, cX9_isSimple, 1, (some .boolean), 0, 9, 1, kX9_isSimple) := ⟨m_inC 1156 (by decide +kernel), m_cAX9, ⟨m_in 1155 (by decide +kernel) rfl, m_in 70 (by decide +kernel) rfl⟩, ⟨m_cBX9.1, m_cBX9.2.1, m_cBX9.2.2.1, m_cBX9.2.2.2, m_cD16, by decide, by decide, by decide⟩, kX9_isSimple_ok⟩
theorem m_MX9_stmt : m_Mok (yX9_stmt, cX9_stmt, 1, none, 0, 9, 1, kX9_stmt) := ⟨m_inC 1128 (by decide +kernel), m_cAX9, ⟨m_in 1127 (by decide +kernel) rfl, m_in 63 (by decide +kernel) rfl⟩, ⟨m_cBX9.1, m_cBX9.2.1, m_cBX9.2.2.1, m_cBX9.2.2.2, m_cD4, by decide, by decide, by decide⟩, kX9_stmt_ok⟩
theorem m_MX9_endBlock : m_Mok (yX9_endBlock, cX9_endBlock, 3, none, 0, 9, 1, kX9_endBlock) := ⟨m_inC 1112 (by decide +kernel), m_cAX9, ⟨m_in 1111 (by decide +kernel) rfl, m_in 59 (by decide +kernel) rfl⟩, ⟨m_cBX9.1, m_cBX9.2.1, m_cBX9.2.2.1, m_cBX9.2.2.2, m_cD4, by decide, by decide, by decide⟩, kX9_endBlock_ok⟩
theorem m_MX9_readStmts : m_Mok (yX9_readStmts, cX9_readStmts, 3, none, 0, 9, 2, kX9_readStmts) := ⟨m_inC 1108 (by decide +kernel), m_cAX9, ⟨m_in 1107 (by decide +kernel) rfl, m_in 58 (by decide +kernel) rfl⟩, ⟨m_cBX9.1, m_cBX9.2.1, m_cBX9.2.2.1, m_cBX9.2.2.2, m_cD2, by decide, by decide, by decide⟩, kX9_readStmts_ok⟩
theorem m_MX9_readOld : m_Mok (yX9_readOld, cX9_readOld, 1, none, 0, 9, 1, kX9_readOld) := ⟨m_inC 1100 (by decide +kernel), m_cAX9, ⟨m_in 1099 (by decide +kernel) rfl, m_in 56 (by decide +kernel) rfl⟩, ⟨m_cBX9.1, m_cBX9.2.1, m_cBX9.2.2.1, m_cBX9.2.2.2, m_cD4, by decide, by decide, by decide⟩, kX9_readOld_ok⟩
theorem m_MX9_readBody : m_Mok (yX9_readBody, cX9_readBody, 2, none, 0, 9, 1, kX9_readBody) := ⟨m_inC 1168 (by decide +kernel), m_cAX9, ⟨m_in 1167 (by decide +kernel) rfl, m_in 73 (by decide +kernel) rfl⟩, ⟨m_cBX9.1, m_cBX9.2.1, m_cBX9.2.2.1, m_cBX9.2.2.2, m_cD4, by decide, by decide, by decide⟩, kX9_readBody_ok⟩
theorem m_MX9_readArm : m_Mok (yX9_readArm, cX9_readArm, 2, none, 0, 9, 1, kX9_readArm) := ⟨m_inC 1072 (by decide +kernel), m_cAX9, ⟨m_in 1071 (by decide +kernel) rfl, m_in 50 (by decide +kernel) rfl⟩, ⟨m_cBX9.1, m_cBX9.2.1, m_cBX9.2.2.1, m_cBX9.2.2.2, m_cD4, by decide, by decide, by decide⟩, kX9_readArm_ok⟩
theorem m_MX9_read : m_Mok (yX9_read, cX9_read, 1, (some .int), 0, 9, 1, kX9_read) := ⟨m_inC 1010 (by decide +kernel), m_cAX9, ⟨m_in 1008 (by decide +kernel) rfl, m_in 1009 (by decide +kernel) rfl⟩, ⟨m_cBX9.1, m_cBX9.2.1, m_cBX9.2.2.1, m_cBX9.2.2.2, m_cD5, by decide, by decide, by decide⟩, kX9_read_ok⟩
theorem m_MX9_emitEnd : m_Mok (yX9_emitEnd, cX9_emitEnd, 1, none, 0, 9, 1, kX9_emitEnd) := ⟨m_inC 1172 (by decide +kernel), m_cAX9, ⟨m_in 1171 (by decide +kernel) rfl, m_in 74 (by decide +kernel) rfl⟩, ⟨m_cBX9.1, m_cBX9.2.1, m_cBX9.2.2.1, m_cBX9.2.2.2, m_cD4, by decide, by decide, by decide⟩, kX9_emitEnd_ok⟩
theorem m_MX9_place : m_Mok (yX9_place, cX9_place, 1, (some .int), 0, 9, 1, kX9_place) := ⟨m_inC 1180 (by decide +kernel), m_cAX9, ⟨m_in 1178 (by decide +kernel) rfl, m_in 1179 (by decide +kernel) rfl⟩, ⟨m_cBX9.1, m_cBX9.2.1, m_cBX9.2.2.1, m_cBX9.2.2.2, m_cD5, by decide, by decide, by decide⟩, kX9_place_ok⟩
theorem m_MX9_told : m_Mok (yX9_told, cX9_told, 2, (some .int), 0, 9, 2, kX9_told) := ⟨m_inC 1184 (by decide +kernel), m_cAX9, ⟨m_in 1182 (by decide +kernel) rfl, m_in 1183 (by decide +kernel) rfl⟩, ⟨m_cBX9.1, m_cBX9.2.1, m_cBX9.2.2.1, m_cBX9.2.2.2, m_cD9, by decide, by decide, by decide⟩, kX9_told_ok⟩
theorem m_MX9_label : m_Mok (yX9_label, cX9_label, 3, (some .int), 0, 9, 3, kX9_label) := ⟨m_inC 1188 (by decide +kernel), m_cAX9, ⟨m_in 1186 (by decide +kernel) rfl, m_in 1187 (by decide +kernel) rfl⟩, ⟨m_cBX9.1, m_cBX9.2.1, m_cBX9.2.2.1, m_cBX9.2.2.2, m_cD29, by decide, by decide, by decide⟩, kX9_label_ok⟩
theorem m_MX9_armFor : m_Mok (yX9_armFor, cX9_armFor, 3, (some .int), 0, 9, 2, kX9_armFor) := ⟨m_inC 1196 (by decide +kernel), m_cAX9, ⟨m_in 1195 (by decide +kernel) rfl, m_in 76 (by decide +kernel) rfl⟩, ⟨m_cBX9.1, m_cBX9.2.1, m_cBX9.2.2.1, m_cBX9.2.2.2, m_cD9, by decide, by decide, by decide⟩, kX9_armFor_ok⟩
theorem m_MX9_isTextAt : m_Mok (yX9_isTextAt, cX9_isTextAt, 4, (some .boolean), 0, 9, 2, kX9_isTextAt) := ⟨m_inC 1200 (by decide +kernel), m_cAX9, ⟨m_in 1199 (by decide +kernel) rfl, m_in 77 (by decide +kernel) rfl⟩, ⟨m_cBX9.1, m_cBX9.2.1, m_cBX9.2.2.1, m_cBX9.2.2.2, m_cD15, by decide, by decide, by decide⟩, kX9_isTextAt_ok⟩
theorem m_MX9_run : m_Mok (yX9_run, cX9_run, 7, (some .int), 0, 9, 3, kX9_run) := ⟨m_inC 1192 (by decide +kernel), m_cAX9, ⟨m_in 1190 (by decide +kernel) rfl, m_in 1191 (by decide +kernel) rfl⟩, ⟨m_cBX9.1, m_cBX9.2.1, m_cBX9.2.2.1, m_cBX9.2.2.2, m_cD29, by decide, by decide, by decide⟩, kX9_run_ok⟩
theorem m_MX9_runNone : m_Mok (yX9_runNone, cX9_runNone, 1, (some .int), 0, 9, 1, kX9_runNone) := ⟨m_inC 1204 (by decide +kernel), m_cAX9, ⟨m_in 1202 (by decide +kernel) rfl, m_in 1203 (by decide +kernel) rfl⟩, ⟨m_cBX9.1, m_cBX9.2.1, m_cBX9.2.2.1, m_cBX9.2.2.2, m_cD5, by decide, by decide, by decide⟩, kX9_runNone_ok⟩
theorem m_MX9_traced : m_Mok (yX9_traced, cX9_traced, 1, (some .int), 0, 9, 1, kX9_traced) := ⟨m_inC 1208 (by decide +kernel), m_cAX9, ⟨m_in 1206 (by decide +kernel) rfl, m_in 1207 (by decide +kernel) rfl⟩, ⟨m_cBX9.1, m_cBX9.2.1, m_cBX9.2.2.1, m_cBX9.2.2.2, m_cD5, by decide, by decide, by decide⟩, kX9_traced_ok⟩
theorem m_MX9_trace : m_Mok (yX9_trace, cX9_trace, 2, (some .int), 0, 9, 2, kX9_trace) := ⟨m_inC 1212 (by decide +kernel), m_cAX9, ⟨m_in 1210 (by decide +kernel) rfl, m_in 1211 (by decide +kernel) rfl⟩, ⟨m_cBX9.1, m_cBX9.2.1, m_cBX9.2.2.1, m_cBX9.2.2.2, m_cD9, by decide, by decide, by decide⟩, kX9_trace_ok⟩
theorem m_MX9_value : m_Mok (yX9_value, cX9_value, 1, (some .int), 0, 9, 1, kX9_value) := ⟨m_inC 1216 (by decide +kernel), m_cAX9, ⟨m_in 1214 (by decide +kernel) rfl, m_in 1215 (by decide +kernel) rfl⟩, ⟨m_cBX9.1, m_cBX9.2.1, m_cBX9.2.2.1, m_cBX9.2.2.2, m_cD5, by decide, by decide, by decide⟩, kX9_value_ok⟩
theorem m_MX9_findKeys : m_Mok (yX9_findKeys, cX9_findKeys, 4, none, 0, 9, 1, kX9_findKeys) := ⟨m_inC 1176 (by decide +kernel), m_cAX9, ⟨m_in 1175 (by decide +kernel) rfl, m_in 75 (by decide +kernel) rfl⟩, ⟨m_cBX9.1, m_cBX9.2.1, m_cBX9.2.2.1, m_cBX9.2.2.2, m_cD4, by decide, by decide, by decide⟩, kX9_findKeys_ok⟩
theorem m_MX9_form : m_Mok (yX9_form, cX9_form, 3, (some .int), 0, 9, 1, kX9_form) := ⟨m_inC 1220 (by decide +kernel), m_cAX9, ⟨m_in 1218 (by decide +kernel) rfl, m_in 1219 (by decide +kernel) rfl⟩, ⟨m_cBX9.1, m_cBX9.2.1, m_cBX9.2.2.1, m_cBX9.2.2.2, m_cD5, by decide, by decide, by decide⟩, kX9_form_ok⟩
theorem m_MX9_keys : m_Mok (yX9_keys, cX9_keys, 1, (some .int), 0, 9, 1, kX9_keys) := ⟨m_inC 1228 (by decide +kernel), m_cAX9, ⟨m_in 1226 (by decide +kernel) rfl, m_in 1227 (by decide +kernel) rfl⟩, ⟨m_cBX9.1, m_cBX9.2.1, m_cBX9.2.2.1, m_cBX9.2.2.2, m_cD5, by decide, by decide, by decide⟩, kX9_keys_ok⟩
theorem m_MX9_key : m_Mok (yX9_key, cX9_key, 2, (some .int), 0, 9, 2, kX9_key) := ⟨m_inC 1232 (by decide +kernel), m_cAX9, ⟨m_in 1230 (by decide +kernel) rfl, m_in 1231 (by decide +kernel) rfl⟩, ⟨m_cBX9.1, m_cBX9.2.1, m_cBX9.2.2.1, m_cBX9.2.2.2, m_cD9, by decide, by decide, by decide⟩, kX9_key_ok⟩
theorem m_MX9_target : m_Mok (yX9_target, cX9_target, 2, (some .int), 0, 9, 2, kX9_target) := ⟨m_inC 1236 (by decide +kernel), m_cAX9, ⟨m_in 1234 (by decide +kernel) rfl, m_in 1235 (by decide +kernel) rfl⟩, ⟨m_cBX9.1, m_cBX9.2.1, m_cBX9.2.2.1, m_cBX9.2.2.2, m_cD9, by decide, by decide, by decide⟩, kX9_target_ok⟩
theorem m_MX9_alike : m_Mok (yX9_alike, cX9_alike, 2, (some .int), 0, 9, 2, kX9_alike) := ⟨m_inC 1240 (by decide +kernel), m_cAX9, ⟨m_in 1238 (by decide +kernel) rfl, m_in 1239 (by decide +kernel) rfl⟩, ⟨m_cBX9.1, m_cBX9.2.1, m_cBX9.2.2.1, m_cBX9.2.2.2, m_cD9, by decide, by decide, by decide⟩, kX9_alike_ok⟩
theorem m_MX9_hash : m_Mok (yX9_hash, cX9_hash, 3, (some .int), 0, 9, 1, kX9_hash) := ⟨m_inC 1244 (by decide +kernel), m_cAX9, ⟨m_in 1242 (by decide +kernel) rfl, m_in 1243 (by decide +kernel) rfl⟩, ⟨m_cBX9.1, m_cBX9.2.1, m_cBX9.2.2.1, m_cBX9.2.2.2, m_cD5, by decide, by decide, by decide⟩, kX9_hash_ok⟩
theorem m_MX1_judgeMinus : m_Mok (yX1_judgeMinus, cX1_judgeMinus, 2, none, 0, 1, 2, kX1_judgeMinus) := ⟨m_inC 594 (by decide +kernel), m_cAX1, ⟨m_in 593 (by decide +kernel) rfl, m_in 20 (by decide +kernel) rfl⟩, ⟨m_cBX1.1, m_cBX1.2.1, m_cBX1.2.2.1, m_cBX1.2.2.2, m_cD2, by decide, by decide, by decide⟩, kX1_judgeMinus_ok⟩
theorem m_tab_ok : ∀ q ∈ m_tab, m_Mok q :=
  m_fc (m_MX0_init) (m_fc (m_MX0_step) (m_fc (m_MX0_leadHere) (m_fc (m_MX1_init) (m_fc (m_MX1_begin) (m_fc (m_MX1_kind) (m_fc (m_MX1_tokenValue) (m_fc (m_MX1_fail) (m_fc (m_MX1_expect) (m_fc (m_MX1_enumerations) (m_fc (m_MX1_enumeration) (m_fc (m_MX1_constants) (m_fc (m_MX1_constant) (m_fc (m_MX1_findEnumeration) (m_fc (m_MX1_constantCount) (m_fc (m_MX1_findConstant) (m_fc (m_MX1_selector) (m_fc (m_MX1_chooseEnumeration) (m_fc (m_MX1_arms) (m_fc (m_MX1_arm) (m_fc (m_MX1_labels) (m_fc (m_MX1_oneLabel) (m_fc (m_MX1_body) (m_fc (m_MX1_stmts) (m_fc (m_MX1_beginsStmt) (m_fc (m_MX1_openStmt) (m_fc (m_MX1_stmt) (m_fc (m_MX1_block) (m_fc (m_MX1_branches) (m_fc (m_MX1_let) (m_fc (m_MX1_setName) (m_fc (m_MX1_simple) (m_fc (m_MX1_useName) (m_fc (m_MX1_yieldNumber) (m_fc (m_MX1_leave) (m_fc (m_MX1_number) (m_fc (m_MX1_end) (m_fc (m_MX2_init) (m_fc (m_MX2_at) (m_fc (m_MX2_append) (m_fc (m_MX2_packed) (m_fc (m_MX2_whole) (m_fc (m_MX2_wholeHash) (m_fc (m_MX3_init) (m_fc (m_MX3_forget) (m_fc (m_MX3_begin) (m_fc (m_MX3_go) (m_fc (m_MX3_isName) (m_fc (m_MX3_addToTrace) (m_fc (m_MX4_init) (m_fc (m_MX4_find) (m_fc (m_MX4_add) (m_fc (m_MX4_shrink) (m_fc (m_MX4_isSet) (m_fc (m_MX4_makeSet) (m_fc (m_MX4_isReached) (m_fc (m_MX5_init) (m_fc (m_MX5_make) (m_fc (m_MX5_put) (m_fc (m_MX5_has) (m_fc (m_MX5_isDense) (m_fc (m_MX6_init) (m_fc (m_MX6_packedWord) (m_fc (m_MX6_cut) (m_fc (m_MX6_behindBlanks) (m_fc (m_MX6_cutOne) (m_fc (m_MX6_cutName) (m_fc (m_MX6_nameKind) (m_fc (m_MX6_cutNumber) (m_fc (m_MX6_cutText) (m_fc (m_MX6_isSmall) (m_fc (m_MX6_isFigure) (m_fc (m_MX6_isTextSign) (m_fc (m_MX6_signKind) (m_fc (m_MX6_keep) (m_fc (m_MX7_init) (m_fc (m_MX7_clear) (m_fc (m_MX7_addArm) (m_fc (m_MX7_startOf) (m_fc (m_MX7_addLabel) (m_fc (m_MX7_packedHash) (m_fc (m_MX7_hasLabel) (m_fc (m_MX7_labelWith) (m_fc (m_MX7_armFor) (m_fc (m_MX7_isExhaustive) (m_fc (m_MX8_init) (m_fc (m_MX8_type) (m_fc (m_MX8_read) (m_fc (m_MX8_place) (m_fc (m_MX8_told) (m_fc (m_MX8_label) (m_fc (m_MX8_run) (m_fc (m_MX8_runNone) (m_fc (m_MX8_traced) (m_fc (m_MX8_trace) (m_fc (m_MX8_value) (m_fc (m_MX8_form) (m_fc (m_MX8_keys) (m_fc (m_MX8_key) (m_fc (m_MX8_target) (m_fc (m_MX8_alike) (m_fc (m_MX8_hash) (m_fc (m_MX9_init) (m_fc (m_MX9_type) (m_fc (m_MX9_octet) (m_fc (m_MX9_isSmall) (m_fc (m_MX9_isFigure) (m_fc (m_MX9_next) (m_fc (m_MX9_nextName) (m_fc (m_MX9_nextNumber) (m_fc (m_MX9_nextText) (m_fc (m_MX9_wrong) (m_fc (m_MX9_wrongAt) (m_fc (m_MX9_cannot) (m_fc (m_MX9_isSign) (m_fc (m_MX9_isWord) (m_fc (m_MX9_wantsSign) (m_fc (m_MX9_number) (m_fc (m_MX9_signed) (m_fc (m_MX9_readEnum) (m_fc (m_MX9_constantOf) (m_fc (m_MX9_readHead) (m_fc (m_MX9_isOther) (m_fc (m_MX9_hashOf) (m_fc (m_MX9_readLabel) (m_fc (m_MX9_emit) (m_fc (m_MX9_inScope) (m_fc (m_MX9_push) (m_fc (m_MX9_pop) (m_fc (m_MX9_through) (m_fc (m_MX9_isList) (m_fc (m_MX9_begin) (m_fc (m_MX9_dead) (m_fc (m_MX9_simple) (m_fc (m_MX9_use) (m_fc (m_MX9_let) (m_fc (m_MX9_yieldStmt) (m_fc (m_MX9_isSimple) (m_fc (m_MX9_stmt) (m_fc (m_MX9_endBlock) (m_fc (m_MX9_readStmts) (m_fc (m_MX9_readOld) (m_fc (m_MX9_readBody) (m_fc (m_MX9_readArm) (m_fc (m_MX9_read) (m_fc (m_MX9_emitEnd) (m_fc (m_MX9_place) (m_fc (m_MX9_told) (m_fc (m_MX9_label) (m_fc (m_MX9_armFor) (m_fc (m_MX9_isTextAt) (m_fc (m_MX9_run) (m_fc (m_MX9_runNone) (m_fc (m_MX9_traced) (m_fc (m_MX9_trace) (m_fc (m_MX9_value) (m_fc (m_MX9_findKeys) (m_fc (m_MX9_form) (m_fc (m_MX9_keys) (m_fc (m_MX9_key) (m_fc (m_MX9_target) (m_fc (m_MX9_alike) (m_fc (m_MX9_hash) (m_fc (m_MX1_judgeMinus) (m_fn))))))))))))))))))))))))))))))))))))))))))))))))))))))))))))))))))))))))))))))))))))))))))))))))))))))))))))))))))))))))))))))))))))))))))))))))))))))))))))))))))))
