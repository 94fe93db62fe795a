-- ===== PART A: goes FIRST, ahead of the names: the tables' words, and 'selects' of the private methods out of them =====
/-- a private method of a class that the tables say can be made, by its rows of tables_1 -/
def lw_okq (q : MethodName × Nat) : Prop := (q.1.cls ≠ "java/lang/invoke/MethodHandle" ∧ q.1.cls ≠ "java/lang/invoke/VarHandle") ∧ Cond.instantiable q.1.cls q.2 ∈ tables_1 ∧ Cond.privateMethod q.1 ∈ tables_1 ∧ Cond.instanceMethod q.1 ∈ tables_1
theorem lw_p0 : lw_okq (⟨"SwitchRules$Tokens", "keep", "(IIJ)V"⟩, 5) := ⟨⟨by decide +kernel, by decide +kernel⟩, List.mem_of_getElem? (i := 40) (by decide +kernel), List.mem_of_getElem? (i := 384) (by decide +kernel), List.mem_of_getElem? (i := 385) (by decide +kernel)⟩
theorem lw_p1 : lw_okq (⟨"SwitchRules$Tokens", "cutOne", "(LSwitchRules$Octets;II)I"⟩, 5) := ⟨⟨by decide +kernel, by decide +kernel⟩, List.mem_of_getElem? (i := 40) (by decide +kernel), List.mem_of_getElem? (i := 388) (by decide +kernel), List.mem_of_getElem? (i := 389) (by decide +kernel)⟩
theorem lw_p2 : lw_okq (⟨"SwitchRules$Tokens", "cutName", "(LSwitchRules$Octets;I)I"⟩, 5) := ⟨⟨by decide +kernel, by decide +kernel⟩, List.mem_of_getElem? (i := 40) (by decide +kernel), List.mem_of_getElem? (i := 395) (by decide +kernel), List.mem_of_getElem? (i := 396) (by decide +kernel)⟩
theorem lw_p3 : lw_okq (⟨"SwitchRules$Tokens", "nameKind", "(J)I"⟩, 5) := ⟨⟨by decide +kernel, by decide +kernel⟩, List.mem_of_getElem? (i := 40) (by decide +kernel), List.mem_of_getElem? (i := 407) (by decide +kernel), List.mem_of_getElem? (i := 408) (by decide +kernel)⟩
theorem lw_p4 : lw_okq (⟨"SwitchRules$Tokens", "cutNumber", "(LSwitchRules$Octets;I)I"⟩, 5) := ⟨⟨by decide +kernel, by decide +kernel⟩, List.mem_of_getElem? (i := 40) (by decide +kernel), List.mem_of_getElem? (i := 411) (by decide +kernel), List.mem_of_getElem? (i := 412) (by decide +kernel)⟩
theorem lw_p5 : lw_okq (⟨"SwitchRules$Tokens", "cutText", "(LSwitchRules$Octets;I)I"⟩, 5) := ⟨⟨by decide +kernel, by decide +kernel⟩, List.mem_of_getElem? (i := 40) (by decide +kernel), List.mem_of_getElem? (i := 416) (by decide +kernel), List.mem_of_getElem? (i := 417) (by decide +kernel)⟩
theorem lw_p6 : lw_okq (⟨"SwitchRules$Judge", "kind", "()I"⟩, 11) := ⟨⟨by decide +kernel, by decide +kernel⟩, List.mem_of_getElem? (i := 232) (by decide +kernel), List.mem_of_getElem? (i := 446) (by decide +kernel), List.mem_of_getElem? (i := 447) (by decide +kernel)⟩
theorem lw_p7 : lw_okq (⟨"SwitchRules$Judge", "enumeration", "()V"⟩, 11) := ⟨⟨by decide +kernel, by decide +kernel⟩, List.mem_of_getElem? (i := 232) (by decide +kernel), List.mem_of_getElem? (i := 450) (by decide +kernel), List.mem_of_getElem? (i := 451) (by decide +kernel)⟩
theorem lw_p8 : lw_okq (⟨"SwitchRules$Judge", "fail", "(II)V"⟩, 11) := ⟨⟨by decide +kernel, by decide +kernel⟩, List.mem_of_getElem? (i := 232) (by decide +kernel), List.mem_of_getElem? (i := 454) (by decide +kernel), List.mem_of_getElem? (i := 455) (by decide +kernel)⟩
theorem lw_p9 : lw_okq (⟨"SwitchRules$Judge", "tokenValue", "()J"⟩, 11) := ⟨⟨by decide +kernel, by decide +kernel⟩, List.mem_of_getElem? (i := 232) (by decide +kernel), List.mem_of_getElem? (i := 458) (by decide +kernel), List.mem_of_getElem? (i := 459) (by decide +kernel)⟩
theorem lw_p10 : lw_okq (⟨"SwitchRules$Judge", "findEnumeration", "(J)I"⟩, 11) := ⟨⟨by decide +kernel, by decide +kernel⟩, List.mem_of_getElem? (i := 232) (by decide +kernel), List.mem_of_getElem? (i := 462) (by decide +kernel), List.mem_of_getElem? (i := 463) (by decide +kernel)⟩
theorem lw_p11 : lw_okq (⟨"SwitchRules$Judge", "expect", "(I)V"⟩, 11) := ⟨⟨by decide +kernel, by decide +kernel⟩, List.mem_of_getElem? (i := 232) (by decide +kernel), List.mem_of_getElem? (i := 466) (by decide +kernel), List.mem_of_getElem? (i := 467) (by decide +kernel)⟩
theorem lw_p12 : lw_okq (⟨"SwitchRules$Judge", "constants", "(I)V"⟩, 11) := ⟨⟨by decide +kernel, by decide +kernel⟩, List.mem_of_getElem? (i := 232) (by decide +kernel), List.mem_of_getElem? (i := 470) (by decide +kernel), List.mem_of_getElem? (i := 471) (by decide +kernel)⟩
theorem lw_p13 : lw_okq (⟨"SwitchRules$Judge", "constant", "(I)V"⟩, 11) := ⟨⟨by decide +kernel, by decide +kernel⟩, List.mem_of_getElem? (i := 232) (by decide +kernel), List.mem_of_getElem? (i := 474) (by decide +kernel), List.mem_of_getElem? (i := 475) (by decide +kernel)⟩
theorem lw_p14 : lw_okq (⟨"SwitchRules$Judge", "constantCount", "(I)I"⟩, 11) := ⟨⟨by decide +kernel, by decide +kernel⟩, List.mem_of_getElem? (i := 232) (by decide +kernel), List.mem_of_getElem? (i := 478) (by decide +kernel), List.mem_of_getElem? (i := 479) (by decide +kernel)⟩
theorem lw_p15 : lw_okq (⟨"SwitchRules$Judge", "findConstant", "(IJ)I"⟩, 11) := ⟨⟨by decide +kernel, by decide +kernel⟩, List.mem_of_getElem? (i := 232) (by decide +kernel), List.mem_of_getElem? (i := 482) (by decide +kernel), List.mem_of_getElem? (i := 483) (by decide +kernel)⟩
def lw_privs_1 : List (MethodName × Nat) := [(⟨"SwitchRules$Tokens", "keep", "(IIJ)V"⟩, 5), (⟨"SwitchRules$Tokens", "cutOne", "(LSwitchRules$Octets;II)I"⟩, 5), (⟨"SwitchRules$Tokens", "cutName", "(LSwitchRules$Octets;I)I"⟩, 5), (⟨"SwitchRules$Tokens", "nameKind", "(J)I"⟩, 5), (⟨"SwitchRules$Tokens", "cutNumber", "(LSwitchRules$Octets;I)I"⟩, 5), (⟨"SwitchRules$Tokens", "cutText", "(LSwitchRules$Octets;I)I"⟩, 5), (⟨"SwitchRules$Judge", "kind", "()I"⟩, 11), (⟨"SwitchRules$Judge", "enumeration", "()V"⟩, 11), (⟨"SwitchRules$Judge", "fail", "(II)V"⟩, 11), (⟨"SwitchRules$Judge", "tokenValue", "()J"⟩, 11), (⟨"SwitchRules$Judge", "findEnumeration", "(J)I"⟩, 11), (⟨"SwitchRules$Judge", "expect", "(I)V"⟩, 11), (⟨"SwitchRules$Judge", "constants", "(I)V"⟩, 11), (⟨"SwitchRules$Judge", "constant", "(I)V"⟩, 11), (⟨"SwitchRules$Judge", "constantCount", "(I)I"⟩, 11), (⟨"SwitchRules$Judge", "findConstant", "(IJ)I"⟩, 11)]
theorem lw_r1 : ∀ q ∈ lw_privs_1, lw_okq q := List.forall_mem_cons.mpr ⟨lw_p0, List.forall_mem_cons.mpr ⟨lw_p1, List.forall_mem_cons.mpr ⟨lw_p2, List.forall_mem_cons.mpr ⟨lw_p3, List.forall_mem_cons.mpr ⟨lw_p4, List.forall_mem_cons.mpr ⟨lw_p5, List.forall_mem_cons.mpr ⟨lw_p6, List.forall_mem_cons.mpr ⟨lw_p7, List.forall_mem_cons.mpr ⟨lw_p8, List.forall_mem_cons.mpr ⟨lw_p9, List.forall_mem_cons.mpr ⟨lw_p10, List.forall_mem_cons.mpr ⟨lw_p11, List.forall_mem_cons.mpr ⟨lw_p12, List.forall_mem_cons.mpr ⟨lw_p13, List.forall_mem_cons.mpr ⟨lw_p14, List.forall_mem_cons.mpr ⟨lw_p15, fun _ h => absurd h List.not_mem_nil⟩⟩⟩⟩⟩⟩⟩⟩⟩⟩⟩⟩⟩⟩⟩⟩
theorem lw_p16 : lw_okq (⟨"SwitchRules$Judge", "chooseEnumeration", "()V"⟩, 11) := ⟨⟨by decide +kernel, by decide +kernel⟩, List.mem_of_getElem? (i := 232) (by decide +kernel), List.mem_of_getElem? (i := 490) (by decide +kernel), List.mem_of_getElem? (i := 491) (by decide +kernel)⟩
theorem lw_p17 : lw_okq (⟨"SwitchRules$Judge", "arm", "(I)V"⟩, 11) := ⟨⟨by decide +kernel, by decide +kernel⟩, List.mem_of_getElem? (i := 232) (by decide +kernel), List.mem_of_getElem? (i := 498) (by decide +kernel), List.mem_of_getElem? (i := 499) (by decide +kernel)⟩
theorem lw_p18 : lw_okq (⟨"SwitchRules$Judge", "labels", "()V"⟩, 11) := ⟨⟨by decide +kernel, by decide +kernel⟩, List.mem_of_getElem? (i := 232) (by decide +kernel), List.mem_of_getElem? (i := 506) (by decide +kernel), List.mem_of_getElem? (i := 507) (by decide +kernel)⟩
theorem lw_p19 : lw_okq (⟨"SwitchRules$Judge", "oneLabel", "()V"⟩, 11) := ⟨⟨by decide +kernel, by decide +kernel⟩, List.mem_of_getElem? (i := 232) (by decide +kernel), List.mem_of_getElem? (i := 510) (by decide +kernel), List.mem_of_getElem? (i := 511) (by decide +kernel)⟩
theorem lw_p20 : lw_okq (⟨"SwitchRules$Judge", "judgeMinus", "(I)V"⟩, 11) := ⟨⟨by decide +kernel, by decide +kernel⟩, List.mem_of_getElem? (i := 232) (by decide +kernel), List.mem_of_getElem? (i := 514) (by decide +kernel), List.mem_of_getElem? (i := 515) (by decide +kernel)⟩
theorem lw_p21 : lw_okq (⟨"SwitchRules$Unit", "labelWith", "(J)I"⟩, 14) := ⟨⟨by decide +kernel, by decide +kernel⟩, List.mem_of_getElem? (i := 135) (by decide +kernel), List.mem_of_getElem? (i := 522) (by decide +kernel), List.mem_of_getElem? (i := 523) (by decide +kernel)⟩
theorem lw_p22 : lw_okq (⟨"SwitchRules$Judge", "stmts", "(I)V"⟩, 11) := ⟨⟨by decide +kernel, by decide +kernel⟩, List.mem_of_getElem? (i := 232) (by decide +kernel), List.mem_of_getElem? (i := 534) (by decide +kernel), List.mem_of_getElem? (i := 535) (by decide +kernel)⟩
theorem lw_p23 : lw_okq (⟨"SwitchRules$Judge", "stmt", "(I)V"⟩, 11) := ⟨⟨by decide +kernel, by decide +kernel⟩, List.mem_of_getElem? (i := 232) (by decide +kernel), List.mem_of_getElem? (i := 541) (by decide +kernel), List.mem_of_getElem? (i := 542) (by decide +kernel)⟩
theorem lw_p24 : lw_okq (⟨"SwitchRules$Judge", "openStmt", "(I)V"⟩, 11) := ⟨⟨by decide +kernel, by decide +kernel⟩, List.mem_of_getElem? (i := 232) (by decide +kernel), List.mem_of_getElem? (i := 545) (by decide +kernel), List.mem_of_getElem? (i := 546) (by decide +kernel)⟩
theorem lw_p25 : lw_okq (⟨"SwitchRules$Judge", "block", "(I)V"⟩, 11) := ⟨⟨by decide +kernel, by decide +kernel⟩, List.mem_of_getElem? (i := 232) (by decide +kernel), List.mem_of_getElem? (i := 557) (by decide +kernel), List.mem_of_getElem? (i := 558) (by decide +kernel)⟩
theorem lw_p26 : lw_okq (⟨"SwitchRules$Judge", "branches", "(I)V"⟩, 11) := ⟨⟨by decide +kernel, by decide +kernel⟩, List.mem_of_getElem? (i := 232) (by decide +kernel), List.mem_of_getElem? (i := 565) (by decide +kernel), List.mem_of_getElem? (i := 566) (by decide +kernel)⟩
theorem lw_p27 : lw_okq (⟨"SwitchRules$Judge", "let", "()V"⟩, 11) := ⟨⟨by decide +kernel, by decide +kernel⟩, List.mem_of_getElem? (i := 232) (by decide +kernel), List.mem_of_getElem? (i := 577) (by decide +kernel), List.mem_of_getElem? (i := 578) (by decide +kernel)⟩
theorem lw_p28 : lw_okq (⟨"SwitchRules$Judge", "number", "()I"⟩, 11) := ⟨⟨by decide +kernel, by decide +kernel⟩, List.mem_of_getElem? (i := 232) (by decide +kernel), List.mem_of_getElem? (i := 585) (by decide +kernel), List.mem_of_getElem? (i := 586) (by decide +kernel)⟩
theorem lw_p29 : lw_okq (⟨"SwitchRules$Judge", "setName", "(II)V"⟩, 11) := ⟨⟨by decide +kernel, by decide +kernel⟩, List.mem_of_getElem? (i := 232) (by decide +kernel), List.mem_of_getElem? (i := 589) (by decide +kernel), List.mem_of_getElem? (i := 590) (by decide +kernel)⟩
theorem lw_p30 : lw_okq (⟨"SwitchRules$Judge", "yieldNumber", "()V"⟩, 11) := ⟨⟨by decide +kernel, by decide +kernel⟩, List.mem_of_getElem? (i := 232) (by decide +kernel), List.mem_of_getElem? (i := 597) (by decide +kernel), List.mem_of_getElem? (i := 598) (by decide +kernel)⟩
theorem lw_p31 : lw_okq (⟨"SwitchRules$Judge", "leave", "(II)V"⟩, 11) := ⟨⟨by decide +kernel, by decide +kernel⟩, List.mem_of_getElem? (i := 232) (by decide +kernel), List.mem_of_getElem? (i := 601) (by decide +kernel), List.mem_of_getElem? (i := 602) (by decide +kernel)⟩
def lw_privs_2 : List (MethodName × Nat) := [(⟨"SwitchRules$Judge", "chooseEnumeration", "()V"⟩, 11), (⟨"SwitchRules$Judge", "arm", "(I)V"⟩, 11), (⟨"SwitchRules$Judge", "labels", "()V"⟩, 11), (⟨"SwitchRules$Judge", "oneLabel", "()V"⟩, 11), (⟨"SwitchRules$Judge", "judgeMinus", "(I)V"⟩, 11), (⟨"SwitchRules$Unit", "labelWith", "(J)I"⟩, 14), (⟨"SwitchRules$Judge", "stmts", "(I)V"⟩, 11), (⟨"SwitchRules$Judge", "stmt", "(I)V"⟩, 11), (⟨"SwitchRules$Judge", "openStmt", "(I)V"⟩, 11), (⟨"SwitchRules$Judge", "block", "(I)V"⟩, 11), (⟨"SwitchRules$Judge", "branches", "(I)V"⟩, 11), (⟨"SwitchRules$Judge", "let", "()V"⟩, 11), (⟨"SwitchRules$Judge", "number", "()I"⟩, 11), (⟨"SwitchRules$Judge", "setName", "(II)V"⟩, 11), (⟨"SwitchRules$Judge", "yieldNumber", "()V"⟩, 11), (⟨"SwitchRules$Judge", "leave", "(II)V"⟩, 11)]
theorem lw_r2 : ∀ q ∈ lw_privs_2, lw_okq q := List.forall_mem_cons.mpr ⟨lw_p16, List.forall_mem_cons.mpr ⟨lw_p17, List.forall_mem_cons.mpr ⟨lw_p18, List.forall_mem_cons.mpr ⟨lw_p19, List.forall_mem_cons.mpr ⟨lw_p20, List.forall_mem_cons.mpr ⟨lw_p21, List.forall_mem_cons.mpr ⟨lw_p22, List.forall_mem_cons.mpr ⟨lw_p23, List.forall_mem_cons.mpr ⟨lw_p24, List.forall_mem_cons.mpr ⟨lw_p25, List.forall_mem_cons.mpr ⟨lw_p26, List.forall_mem_cons.mpr ⟨lw_p27, List.forall_mem_cons.mpr ⟨lw_p28, List.forall_mem_cons.mpr ⟨lw_p29, List.forall_mem_cons.mpr ⟨lw_p30, List.forall_mem_cons.mpr ⟨lw_p31, fun _ h => absurd h List.not_mem_nil⟩⟩⟩⟩⟩⟩⟩⟩⟩⟩⟩⟩⟩⟩⟩⟩
theorem lw_p32 : lw_okq (⟨"SwitchRules$Judge", "simple", "()V"⟩, 11) := ⟨⟨by decide +kernel, by decide +kernel⟩, List.mem_of_getElem? (i := 232) (by decide +kernel), List.mem_of_getElem? (i := 605) (by decide +kernel), List.mem_of_getElem? (i := 606) (by decide +kernel)⟩
theorem lw_p33 : lw_okq (⟨"SwitchRules$Judge", "useName", "()V"⟩, 11) := ⟨⟨by decide +kernel, by decide +kernel⟩, List.mem_of_getElem? (i := 232) (by decide +kernel), List.mem_of_getElem? (i := 609) (by decide +kernel), List.mem_of_getElem? (i := 610) (by decide +kernel)⟩
theorem lw_p34 : lw_okq (⟨"SwitchRules$Judge", "body", "()V"⟩, 11) := ⟨⟨by decide +kernel, by decide +kernel⟩, List.mem_of_getElem? (i := 232) (by decide +kernel), List.mem_of_getElem? (i := 617) (by decide +kernel), List.mem_of_getElem? (i := 618) (by decide +kernel)⟩
theorem lw_p35 : lw_okq (⟨"SwitchRules$Table", "put", "(II)V"⟩, 4) := ⟨⟨by decide +kernel, by decide +kernel⟩, List.mem_of_getElem? (i := 292) (by decide +kernel), List.mem_of_getElem? (i := 633) (by decide +kernel), List.mem_of_getElem? (i := 634) (by decide +kernel)⟩
theorem lw_p36 : lw_okq (⟨"SwitchRules$Runner", "addToTrace", "(I)V"⟩, 5) := ⟨⟨by decide +kernel, by decide +kernel⟩, List.mem_of_getElem? (i := 315) (by decide +kernel), List.mem_of_getElem? (i := 672) (by decide +kernel), List.mem_of_getElem? (i := 673) (by decide +kernel)⟩
theorem lw_p37 : lw_okq (⟨"SwitchRulesModel", "next", "()V"⟩, 56) := ⟨⟨by decide +kernel, by decide +kernel⟩, List.mem_of_getElem? (i := 735) (by decide +kernel), List.mem_of_getElem? (i := 934) (by decide +kernel), List.mem_of_getElem? (i := 935) (by decide +kernel)⟩
theorem lw_p38 : lw_okq (⟨"SwitchRulesModel", "octet", "(I)I"⟩, 56) := ⟨⟨by decide +kernel, by decide +kernel⟩, List.mem_of_getElem? (i := 735) (by decide +kernel), List.mem_of_getElem? (i := 938) (by decide +kernel), List.mem_of_getElem? (i := 939) (by decide +kernel)⟩
theorem lw_p39 : lw_okq (⟨"SwitchRulesModel", "nextName", "()V"⟩, 56) := ⟨⟨by decide +kernel, by decide +kernel⟩, List.mem_of_getElem? (i := 735) (by decide +kernel), List.mem_of_getElem? (i := 945) (by decide +kernel), List.mem_of_getElem? (i := 946) (by decide +kernel)⟩
theorem lw_p40 : lw_okq (⟨"SwitchRulesModel", "nextNumber", "()V"⟩, 56) := ⟨⟨by decide +kernel, by decide +kernel⟩, List.mem_of_getElem? (i := 735) (by decide +kernel), List.mem_of_getElem? (i := 952) (by decide +kernel), List.mem_of_getElem? (i := 953) (by decide +kernel)⟩
theorem lw_p41 : lw_okq (⟨"SwitchRulesModel", "nextText", "()V"⟩, 56) := ⟨⟨by decide +kernel, by decide +kernel⟩, List.mem_of_getElem? (i := 735) (by decide +kernel), List.mem_of_getElem? (i := 956) (by decide +kernel), List.mem_of_getElem? (i := 957) (by decide +kernel)⟩
theorem lw_p42 : lw_okq (⟨"SwitchRulesModel", "isWord", "(I)Z"⟩, 56) := ⟨⟨by decide +kernel, by decide +kernel⟩, List.mem_of_getElem? (i := 735) (by decide +kernel), List.mem_of_getElem? (i := 960) (by decide +kernel), List.mem_of_getElem? (i := 961) (by decide +kernel)⟩
theorem lw_p43 : lw_okq (⟨"SwitchRulesModel", "readEnum", "()V"⟩, 56) := ⟨⟨by decide +kernel, by decide +kernel⟩, List.mem_of_getElem? (i := 735) (by decide +kernel), List.mem_of_getElem? (i := 964) (by decide +kernel), List.mem_of_getElem? (i := 965) (by decide +kernel)⟩
theorem lw_p44 : lw_okq (⟨"SwitchRulesModel", "cannot", "()V"⟩, 56) := ⟨⟨by decide +kernel, by decide +kernel⟩, List.mem_of_getElem? (i := 735) (by decide +kernel), List.mem_of_getElem? (i := 968) (by decide +kernel), List.mem_of_getElem? (i := 969) (by decide +kernel)⟩
theorem lw_p45 : lw_okq (⟨"SwitchRulesModel", "wrong", "(I)V"⟩, 56) := ⟨⟨by decide +kernel, by decide +kernel⟩, List.mem_of_getElem? (i := 735) (by decide +kernel), List.mem_of_getElem? (i := 972) (by decide +kernel), List.mem_of_getElem? (i := 973) (by decide +kernel)⟩
theorem lw_p46 : lw_okq (⟨"SwitchRulesModel", "wantsSign", "(I)V"⟩, 56) := ⟨⟨by decide +kernel, by decide +kernel⟩, List.mem_of_getElem? (i := 735) (by decide +kernel), List.mem_of_getElem? (i := 976) (by decide +kernel), List.mem_of_getElem? (i := 977) (by decide +kernel)⟩
theorem lw_p47 : lw_okq (⟨"SwitchRulesModel", "isSign", "(I)Z"⟩, 56) := ⟨⟨by decide +kernel, by decide +kernel⟩, List.mem_of_getElem? (i := 735) (by decide +kernel), List.mem_of_getElem? (i := 980) (by decide +kernel), List.mem_of_getElem? (i := 981) (by decide +kernel)⟩
def lw_privs_3 : List (MethodName × Nat) := [(⟨"SwitchRules$Judge", "simple", "()V"⟩, 11), (⟨"SwitchRules$Judge", "useName", "()V"⟩, 11), (⟨"SwitchRules$Judge", "body", "()V"⟩, 11), (⟨"SwitchRules$Table", "put", "(II)V"⟩, 4), (⟨"SwitchRules$Runner", "addToTrace", "(I)V"⟩, 5), (⟨"SwitchRulesModel", "next", "()V"⟩, 56), (⟨"SwitchRulesModel", "octet", "(I)I"⟩, 56), (⟨"SwitchRulesModel", "nextName", "()V"⟩, 56), (⟨"SwitchRulesModel", "nextNumber", "()V"⟩, 56), (⟨"SwitchRulesModel", "nextText", "()V"⟩, 56), (⟨"SwitchRulesModel", "isWord", "(I)Z"⟩, 56), (⟨"SwitchRulesModel", "readEnum", "()V"⟩, 56), (⟨"SwitchRulesModel", "cannot", "()V"⟩, 56), (⟨"SwitchRulesModel", "wrong", "(I)V"⟩, 56), (⟨"SwitchRulesModel", "wantsSign", "(I)V"⟩, 56), (⟨"SwitchRulesModel", "isSign", "(I)Z"⟩, 56)]
theorem lw_r3 : ∀ q ∈ lw_privs_3, lw_okq q := List.forall_mem_cons.mpr ⟨lw_p32, List.forall_mem_cons.mpr ⟨lw_p33, List.forall_mem_cons.mpr ⟨lw_p34, List.forall_mem_cons.mpr ⟨lw_p35, List.forall_mem_cons.mpr ⟨lw_p36, List.forall_mem_cons.mpr ⟨lw_p37, List.forall_mem_cons.mpr ⟨lw_p38, List.forall_mem_cons.mpr ⟨lw_p39, List.forall_mem_cons.mpr ⟨lw_p40, List.forall_mem_cons.mpr ⟨lw_p41, List.forall_mem_cons.mpr ⟨lw_p42, List.forall_mem_cons.mpr ⟨lw_p43, List.forall_mem_cons.mpr ⟨lw_p44, List.forall_mem_cons.mpr ⟨lw_p45, List.forall_mem_cons.mpr ⟨lw_p46, List.forall_mem_cons.mpr ⟨lw_p47, fun _ h => absurd h List.not_mem_nil⟩⟩⟩⟩⟩⟩⟩⟩⟩⟩⟩⟩⟩⟩⟩⟩
theorem lw_p48 : lw_okq (⟨"SwitchRulesModel", "constantOf", "(IJ)I"⟩, 56) := ⟨⟨by decide +kernel, by decide +kernel⟩, List.mem_of_getElem? (i := 735) (by decide +kernel), List.mem_of_getElem? (i := 984) (by decide +kernel), List.mem_of_getElem? (i := 985) (by decide +kernel)⟩
theorem lw_p49 : lw_okq (⟨"SwitchRulesModel", "readHead", "()V"⟩, 56) := ⟨⟨by decide +kernel, by decide +kernel⟩, List.mem_of_getElem? (i := 735) (by decide +kernel), List.mem_of_getElem? (i := 988) (by decide +kernel), List.mem_of_getElem? (i := 989) (by decide +kernel)⟩
theorem lw_p50 : lw_okq (⟨"SwitchRulesModel", "readArm", "()V"⟩, 56) := ⟨⟨by decide +kernel, by decide +kernel⟩, List.mem_of_getElem? (i := 735) (by decide +kernel), List.mem_of_getElem? (i := 992) (by decide +kernel), List.mem_of_getElem? (i := 993) (by decide +kernel)⟩
theorem lw_p51 : lw_okq (⟨"SwitchRulesModel", "readLabel", "()V"⟩, 56) := ⟨⟨by decide +kernel, by decide +kernel⟩, List.mem_of_getElem? (i := 735) (by decide +kernel), List.mem_of_getElem? (i := 996) (by decide +kernel), List.mem_of_getElem? (i := 997) (by decide +kernel)⟩
theorem lw_p52 : lw_okq (⟨"SwitchRulesModel", "signed", "()I"⟩, 56) := ⟨⟨by decide +kernel, by decide +kernel⟩, List.mem_of_getElem? (i := 735) (by decide +kernel), List.mem_of_getElem? (i := 1000) (by decide +kernel), List.mem_of_getElem? (i := 1001) (by decide +kernel)⟩
theorem lw_p53 : lw_okq (⟨"SwitchRulesModel", "number", "()I"⟩, 56) := ⟨⟨by decide +kernel, by decide +kernel⟩, List.mem_of_getElem? (i := 735) (by decide +kernel), List.mem_of_getElem? (i := 1004) (by decide +kernel), List.mem_of_getElem? (i := 1005) (by decide +kernel)⟩
theorem lw_p54 : lw_okq (⟨"SwitchRulesModel", "isOther", "(IJI)Z"⟩, 56) := ⟨⟨by decide +kernel, by decide +kernel⟩, List.mem_of_getElem? (i := 735) (by decide +kernel), List.mem_of_getElem? (i := 1012) (by decide +kernel), List.mem_of_getElem? (i := 1013) (by decide +kernel)⟩
theorem lw_p55 : lw_okq (⟨"SwitchRulesModel", "wrongAt", "(II)V"⟩, 56) := ⟨⟨by decide +kernel, by decide +kernel⟩, List.mem_of_getElem? (i := 735) (by decide +kernel), List.mem_of_getElem? (i := 1016) (by decide +kernel), List.mem_of_getElem? (i := 1017) (by decide +kernel)⟩
theorem lw_p56 : lw_okq (⟨"SwitchRulesModel", "readOld", "()V"⟩, 56) := ⟨⟨by decide +kernel, by decide +kernel⟩, List.mem_of_getElem? (i := 735) (by decide +kernel), List.mem_of_getElem? (i := 1020) (by decide +kernel), List.mem_of_getElem? (i := 1021) (by decide +kernel)⟩
theorem lw_p57 : lw_okq (⟨"SwitchRulesModel", "push", "(I)V"⟩, 56) := ⟨⟨by decide +kernel, by decide +kernel⟩, List.mem_of_getElem? (i := 735) (by decide +kernel), List.mem_of_getElem? (i := 1024) (by decide +kernel), List.mem_of_getElem? (i := 1025) (by decide +kernel)⟩
theorem lw_p58 : lw_okq (⟨"SwitchRulesModel", "readStmts", "(I)V"⟩, 56) := ⟨⟨by decide +kernel, by decide +kernel⟩, List.mem_of_getElem? (i := 735) (by decide +kernel), List.mem_of_getElem? (i := 1028) (by decide +kernel), List.mem_of_getElem? (i := 1029) (by decide +kernel)⟩
theorem lw_p59 : lw_okq (⟨"SwitchRulesModel", "endBlock", "()V"⟩, 56) := ⟨⟨by decide +kernel, by decide +kernel⟩, List.mem_of_getElem? (i := 735) (by decide +kernel), List.mem_of_getElem? (i := 1032) (by decide +kernel), List.mem_of_getElem? (i := 1033) (by decide +kernel)⟩
theorem lw_p60 : lw_okq (⟨"SwitchRulesModel", "pop", "()V"⟩, 56) := ⟨⟨by decide +kernel, by decide +kernel⟩, List.mem_of_getElem? (i := 735) (by decide +kernel), List.mem_of_getElem? (i := 1036) (by decide +kernel), List.mem_of_getElem? (i := 1037) (by decide +kernel)⟩
theorem lw_p61 : lw_okq (⟨"SwitchRulesModel", "through", "(Z)V"⟩, 56) := ⟨⟨by decide +kernel, by decide +kernel⟩, List.mem_of_getElem? (i := 735) (by decide +kernel), List.mem_of_getElem? (i := 1040) (by decide +kernel), List.mem_of_getElem? (i := 1041) (by decide +kernel)⟩
theorem lw_p62 : lw_okq (⟨"SwitchRulesModel", "emit", "(III)I"⟩, 56) := ⟨⟨by decide +kernel, by decide +kernel⟩, List.mem_of_getElem? (i := 735) (by decide +kernel), List.mem_of_getElem? (i := 1044) (by decide +kernel), List.mem_of_getElem? (i := 1045) (by decide +kernel)⟩
theorem lw_p63 : lw_okq (⟨"SwitchRulesModel", "stmt", "()V"⟩, 56) := ⟨⟨by decide +kernel, by decide +kernel⟩, List.mem_of_getElem? (i := 735) (by decide +kernel), List.mem_of_getElem? (i := 1048) (by decide +kernel), List.mem_of_getElem? (i := 1049) (by decide +kernel)⟩
def lw_privs_4 : List (MethodName × Nat) := [(⟨"SwitchRulesModel", "constantOf", "(IJ)I"⟩, 56), (⟨"SwitchRulesModel", "readHead", "()V"⟩, 56), (⟨"SwitchRulesModel", "readArm", "()V"⟩, 56), (⟨"SwitchRulesModel", "readLabel", "()V"⟩, 56), (⟨"SwitchRulesModel", "signed", "()I"⟩, 56), (⟨"SwitchRulesModel", "number", "()I"⟩, 56), (⟨"SwitchRulesModel", "isOther", "(IJI)Z"⟩, 56), (⟨"SwitchRulesModel", "wrongAt", "(II)V"⟩, 56), (⟨"SwitchRulesModel", "readOld", "()V"⟩, 56), (⟨"SwitchRulesModel", "push", "(I)V"⟩, 56), (⟨"SwitchRulesModel", "readStmts", "(I)V"⟩, 56), (⟨"SwitchRulesModel", "endBlock", "()V"⟩, 56), (⟨"SwitchRulesModel", "pop", "()V"⟩, 56), (⟨"SwitchRulesModel", "through", "(Z)V"⟩, 56), (⟨"SwitchRulesModel", "emit", "(III)I"⟩, 56), (⟨"SwitchRulesModel", "stmt", "()V"⟩, 56)]
theorem lw_r4 : ∀ q ∈ lw_privs_4, lw_okq q := List.forall_mem_cons.mpr ⟨lw_p48, List.forall_mem_cons.mpr ⟨lw_p49, List.forall_mem_cons.mpr ⟨lw_p50, List.forall_mem_cons.mpr ⟨lw_p51, List.forall_mem_cons.mpr ⟨lw_p52, List.forall_mem_cons.mpr ⟨lw_p53, List.forall_mem_cons.mpr ⟨lw_p54, List.forall_mem_cons.mpr ⟨lw_p55, List.forall_mem_cons.mpr ⟨lw_p56, List.forall_mem_cons.mpr ⟨lw_p57, List.forall_mem_cons.mpr ⟨lw_p58, List.forall_mem_cons.mpr ⟨lw_p59, List.forall_mem_cons.mpr ⟨lw_p60, List.forall_mem_cons.mpr ⟨lw_p61, List.forall_mem_cons.mpr ⟨lw_p62, List.forall_mem_cons.mpr ⟨lw_p63, fun _ h => absurd h List.not_mem_nil⟩⟩⟩⟩⟩⟩⟩⟩⟩⟩⟩⟩⟩⟩⟩⟩
theorem lw_p64 : lw_okq (⟨"SwitchRulesModel", "begin", "()V"⟩, 56) := ⟨⟨by decide +kernel, by decide +kernel⟩, List.mem_of_getElem? (i := 735) (by decide +kernel), List.mem_of_getElem? (i := 1052) (by decide +kernel), List.mem_of_getElem? (i := 1053) (by decide +kernel)⟩
theorem lw_p65 : lw_okq (⟨"SwitchRulesModel", "isList", "()Z"⟩, 56) := ⟨⟨by decide +kernel, by decide +kernel⟩, List.mem_of_getElem? (i := 735) (by decide +kernel), List.mem_of_getElem? (i := 1056) (by decide +kernel), List.mem_of_getElem? (i := 1057) (by decide +kernel)⟩
theorem lw_p66 : lw_okq (⟨"SwitchRulesModel", "let", "()V"⟩, 56) := ⟨⟨by decide +kernel, by decide +kernel⟩, List.mem_of_getElem? (i := 735) (by decide +kernel), List.mem_of_getElem? (i := 1060) (by decide +kernel), List.mem_of_getElem? (i := 1061) (by decide +kernel)⟩
theorem lw_p67 : lw_okq (⟨"SwitchRulesModel", "inScope", "(J)I"⟩, 56) := ⟨⟨by decide +kernel, by decide +kernel⟩, List.mem_of_getElem? (i := 735) (by decide +kernel), List.mem_of_getElem? (i := 1064) (by decide +kernel), List.mem_of_getElem? (i := 1065) (by decide +kernel)⟩
theorem lw_p68 : lw_okq (⟨"SwitchRulesModel", "yieldStmt", "()V"⟩, 56) := ⟨⟨by decide +kernel, by decide +kernel⟩, List.mem_of_getElem? (i := 735) (by decide +kernel), List.mem_of_getElem? (i := 1068) (by decide +kernel), List.mem_of_getElem? (i := 1069) (by decide +kernel)⟩
theorem lw_p69 : lw_okq (⟨"SwitchRulesModel", "dead", "()V"⟩, 56) := ⟨⟨by decide +kernel, by decide +kernel⟩, List.mem_of_getElem? (i := 735) (by decide +kernel), List.mem_of_getElem? (i := 1072) (by decide +kernel), List.mem_of_getElem? (i := 1073) (by decide +kernel)⟩
theorem lw_p70 : lw_okq (⟨"SwitchRulesModel", "isSimple", "()Z"⟩, 56) := ⟨⟨by decide +kernel, by decide +kernel⟩, List.mem_of_getElem? (i := 735) (by decide +kernel), List.mem_of_getElem? (i := 1076) (by decide +kernel), List.mem_of_getElem? (i := 1077) (by decide +kernel)⟩
theorem lw_p71 : lw_okq (⟨"SwitchRulesModel", "simple", "()V"⟩, 56) := ⟨⟨by decide +kernel, by decide +kernel⟩, List.mem_of_getElem? (i := 735) (by decide +kernel), List.mem_of_getElem? (i := 1080) (by decide +kernel), List.mem_of_getElem? (i := 1081) (by decide +kernel)⟩
theorem lw_p72 : lw_okq (⟨"SwitchRulesModel", "use", "()V"⟩, 56) := ⟨⟨by decide +kernel, by decide +kernel⟩, List.mem_of_getElem? (i := 735) (by decide +kernel), List.mem_of_getElem? (i := 1084) (by decide +kernel), List.mem_of_getElem? (i := 1085) (by decide +kernel)⟩
theorem lw_p73 : lw_okq (⟨"SwitchRulesModel", "readBody", "()V"⟩, 56) := ⟨⟨by decide +kernel, by decide +kernel⟩, List.mem_of_getElem? (i := 735) (by decide +kernel), List.mem_of_getElem? (i := 1088) (by decide +kernel), List.mem_of_getElem? (i := 1089) (by decide +kernel)⟩
theorem lw_p74 : lw_okq (⟨"SwitchRulesModel", "emitEnd", "()V"⟩, 56) := ⟨⟨by decide +kernel, by decide +kernel⟩, List.mem_of_getElem? (i := 735) (by decide +kernel), List.mem_of_getElem? (i := 1092) (by decide +kernel), List.mem_of_getElem? (i := 1093) (by decide +kernel)⟩
theorem lw_p75 : lw_okq (⟨"SwitchRulesModel", "findKeys", "()V"⟩, 56) := ⟨⟨by decide +kernel, by decide +kernel⟩, List.mem_of_getElem? (i := 735) (by decide +kernel), List.mem_of_getElem? (i := 1096) (by decide +kernel), List.mem_of_getElem? (i := 1097) (by decide +kernel)⟩
theorem lw_p76 : lw_okq (⟨"SwitchRulesModel", "armFor", "(I)I"⟩, 56) := ⟨⟨by decide +kernel, by decide +kernel⟩, List.mem_of_getElem? (i := 735) (by decide +kernel), List.mem_of_getElem? (i := 1116) (by decide +kernel), List.mem_of_getElem? (i := 1117) (by decide +kernel)⟩
theorem lw_p77 : lw_okq (⟨"SwitchRulesModel", "isTextAt", "(I)Z"⟩, 56) := ⟨⟨by decide +kernel, by decide +kernel⟩, List.mem_of_getElem? (i := 735) (by decide +kernel), List.mem_of_getElem? (i := 1120) (by decide +kernel), List.mem_of_getElem? (i := 1121) (by decide +kernel)⟩
def lw_privs_5 : List (MethodName × Nat) := [(⟨"SwitchRulesModel", "begin", "()V"⟩, 56), (⟨"SwitchRulesModel", "isList", "()Z"⟩, 56), (⟨"SwitchRulesModel", "let", "()V"⟩, 56), (⟨"SwitchRulesModel", "inScope", "(J)I"⟩, 56), (⟨"SwitchRulesModel", "yieldStmt", "()V"⟩, 56), (⟨"SwitchRulesModel", "dead", "()V"⟩, 56), (⟨"SwitchRulesModel", "isSimple", "()Z"⟩, 56), (⟨"SwitchRulesModel", "simple", "()V"⟩, 56), (⟨"SwitchRulesModel", "use", "()V"⟩, 56), (⟨"SwitchRulesModel", "readBody", "()V"⟩, 56), (⟨"SwitchRulesModel", "emitEnd", "()V"⟩, 56), (⟨"SwitchRulesModel", "findKeys", "()V"⟩, 56), (⟨"SwitchRulesModel", "armFor", "(I)I"⟩, 56), (⟨"SwitchRulesModel", "isTextAt", "(I)Z"⟩, 56)]
theorem lw_r5 : ∀ q ∈ lw_privs_5, lw_okq q := List.forall_mem_cons.mpr ⟨lw_p64, List.forall_mem_cons.mpr ⟨lw_p65, List.forall_mem_cons.mpr ⟨lw_p66, List.forall_mem_cons.mpr ⟨lw_p67, List.forall_mem_cons.mpr ⟨lw_p68, List.forall_mem_cons.mpr ⟨lw_p69, List.forall_mem_cons.mpr ⟨lw_p70, List.forall_mem_cons.mpr ⟨lw_p71, List.forall_mem_cons.mpr ⟨lw_p72, List.forall_mem_cons.mpr ⟨lw_p73, List.forall_mem_cons.mpr ⟨lw_p74, List.forall_mem_cons.mpr ⟨lw_p75, List.forall_mem_cons.mpr ⟨lw_p76, List.forall_mem_cons.mpr ⟨lw_p77, fun _ h => absurd h List.not_mem_nil⟩⟩⟩⟩⟩⟩⟩⟩⟩⟩⟩⟩⟩⟩
def lw_privs : List (MethodName × Nat) := lw_privs_1 ++ (lw_privs_2 ++ (lw_privs_3 ++ (lw_privs_4 ++ (lw_privs_5))))
def lw_tbl : List Cond := k2_sels lw_privs ++ tables_1
theorem lw_privs_ok : ∀ q ∈ lw_privs, lw_okq q := by
  show ∀ q ∈ lw_privs_1 ++ (lw_privs_2 ++ (lw_privs_3 ++ (lw_privs_4 ++ (lw_privs_5)))), lw_okq q
  exact List.forall_mem_append.mpr ⟨lw_r1, List.forall_mem_append.mpr ⟨lw_r2, List.forall_mem_append.mpr ⟨lw_r3, List.forall_mem_append.mpr ⟨lw_r4, lw_r5⟩⟩⟩⟩
/-! ===== BEGIN words of one list among another's, by their places ===== -/
theorem goodIn_r {big : List Cond} (ws : List Cond) (ps : List Nat) (hp : ws = ps.filterMap (fun i => big[i]?)) (h : ws.all goodWord = true) : GoodIn big ws := by
  intro w hw
  have h1 := List.all_eq_true.mp h w hw
  rw [hp] at hw
  obtain ⟨i, -, hi⟩ := List.mem_filterMap.mp hw
  have hm : w ∈ big := by first | exact List.mem_of_getElem? hi | exact List.getElem?_mem hi
  exact ⟨hm, good_of_word h1⟩
theorem goodIn_app {big a b : List Cond} (ha : GoodIn big a) (hb : GoodIn big b) : GoodIn big (a ++ b) := fun w h => (List.mem_append.mp h).elim (ha w) (hb w)
theorem goodIn_ca {big a b : List Cond} {c : Cond} (ha : GoodIn big (c :: a)) (hb : GoodIn big b) : GoodIn big (c :: (a ++ b)) := fun w h => (List.mem_cons.mp h).elim (fun e => ha w (List.mem_cons.mpr (Or.inl e))) (fun h => (List.mem_append.mp h).elim (fun h => ha w (List.mem_cons.mpr (Or.inr h))) (hb w))
theorem goodIn_sub {big ws : List Cond} (hm : ∀ w ∈ ws, w ∈ big) (h : ws.all goodWord = true) : GoodIn big ws := fun w hw => ⟨hm w hw, good_of_word (List.all_eq_true.mp h w hw)⟩
/-! ===== END ===== -/

/-! ===== BEGIN printed: names, fields, word lists, decode rows ===== -/
def RX0 : String := "SwitchRules$Code"
def TX0 : u_T := fun k => match k with
  | 0 => ("SwitchRules$Code", "kinds", "[B", true)
  | 1 => ("SwitchRules$Code", "firsts", "[I", true)
  | 2 => ("SwitchRules$Code", "seconds", "[I", true)
  | _ => ("SwitchRules$Code", "length", "I", false)
def tyX0 : Nat → FieldType := fun k => match k with
  | 0 => .array .byte
  | 1 => .array .int
  | 2 => .array .int
  | _ => .int
abbrev wsX00 : List Cond := u_ws RX0 TX0 4
theorem nmX0 : ∀ a, a < 4 → ∀ b, b < 4 → a ≠ b → (TX0 a).2.1 ≠ (TX0 b).2.1 := by decide +kernel
theorem tyX0_ok : ∀ k, k < 4 → parseFieldDescriptor (TX0 k).2.2.1 = some (tyX0 k) := by decide +kernel
abbrev cX0_init : ByteArray := prog_2_method_1_code
def yX0_init : MethodName := ⟨RX0, "<init>", "()V"⟩
abbrev cX0_step : ByteArray := prog_2_method_2_code
def yX0_step : MethodName := ⟨RX0, "step", "(III)V"⟩
abbrev cX0_leadHere : ByteArray := prog_2_method_3_code
def yX0_leadHere : MethodName := ⟨RX0, "leadHere", "(I)V"⟩
def RX1 : String := "SwitchRules$Judge"
def TX1 : u_T := fun k => match k with
  | 0 => ("SwitchRules$Judge", "tokens", "LSwitchRules$Tokens;", true)
  | 1 => ("SwitchRules$Judge", "unit", "LSwitchRules$Unit;", true)
  | 2 => ("SwitchRules$Judge", "scope", "LSwitchRules$Scope;", true)
  | 3 => ("SwitchRules$Judge", "enumerationNames", "[J", true)
  | 4 => ("SwitchRules$Judge", "constantCounts", "[I", true)
  | 5 => ("SwitchRules$Judge", "constantNames", "[J", true)
  | 6 => ("SwitchRules$Judge", "enumerationCount", "I", false)
  | 7 => ("SwitchRules$Judge", "chosen", "I", false)
  | 8 => ("SwitchRules$Judge", "at", "I", false)
  | 9 => ("SwitchRules$Judge", "fault", "I", false)
  | _ => ("SwitchRules$Judge", "place", "I", false)
def tyX1 : Nat → FieldType := fun k => match k with
  | 0 => .object "SwitchRules$Tokens"
  | 1 => .object "SwitchRules$Unit"
  | 2 => .object "SwitchRules$Scope"
  | 3 => .array .long
  | 4 => .array .int
  | 5 => .array .long
  | 6 => .int
  | 7 => .int
  | 8 => .int
  | 9 => .int
  | _ => .int
abbrev wsX10 : List Cond := u_ws RX1 TX1 11
theorem nmX1 : ∀ a, a < 11 → ∀ b, b < 11 → a ≠ b → (TX1 a).2.1 ≠ (TX1 b).2.1 := by decide +kernel
theorem tyX1_ok : ∀ k, k < 11 → parseFieldDescriptor (TX1 k).2.2.1 = some (tyX1 k) := by decide +kernel
abbrev cX1_init : ByteArray := prog_3_method_1_code
def yX1_init : MethodName := ⟨RX1, "<init>", "(LSwitchRules$Tokens;LSwitchRules$Unit;)V"⟩
abbrev cX1_begin : ByteArray := prog_3_method_2_code
def yX1_begin : MethodName := ⟨RX1, "begin", "()V"⟩
abbrev cX1_kind : ByteArray := prog_3_method_3_code
def yX1_kind : MethodName := ⟨RX1, "kind", "()I"⟩
abbrev cX1_tokenValue : ByteArray := prog_3_method_4_code
def yX1_tokenValue : MethodName := ⟨RX1, "tokenValue", "()J"⟩
abbrev cX1_fail : ByteArray := prog_3_method_5_code
def yX1_fail : MethodName := ⟨RX1, "fail", "(II)V"⟩
abbrev cX1_expect : ByteArray := prog_3_method_6_code
def yX1_expect : MethodName := ⟨RX1, "expect", "(I)V"⟩
abbrev cX1_enumerations : ByteArray := prog_3_method_7_code
def yX1_enumerations : MethodName := ⟨RX1, "enumerations", "()V"⟩
abbrev cX1_enumeration : ByteArray := prog_3_method_8_code
def yX1_enumeration : MethodName := ⟨RX1, "enumeration", "()V"⟩
abbrev cX1_constants : ByteArray := prog_3_method_9_code
def yX1_constants : MethodName := ⟨RX1, "constants", "(I)V"⟩
abbrev cX1_constant : ByteArray := prog_3_method_10_code
def yX1_constant : MethodName := ⟨RX1, "constant", "(I)V"⟩
abbrev cX1_findEnumeration : ByteArray := prog_3_method_11_code
def yX1_findEnumeration : MethodName := ⟨RX1, "findEnumeration", "(J)I"⟩
abbrev cX1_constantCount : ByteArray := prog_3_method_12_code
def yX1_constantCount : MethodName := ⟨RX1, "constantCount", "(I)I"⟩
abbrev cX1_findConstant : ByteArray := prog_3_method_13_code
def yX1_findConstant : MethodName := ⟨RX1, "findConstant", "(IJ)I"⟩
abbrev cX1_selector : ByteArray := prog_3_method_14_code
def yX1_selector : MethodName := ⟨RX1, "selector", "()V"⟩
abbrev cX1_chooseEnumeration : ByteArray := prog_3_method_15_code
def yX1_chooseEnumeration : MethodName := ⟨RX1, "chooseEnumeration", "()V"⟩
abbrev cX1_arms : ByteArray := prog_3_method_16_code
def yX1_arms : MethodName := ⟨RX1, "arms", "()V"⟩
abbrev cX1_arm : ByteArray := prog_3_method_17_code
def yX1_arm : MethodName := ⟨RX1, "arm", "(I)V"⟩
abbrev cX1_labels : ByteArray := prog_3_method_18_code
def yX1_labels : MethodName := ⟨RX1, "labels", "()V"⟩
abbrev cX1_oneLabel : ByteArray := prog_3_method_19_code
def yX1_oneLabel : MethodName := ⟨RX1, "oneLabel", "()V"⟩
abbrev cX1_judgeMinus : ByteArray := prog_3_method_20_code
def yX1_judgeMinus : MethodName := ⟨RX1, "judgeMinus", "(I)V"⟩
abbrev cX1_body : ByteArray := prog_3_method_21_code
def yX1_body : MethodName := ⟨RX1, "body", "()V"⟩
abbrev cX1_stmts : ByteArray := prog_3_method_22_code
def yX1_stmts : MethodName := ⟨RX1, "stmts", "(I)V"⟩
abbrev cX1_beginsStmt : ByteArray := prog_3_method_23_code
def yX1_beginsStmt : MethodName := ⟨RX1, "beginsStmt", "(I)Z"⟩
abbrev cX1_openStmt : ByteArray := prog_3_method_24_code
def yX1_openStmt : MethodName := ⟨RX1, "openStmt", "(I)V"⟩
abbrev cX1_stmt : ByteArray := prog_3_method_25_code
def yX1_stmt : MethodName := ⟨RX1, "stmt", "(I)V"⟩
abbrev cX1_block : ByteArray := prog_3_method_26_code
def yX1_block : MethodName := ⟨RX1, "block", "(I)V"⟩
abbrev cX1_branches : ByteArray := prog_3_method_27_code
def yX1_branches : MethodName := ⟨RX1, "branches", "(I)V"⟩
abbrev cX1_let : ByteArray := prog_3_method_28_code
def yX1_let : MethodName := ⟨RX1, "let", "()V"⟩
abbrev cX1_setName : ByteArray := prog_3_method_29_code
def yX1_setName : MethodName := ⟨RX1, "setName", "(II)V"⟩
abbrev cX1_simple : ByteArray := prog_3_method_30_code
def yX1_simple : MethodName := ⟨RX1, "simple", "()V"⟩
abbrev cX1_useName : ByteArray := prog_3_method_31_code
def yX1_useName : MethodName := ⟨RX1, "useName", "()V"⟩
abbrev cX1_yieldNumber : ByteArray := prog_3_method_32_code
def yX1_yieldNumber : MethodName := ⟨RX1, "yieldNumber", "()V"⟩
abbrev cX1_leave : ByteArray := prog_3_method_33_code
def yX1_leave : MethodName := ⟨RX1, "leave", "(II)V"⟩
abbrev cX1_number : ByteArray := prog_3_method_34_code
def yX1_number : MethodName := ⟨RX1, "number", "()I"⟩
abbrev cX1_end : ByteArray := prog_3_method_35_code
def yX1_end : MethodName := ⟨RX1, "end", "()V"⟩
def RX2 : String := "SwitchRules$Octets"
def TX2 : u_T := fun k => match k with
  | 0 => ("SwitchRules$Octets", "octets", "[C", true)
  | _ => ("SwitchRules$Octets", "length", "I", false)
def tyX2 : Nat → FieldType := fun k => match k with
  | 0 => .array .char
  | _ => .int
abbrev wsX20 : List Cond := u_ws RX2 TX2 2
theorem nmX2 : ∀ a, a < 2 → ∀ b, b < 2 → a ≠ b → (TX2 a).2.1 ≠ (TX2 b).2.1 := by decide +kernel
theorem tyX2_ok : ∀ k, k < 2 → parseFieldDescriptor (TX2 k).2.2.1 = some (tyX2 k) := by decide +kernel
abbrev cX2_init : ByteArray := prog_4_method_1_code
def yX2_init : MethodName := ⟨RX2, "<init>", "()V"⟩
abbrev cX2_at : ByteArray := prog_4_method_2_code
def yX2_at : MethodName := ⟨RX2, "at", "(I)I"⟩
abbrev cX2_append : ByteArray := prog_4_method_3_code
def yX2_append : MethodName := ⟨RX2, "append", "(JI)Z"⟩
abbrev cX2_packed : ByteArray := prog_4_method_4_code
def yX2_packed : MethodName := ⟨RX2, "packed", "(II)J"⟩
abbrev cX2_whole : ByteArray := prog_4_method_5_code
def yX2_whole : MethodName := ⟨RX2, "whole", "()J"⟩
abbrev cX2_wholeHash : ByteArray := prog_4_method_6_code
def yX2_wholeHash : MethodName := ⟨RX2, "wholeHash", "()I"⟩
def RX3 : String := "SwitchRules$Runner"
def TX3 : u_T := fun k => match k with
  | 0 => ("SwitchRules$Runner", "trace", "[I", true)
  | 1 => ("SwitchRules$Runner", "names", "[I", true)
  | 2 => ("SwitchRules$Runner", "traceLength", "I", false)
  | 3 => ("SwitchRules$Runner", "result", "I", false)
  | _ => ("SwitchRules$Runner", "hasRun", "Z", false)
def tyX3 : Nat → FieldType := fun k => match k with
  | 0 => .array .int
  | 1 => .array .int
  | 2 => .int
  | 3 => .int
  | _ => .boolean
abbrev wsX30 : List Cond := u_ws RX3 TX3 5
theorem nmX3 : ∀ a, a < 5 → ∀ b, b < 5 → a ≠ b → (TX3 a).2.1 ≠ (TX3 b).2.1 := by decide +kernel
theorem tyX3_ok : ∀ k, k < 5 → parseFieldDescriptor (TX3 k).2.2.1 = some (tyX3 k) := by decide +kernel
abbrev cX3_init : ByteArray := prog_5_method_1_code
def yX3_init : MethodName := ⟨RX3, "<init>", "()V"⟩
abbrev cX3_forget : ByteArray := prog_5_method_2_code
def yX3_forget : MethodName := ⟨RX3, "forget", "()V"⟩
abbrev cX3_begin : ByteArray := prog_5_method_3_code
def yX3_begin : MethodName := ⟨RX3, "begin", "()V"⟩
abbrev cX3_go : ByteArray := prog_5_method_4_code
def yX3_go : MethodName := ⟨RX3, "go", "(LSwitchRules$Code;II)I"⟩
abbrev cX3_isName : ByteArray := prog_5_method_5_code
def yX3_isName : MethodName := ⟨RX3, "isName", "(I)Z"⟩
abbrev cX3_addToTrace : ByteArray := prog_5_method_6_code
def yX3_addToTrace : MethodName := ⟨RX3, "addToTrace", "(I)V"⟩
def RX4 : String := "SwitchRules$Scope"
def TX4 : u_T := fun k => match k with
  | 0 => ("SwitchRules$Scope", "names", "[J", true)
  | 1 => ("SwitchRules$Scope", "count", "I", false)
  | _ => ("SwitchRules$Scope", "set", "I", false)
def tyX4 : Nat → FieldType := fun k => match k with
  | 0 => .array .long
  | 1 => .int
  | _ => .int
abbrev wsX40 : List Cond := u_ws RX4 TX4 3
theorem nmX4 : ∀ a, a < 3 → ∀ b, b < 3 → a ≠ b → (TX4 a).2.1 ≠ (TX4 b).2.1 := by decide +kernel
theorem tyX4_ok : ∀ k, k < 3 → parseFieldDescriptor (TX4 k).2.2.1 = some (tyX4 k) := by decide +kernel
abbrev cX4_init : ByteArray := prog_6_method_1_code
def yX4_init : MethodName := ⟨RX4, "<init>", "()V"⟩
abbrev cX4_find : ByteArray := prog_6_method_2_code
def yX4_find : MethodName := ⟨RX4, "find", "(J)I"⟩
abbrev cX4_add : ByteArray := prog_6_method_3_code
def yX4_add : MethodName := ⟨RX4, "add", "(J)I"⟩
abbrev cX4_shrink : ByteArray := prog_6_method_4_code
def yX4_shrink : MethodName := ⟨RX4, "shrink", "(I)V"⟩
abbrev cX4_isSet : ByteArray := prog_6_method_5_code
def yX4_isSet : MethodName := ⟨RX4, "isSet", "(I)Z"⟩
abbrev cX4_makeSet : ByteArray := prog_6_method_6_code
def yX4_makeSet : MethodName := ⟨RX4, "makeSet", "(I)V"⟩
abbrev cX4_isReached : ByteArray := prog_6_method_7_code
def yX4_isReached : MethodName := ⟨RX4, "isReached", "()Z"⟩
def RX5 : String := "SwitchRules$Table"
def TX5 : u_T := fun k => match k with
  | 0 => ("SwitchRules$Table", "keys", "[I", true)
  | 1 => ("SwitchRules$Table", "targets", "[I", true)
  | 2 => ("SwitchRules$Table", "alikes", "[I", true)
  | _ => ("SwitchRules$Table", "count", "I", false)
def tyX5 : Nat → FieldType := fun k => match k with
  | 0 => .array .int
  | 1 => .array .int
  | 2 => .array .int
  | _ => .int
abbrev wsX50 : List Cond := u_ws RX5 TX5 4
theorem nmX5 : ∀ a, a < 4 → ∀ b, b < 4 → a ≠ b → (TX5 a).2.1 ≠ (TX5 b).2.1 := by decide +kernel
theorem tyX5_ok : ∀ k, k < 4 → parseFieldDescriptor (TX5 k).2.2.1 = some (tyX5 k) := by decide +kernel
abbrev cX5_init : ByteArray := prog_7_method_1_code
def yX5_init : MethodName := ⟨RX5, "<init>", "()V"⟩
abbrev cX5_make : ByteArray := prog_7_method_2_code
def yX5_make : MethodName := ⟨RX5, "make", "(LSwitchRules$Unit;)V"⟩
abbrev cX5_put : ByteArray := prog_7_method_3_code
def yX5_put : MethodName := ⟨RX5, "put", "(II)V"⟩
abbrev cX5_has : ByteArray := prog_7_method_4_code
def yX5_has : MethodName := ⟨RX5, "has", "(I)Z"⟩
abbrev cX5_isDense : ByteArray := prog_7_method_5_code
def yX5_isDense : MethodName := ⟨RX5, "isDense", "()Z"⟩
def RX6 : String := "SwitchRules$Tokens"
def TX6 : u_T := fun k => match k with
  | 0 => ("SwitchRules$Tokens", "kinds", "[B", true)
  | 1 => ("SwitchRules$Tokens", "places", "[S", true)
  | 2 => ("SwitchRules$Tokens", "values", "[J", true)
  | 3 => ("SwitchRules$Tokens", "words", "[J", true)
  | _ => ("SwitchRules$Tokens", "count", "I", false)
def tyX6 : Nat → FieldType := fun k => match k with
  | 0 => .array .byte
  | 1 => .array .short
  | 2 => .array .long
  | 3 => .array .long
  | _ => .int
abbrev wsX60 : List Cond := u_ws RX6 TX6 5
theorem nmX6 : ∀ a, a < 5 → ∀ b, b < 5 → a ≠ b → (TX6 a).2.1 ≠ (TX6 b).2.1 := by decide +kernel
theorem tyX6_ok : ∀ k, k < 5 → parseFieldDescriptor (TX6 k).2.2.1 = some (tyX6 k) := by decide +kernel
abbrev cX6_init : ByteArray := prog_8_method_1_code
def yX6_init : MethodName := ⟨RX6, "<init>", "()V"⟩
abbrev cX6_packedWord : ByteArray := prog_8_method_2_code
def yX6_packedWord : MethodName := ⟨RX6, "packedWord", "(Ljava/lang/String;)J"⟩
abbrev cX6_cut : ByteArray := prog_8_method_3_code
def yX6_cut : MethodName := ⟨RX6, "cut", "(LSwitchRules$Octets;)V"⟩
abbrev cX6_behindBlanks : ByteArray := prog_8_method_4_code
def yX6_behindBlanks : MethodName := ⟨RX6, "behindBlanks", "(LSwitchRules$Octets;I)I"⟩
abbrev cX6_cutOne : ByteArray := prog_8_method_5_code
def yX6_cutOne : MethodName := ⟨RX6, "cutOne", "(LSwitchRules$Octets;II)I"⟩
abbrev cX6_cutName : ByteArray := prog_8_method_6_code
def yX6_cutName : MethodName := ⟨RX6, "cutName", "(LSwitchRules$Octets;I)I"⟩
abbrev cX6_nameKind : ByteArray := prog_8_method_7_code
def yX6_nameKind : MethodName := ⟨RX6, "nameKind", "(J)I"⟩
abbrev cX6_cutNumber : ByteArray := prog_8_method_8_code
def yX6_cutNumber : MethodName := ⟨RX6, "cutNumber", "(LSwitchRules$Octets;I)I"⟩
abbrev cX6_cutText : ByteArray := prog_8_method_9_code
def yX6_cutText : MethodName := ⟨RX6, "cutText", "(LSwitchRules$Octets;I)I"⟩
abbrev cX6_isSmall : ByteArray := prog_8_method_10_code
def yX6_isSmall : MethodName := ⟨RX6, "isSmall", "(I)Z"⟩
abbrev cX6_isFigure : ByteArray := prog_8_method_11_code
def yX6_isFigure : MethodName := ⟨RX6, "isFigure", "(I)Z"⟩
abbrev cX6_isTextSign : ByteArray := prog_8_method_12_code
def yX6_isTextSign : MethodName := ⟨RX6, "isTextSign", "(I)Z"⟩
abbrev cX6_signKind : ByteArray := prog_8_method_13_code
def yX6_signKind : MethodName := ⟨RX6, "signKind", "(I)I"⟩
abbrev cX6_keep : ByteArray := prog_8_method_14_code
def yX6_keep : MethodName := ⟨RX6, "keep", "(IIJ)V"⟩
def RX7 : String := "SwitchRules$Unit"
def TX7 : u_T := fun k => match k with
  | 0 => ("SwitchRules$Unit", "there", "Z", false)
  | 1 => ("SwitchRules$Unit", "isValue", "Z", false)
  | 2 => ("SwitchRules$Unit", "sort", "I", false)
  | 3 => ("SwitchRules$Unit", "constants", "I", false)
  | 4 => ("SwitchRules$Unit", "arms", "I", false)
  | 5 => ("SwitchRules$Unit", "labels", "I", false)
  | 6 => ("SwitchRules$Unit", "stmts", "I", false)
  | 7 => ("SwitchRules$Unit", "defaultArm", "I", false)
  | 8 => ("SwitchRules$Unit", "hasOldArms", "Z", false)
  | 9 => ("SwitchRules$Unit", "armStarts", "[I", true)
  | 10 => ("SwitchRules$Unit", "labelArms", "[I", true)
  | 11 => ("SwitchRules$Unit", "labelKeys", "[I", true)
  | 12 => ("SwitchRules$Unit", "labelSigns", "[J", true)
  | _ => ("SwitchRules$Unit", "code", "LSwitchRules$Code;", true)
def tyX7 : Nat → FieldType := fun k => match k with
  | 0 => .boolean
  | 1 => .boolean
  | 2 => .int
  | 3 => .int
  | 4 => .int
  | 5 => .int
  | 6 => .int
  | 7 => .int
  | 8 => .boolean
  | 9 => .array .int
  | 10 => .array .int
  | 11 => .array .int
  | 12 => .array .long
  | _ => .object "SwitchRules$Code"
abbrev wsX70 : List Cond := u_ws RX7 TX7 14
theorem nmX7 : ∀ a, a < 14 → ∀ b, b < 14 → a ≠ b → (TX7 a).2.1 ≠ (TX7 b).2.1 := by decide +kernel
theorem tyX7_ok : ∀ k, k < 14 → parseFieldDescriptor (TX7 k).2.2.1 = some (tyX7 k) := by decide +kernel
abbrev cX7_init : ByteArray := prog_9_method_1_code
def yX7_init : MethodName := ⟨RX7, "<init>", "()V"⟩
abbrev cX7_clear : ByteArray := prog_9_method_2_code
def yX7_clear : MethodName := ⟨RX7, "clear", "()V"⟩
abbrev cX7_addArm : ByteArray := prog_9_method_3_code
def yX7_addArm : MethodName := ⟨RX7, "addArm", "()V"⟩
abbrev cX7_startOf : ByteArray := prog_9_method_4_code
def yX7_startOf : MethodName := ⟨RX7, "startOf", "(I)I"⟩
abbrev cX7_addLabel : ByteArray := prog_9_method_5_code
def yX7_addLabel : MethodName := ⟨RX7, "addLabel", "(J)V"⟩
abbrev cX7_packedHash : ByteArray := prog_9_method_6_code
def yX7_packedHash : MethodName := ⟨RX7, "packedHash", "(J)I"⟩
abbrev cX7_hasLabel : ByteArray := prog_9_method_7_code
def yX7_hasLabel : MethodName := ⟨RX7, "hasLabel", "(J)Z"⟩
abbrev cX7_labelWith : ByteArray := prog_9_method_8_code
def yX7_labelWith : MethodName := ⟨RX7, "labelWith", "(J)I"⟩
abbrev cX7_armFor : ByteArray := prog_9_method_9_code
def yX7_armFor : MethodName := ⟨RX7, "armFor", "(J)I"⟩
abbrev cX7_isExhaustive : ByteArray := prog_9_method_10_code
def yX7_isExhaustive : MethodName := ⟨RX7, "isExhaustive", "()Z"⟩
def RX8 : String := "SwitchRules"
def TX8 : u_T := fun k => match k with
  | 0 => ("SwitchRules", "text", "LSwitchRules$Octets;", true)
  | 1 => ("SwitchRules", "tokens", "LSwitchRules$Tokens;", true)
  | 2 => ("SwitchRules", "unit", "LSwitchRules$Unit;", true)
  | 3 => ("SwitchRules", "judge", "LSwitchRules$Judge;", true)
  | 4 => ("SwitchRules", "table", "LSwitchRules$Table;", true)
  | _ => ("SwitchRules", "runner", "LSwitchRules$Runner;", true)
def tyX8 : Nat → FieldType := fun k => match k with
  | 0 => .object "SwitchRules$Octets"
  | 1 => .object "SwitchRules$Tokens"
  | 2 => .object "SwitchRules$Unit"
  | 3 => .object "SwitchRules$Judge"
  | 4 => .object "SwitchRules$Table"
  | _ => .object "SwitchRules$Runner"
abbrev wsX80 : List Cond := u_ws RX8 TX8 6
theorem nmX8 : ∀ a, a < 6 → ∀ b, b < 6 → a ≠ b → (TX8 a).2.1 ≠ (TX8 b).2.1 := by decide +kernel
theorem tyX8_ok : ∀ k, k < 6 → parseFieldDescriptor (TX8 k).2.2.1 = some (tyX8 k) := by decide +kernel
abbrev cX8_init : ByteArray := prog_1_method_1_code
def yX8_init : MethodName := ⟨RX8, "<init>", "()V"⟩
abbrev cX8_type : ByteArray := prog_1_method_2_code
def yX8_type : MethodName := ⟨RX8, "type", "(JI)I"⟩
abbrev cX8_read : ByteArray := prog_1_method_3_code
def yX8_read : MethodName := ⟨RX8, "read", "()I"⟩
abbrev cX8_place : ByteArray := prog_1_method_4_code
def yX8_place : MethodName := ⟨RX8, "place", "()I"⟩
abbrev cX8_told : ByteArray := prog_1_method_5_code
def yX8_told : MethodName := ⟨RX8, "told", "(I)I"⟩
abbrev cX8_label : ByteArray := prog_1_method_6_code
def yX8_label : MethodName := ⟨RX8, "label", "(II)I"⟩
abbrev cX8_run : ByteArray := prog_1_method_7_code
def yX8_run : MethodName := ⟨RX8, "run", "(II)I"⟩
abbrev cX8_runNone : ByteArray := prog_1_method_8_code
def yX8_runNone : MethodName := ⟨RX8, "runNone", "()I"⟩
abbrev cX8_traced : ByteArray := prog_1_method_9_code
def yX8_traced : MethodName := ⟨RX8, "traced", "()I"⟩
abbrev cX8_trace : ByteArray := prog_1_method_10_code
def yX8_trace : MethodName := ⟨RX8, "trace", "(I)I"⟩
abbrev cX8_value : ByteArray := prog_1_method_11_code
def yX8_value : MethodName := ⟨RX8, "value", "()I"⟩
abbrev cX8_form : ByteArray := prog_1_method_12_code
def yX8_form : MethodName := ⟨RX8, "form", "()I"⟩
abbrev cX8_keys : ByteArray := prog_1_method_13_code
def yX8_keys : MethodName := ⟨RX8, "keys", "()I"⟩
abbrev cX8_key : ByteArray := prog_1_method_14_code
def yX8_key : MethodName := ⟨RX8, "key", "(I)I"⟩
abbrev cX8_target : ByteArray := prog_1_method_15_code
def yX8_target : MethodName := ⟨RX8, "target", "(I)I"⟩
abbrev cX8_alike : ByteArray := prog_1_method_16_code
def yX8_alike : MethodName := ⟨RX8, "alike", "(I)I"⟩
abbrev cX8_hash : ByteArray := prog_1_method_17_code
def yX8_hash : MethodName := ⟨RX8, "hash", "()I"⟩
def RX9 : String := "SwitchRulesModel"
def TX9 : u_T := fun k => match k with
  | 0 => ("SwitchRulesModel", "key", "[J", true)
  | 1 => ("SwitchRulesModel", "text", "[B", true)
  | 2 => ("SwitchRulesModel", "textSize", "I", false)
  | 3 => ("SwitchRulesModel", "pos", "I", false)
  | 4 => ("SwitchRulesModel", "token", "I", false)
  | 5 => ("SwitchRulesModel", "tokenPlace", "I", false)
  | 6 => ("SwitchRulesModel", "tokenName", "J", false)
  | 7 => ("SwitchRulesModel", "tokenValue", "I", false)
  | 8 => ("SwitchRulesModel", "fault", "I", false)
  | 9 => ("SwitchRulesModel", "faultPlace", "I", false)
  | 10 => ("SwitchRulesModel", "lastPlace", "I", false)
  | 11 => ("SwitchRulesModel", "has", "Z", false)
  | 12 => ("SwitchRulesModel", "enums", "I", false)
  | 13 => ("SwitchRulesModel", "enumName", "[J", true)
  | 14 => ("SwitchRulesModel", "constants", "[I", true)
  | 15 => ("SwitchRulesModel", "constantName", "[J", true)
  | 16 => ("SwitchRulesModel", "isValue", "Z", false)
  | 17 => ("SwitchRulesModel", "sort", "I", false)
  | 18 => ("SwitchRulesModel", "selector", "I", false)
  | 19 => ("SwitchRulesModel", "arms", "I", false)
  | 20 => ("SwitchRulesModel", "armAt", "[I", true)
  | 21 => ("SwitchRulesModel", "labels", "I", false)
  | 22 => ("SwitchRulesModel", "labelArm", "[I", true)
  | 23 => ("SwitchRulesModel", "labelNumber", "[I", true)
  | 24 => ("SwitchRulesModel", "labelText", "[J", true)
  | 25 => ("SwitchRulesModel", "labelSize", "[I", true)
  | 26 => ("SwitchRulesModel", "stmts", "I", false)
  | 27 => ("SwitchRulesModel", "defaultArm", "I", false)
  | 28 => ("SwitchRulesModel", "hasOld", "Z", false)
  | 29 => ("SwitchRulesModel", "hasArrow", "Z", false)
  | 30 => ("SwitchRulesModel", "act", "[I", true)
  | 31 => ("SwitchRulesModel", "actA", "[I", true)
  | 32 => ("SwitchRulesModel", "actB", "[I", true)
  | 33 => ("SwitchRulesModel", "acts", "I", false)
  | 34 => ("SwitchRulesModel", "scopeName", "[J", true)
  | 35 => ("SwitchRulesModel", "scope", "I", false)
  | 36 => ("SwitchRulesModel", "set", "I", false)
  | 37 => ("SwitchRulesModel", "open", "[I", true)
  | 38 => ("SwitchRulesModel", "openEnds", "[Z", true)
  | 39 => ("SwitchRulesModel", "openScope", "[I", true)
  | 40 => ("SwitchRulesModel", "openBefore", "[I", true)
  | 41 => ("SwitchRulesModel", "openThen", "[I", true)
  | 42 => ("SwitchRulesModel", "openAct", "[I", true)
  | 43 => ("SwitchRulesModel", "openJump", "[I", true)
  | 44 => ("SwitchRulesModel", "opened", "I", false)
  | 45 => ("SwitchRulesModel", "depth", "I", false)
  | 46 => ("SwitchRulesModel", "lastEnds", "Z", false)
  | 47 => ("SwitchRulesModel", "hasRun", "Z", false)
  | 48 => ("SwitchRulesModel", "ranValue", "I", false)
  | 49 => ("SwitchRulesModel", "traces", "I", false)
  | 50 => ("SwitchRulesModel", "traced", "[I", true)
  | 51 => ("SwitchRulesModel", "names", "[I", true)
  | 52 => ("SwitchRulesModel", "keys", "I", false)
  | 53 => ("SwitchRulesModel", "keyOf", "[I", true)
  | 54 => ("SwitchRulesModel", "targets", "[I", true)
  | _ => ("SwitchRulesModel", "alikes", "[I", true)
def tyX9 : Nat → FieldType := fun k => match k with
  | 0 => .array .long
  | 1 => .array .byte
  | 2 => .int
  | 3 => .int
  | 4 => .int
  | 5 => .int
  | 6 => .long
  | 7 => .int
  | 8 => .int
  | 9 => .int
  | 10 => .int
  | 11 => .boolean
  | 12 => .int
  | 13 => .array .long
  | 14 => .array .int
  | 15 => .array .long
  | 16 => .boolean
  | 17 => .int
  | 18 => .int
  | 19 => .int
  | 20 => .array .int
  | 21 => .int
  | 22 => .array .int
  | 23 => .array .int
  | 24 => .array .long
  | 25 => .array .int
  | 26 => .int
  | 27 => .int
  | 28 => .boolean
  | 29 => .boolean
  | 30 => .array .int
  | 31 => .array .int
  | 32 => .array .int
  | 33 => .int
  | 34 => .array .long
  | 35 => .int
  | 36 => .int
  | 37 => .array .int
  | 38 => .array .boolean
  | 39 => .array .int
  | 40 => .array .int
  | 41 => .array .int
  | 42 => .array .int
  | 43 => .array .int
  | 44 => .int
  | 45 => .int
  | 46 => .boolean
  | 47 => .boolean
  | 48 => .int
  | 49 => .int
  | 50 => .array .int
  | 51 => .array .int
  | 52 => .int
  | 53 => .array .int
  | 54 => .array .int
  | _ => .array .int
abbrev wsX90 : List Cond := u_ws RX9 TX9 56
theorem nmX9 : ∀ a, a < 56 → ∀ b, b < 56 → a ≠ b → (TX9 a).2.1 ≠ (TX9 b).2.1 := by decide +kernel
theorem tyX9_ok : ∀ k, k < 56 → parseFieldDescriptor (TX9 k).2.2.1 = some (tyX9 k) := by decide +kernel
abbrev cX9_init : ByteArray := prog_11_method_1_code
def yX9_init : MethodName := ⟨RX9, "<init>", "()V"⟩
abbrev cX9_type : ByteArray := prog_11_method_2_code
def yX9_type : MethodName := ⟨RX9, "type", "(JI)I"⟩
abbrev cX9_octet : ByteArray := prog_11_method_3_code
def yX9_octet : MethodName := ⟨RX9, "octet", "(I)I"⟩
abbrev cX9_isSmall : ByteArray := prog_11_method_4_code
def yX9_isSmall : MethodName := ⟨RX9, "isSmall", "(I)Z"⟩
abbrev cX9_isFigure : ByteArray := prog_11_method_5_code
def yX9_isFigure : MethodName := ⟨RX9, "isFigure", "(I)Z"⟩
abbrev cX9_next : ByteArray := prog_11_method_6_code
def yX9_next : MethodName := ⟨RX9, "next", "()V"⟩
abbrev cX9_nextName : ByteArray := prog_11_method_7_code
def yX9_nextName : MethodName := ⟨RX9, "nextName", "()V"⟩
abbrev cX9_nextNumber : ByteArray := prog_11_method_8_code
def yX9_nextNumber : MethodName := ⟨RX9, "nextNumber", "()V"⟩
abbrev cX9_nextText : ByteArray := prog_11_method_9_code
def yX9_nextText : MethodName := ⟨RX9, "nextText", "()V"⟩
abbrev cX9_wrong : ByteArray := prog_11_method_10_code
def yX9_wrong : MethodName := ⟨RX9, "wrong", "(I)V"⟩
abbrev cX9_wrongAt : ByteArray := prog_11_method_11_code
def yX9_wrongAt : MethodName := ⟨RX9, "wrongAt", "(II)V"⟩
abbrev cX9_cannot : ByteArray := prog_11_method_12_code
def yX9_cannot : MethodName := ⟨RX9, "cannot", "()V"⟩
abbrev cX9_isSign : ByteArray := prog_11_method_13_code
def yX9_isSign : MethodName := ⟨RX9, "isSign", "(I)Z"⟩
abbrev cX9_isWord : ByteArray := prog_11_method_14_code
def yX9_isWord : MethodName := ⟨RX9, "isWord", "(I)Z"⟩
abbrev cX9_wantsSign : ByteArray := prog_11_method_15_code
def yX9_wantsSign : MethodName := ⟨RX9, "wantsSign", "(I)V"⟩
abbrev cX9_number : ByteArray := prog_11_method_16_code
def yX9_number : MethodName := ⟨RX9, "number", "()I"⟩
abbrev cX9_signed : ByteArray := prog_11_method_17_code
def yX9_signed : MethodName := ⟨RX9, "signed", "()I"⟩
abbrev cX9_readEnum : ByteArray := prog_11_method_18_code
def yX9_readEnum : MethodName := ⟨RX9, "readEnum", "()V"⟩
abbrev cX9_constantOf : ByteArray := prog_11_method_19_code
def yX9_constantOf : MethodName := ⟨RX9, "constantOf", "(IJ)I"⟩
abbrev cX9_readHead : ByteArray := prog_11_method_20_code
def yX9_readHead : MethodName := ⟨RX9, "readHead", "()V"⟩
abbrev cX9_isOther : ByteArray := prog_11_method_21_code
def yX9_isOther : MethodName := ⟨RX9, "isOther", "(IJI)Z"⟩
abbrev cX9_hashOf : ByteArray := prog_11_method_22_code
def yX9_hashOf : MethodName := ⟨RX9, "hashOf", "(JI)I"⟩
abbrev cX9_readLabel : ByteArray := prog_11_method_23_code
def yX9_readLabel : MethodName := ⟨RX9, "readLabel", "()V"⟩
abbrev cX9_emit : ByteArray := prog_11_method_24_code
def yX9_emit : MethodName := ⟨RX9, "emit", "(III)I"⟩
abbrev cX9_inScope : ByteArray := prog_11_method_25_code
def yX9_inScope : MethodName := ⟨RX9, "inScope", "(J)I"⟩
abbrev cX9_push : ByteArray := prog_11_method_26_code
def yX9_push : MethodName := ⟨RX9, "push", "(I)V"⟩
abbrev cX9_pop : ByteArray := prog_11_method_27_code
def yX9_pop : MethodName := ⟨RX9, "pop", "()V"⟩
abbrev cX9_through : ByteArray := prog_11_method_28_code
def yX9_through : MethodName := ⟨RX9, "through", "(Z)V"⟩
abbrev cX9_isList : ByteArray := prog_11_method_29_code
def yX9_isList : MethodName := ⟨RX9, "isList", "()Z"⟩
abbrev cX9_begin : ByteArray := prog_11_method_30_code
def yX9_begin : MethodName := ⟨RX9, "begin", "()V"⟩
abbrev cX9_dead : ByteArray := prog_11_method_31_code
def yX9_dead : MethodName := ⟨RX9, "dead", "()V"⟩
abbrev cX9_simple : ByteArray := prog_11_method_32_code
def yX9_simple : MethodName := ⟨RX9, "simple", "()V"⟩
abbrev cX9_use : ByteArray := prog_11_method_33_code
def yX9_use : MethodName := ⟨RX9, "use", "()V"⟩
abbrev cX9_let : ByteArray := prog_11_method_34_code
def yX9_let : MethodName := ⟨RX9, "let", "()V"⟩
abbrev cX9_yieldStmt : ByteArray := prog_11_method_35_code
def yX9_yieldStmt : MethodName := ⟨RX9, "yieldStmt", "()V"⟩
abbrev cX9_isSimple : ByteArray := prog_11_method_36_code
def yX9_isSimple : MethodName := ⟨RX9, "isSimple", "()Z"⟩
abbrev cX9_stmt : ByteArray := prog_11_method_37_code
def yX9_stmt : MethodName := ⟨RX9, "stmt", "()V"⟩
abbrev cX9_endBlock : ByteArray := prog_11_method_38_code
def yX9_endBlock : MethodName := ⟨RX9, "endBlock", "()V"⟩
abbrev cX9_readStmts : ByteArray := prog_11_method_39_code
def yX9_readStmts : MethodName := ⟨RX9, "readStmts", "(I)V"⟩
abbrev cX9_readOld : ByteArray := prog_11_method_40_code
def yX9_readOld : MethodName := ⟨RX9, "readOld", "()V"⟩
abbrev cX9_readBody : ByteArray := prog_11_method_41_code
def yX9_readBody : MethodName := ⟨RX9, "readBody", "()V"⟩
abbrev cX9_readArm : ByteArray := prog_11_method_42_code
def yX9_readArm : MethodName := ⟨RX9, "readArm", "()V"⟩
abbrev cX9_read : ByteArray := prog_11_method_43_code
def yX9_read : MethodName := ⟨RX9, "read", "()I"⟩
abbrev cX9_emitEnd : ByteArray := prog_11_method_44_code
def yX9_emitEnd : MethodName := ⟨RX9, "emitEnd", "()V"⟩
abbrev cX9_place : ByteArray := prog_11_method_45_code
def yX9_place : MethodName := ⟨RX9, "place", "()I"⟩
abbrev cX9_told : ByteArray := prog_11_method_46_code
def yX9_told : MethodName := ⟨RX9, "told", "(I)I"⟩
abbrev cX9_label : ByteArray := prog_11_method_47_code
def yX9_label : MethodName := ⟨RX9, "label", "(II)I"⟩
abbrev cX9_armFor : ByteArray := prog_11_method_48_code
def yX9_armFor : MethodName := ⟨RX9, "armFor", "(I)I"⟩
abbrev cX9_isTextAt : ByteArray := prog_11_method_49_code
def yX9_isTextAt : MethodName := ⟨RX9, "isTextAt", "(I)Z"⟩
abbrev cX9_run : ByteArray := prog_11_method_50_code
def yX9_run : MethodName := ⟨RX9, "run", "(II)I"⟩
abbrev cX9_runNone : ByteArray := prog_11_method_51_code
def yX9_runNone : MethodName := ⟨RX9, "runNone", "()I"⟩
abbrev cX9_traced : ByteArray := prog_11_method_52_code
def yX9_traced : MethodName := ⟨RX9, "traced", "()I"⟩
abbrev cX9_trace : ByteArray := prog_11_method_53_code
def yX9_trace : MethodName := ⟨RX9, "trace", "(I)I"⟩
abbrev cX9_value : ByteArray := prog_11_method_54_code
def yX9_value : MethodName := ⟨RX9, "value", "()I"⟩
abbrev cX9_findKeys : ByteArray := prog_11_method_55_code
def yX9_findKeys : MethodName := ⟨RX9, "findKeys", "()V"⟩
abbrev cX9_form : ByteArray := prog_11_method_56_code
def yX9_form : MethodName := ⟨RX9, "form", "()I"⟩
abbrev cX9_keys : ByteArray := prog_11_method_57_code
def yX9_keys : MethodName := ⟨RX9, "keys", "()I"⟩
abbrev cX9_key : ByteArray := prog_11_method_58_code
def yX9_key : MethodName := ⟨RX9, "key", "(I)I"⟩
abbrev cX9_target : ByteArray := prog_11_method_59_code
def yX9_target : MethodName := ⟨RX9, "target", "(I)I"⟩
abbrev cX9_alike : ByteArray := prog_11_method_60_code
def yX9_alike : MethodName := ⟨RX9, "alike", "(I)I"⟩
abbrev cX9_hash : ByteArray := prog_11_method_61_code
def yX9_hash : MethodName := ⟨RX9, "hash", "()I"⟩
def RJ0 : String := "java/lang/String"
def TJ0 : u_T := fun k => match k with
  | _ => ("", "", "", false)
def tyJ0 : Nat → FieldType := fun k => match k with
  | _ => .int
abbrev wsJ00 : List Cond := u_ws RJ0 TJ0 0
theorem nmJ0 : ∀ a, a < 0 → ∀ b, b < 0 → a ≠ b → (TJ0 a).2.1 ≠ (TJ0 b).2.1 := by decide +kernel
theorem tyJ0_ok : ∀ k, k < 0 → parseFieldDescriptor (TJ0 k).2.2.1 = some (tyJ0 k) := by decide +kernel
abbrev cJ0_length_8abf5 : ByteArray := prog_12_method_54_code
def yJ0_length_8abf5 : MethodName := ⟨RJ0, "length", "()I"⟩
abbrev cJ0_charAt_5068e : ByteArray := prog_12_method_56_code
def yJ0_charAt_5068e : MethodName := ⟨RJ0, "charAt", "(I)C"⟩
abbrev cJ0_coder_7d493 : ByteArray := prog_12_method_152_code
def yJ0_coder_7d493 : MethodName := ⟨RJ0, "coder", "()B"⟩
abbrev cJ0_isLatin1_aae02 : ByteArray := prog_12_method_154_code
def yJ0_isLatin1_aae02 : MethodName := ⟨RJ0, "isLatin1", "()Z"⟩
abbrev cJ0_checkIndex_df160 : ByteArray := prog_12_method_155_code
def yJ0_checkIndex_df160 : MethodName := ⟨RJ0, "checkIndex", "(II)V"⟩
def RJ1 : String := "java/lang/StringLatin1"
def TJ1 : u_T := fun k => match k with
  | _ => ("", "", "", false)
def tyJ1 : Nat → FieldType := fun k => match k with
  | _ => .int
abbrev wsJ10 : List Cond := u_ws RJ1 TJ1 0
theorem nmJ1 : ∀ a, a < 0 → ∀ b, b < 0 → a ≠ b → (TJ1 a).2.1 ≠ (TJ1 b).2.1 := by decide +kernel
theorem tyJ1_ok : ∀ k, k < 0 → parseFieldDescriptor (TJ1 k).2.2.1 = some (tyJ1 k) := by decide +kernel
abbrev cJ1_charAt_3b067 : ByteArray := prog_13_method_2_code
def yJ1_charAt_3b067 : MethodName := ⟨RJ1, "charAt", "([BI)C"⟩
def RJ2 : String := "java/lang/StringUTF16"
def TJ2 : u_T := fun k => match k with
  | _ => ("", "", "", false)
def tyJ2 : Nat → FieldType := fun k => match k with
  | _ => .int
abbrev wsJ20 : List Cond := u_ws RJ2 TJ2 0
theorem nmJ2 : ∀ a, a < 0 → ∀ b, b < 0 → a ≠ b → (TJ2 a).2.1 ≠ (TJ2 b).2.1 := by decide +kernel
theorem tyJ2_ok : ∀ k, k < 0 → parseFieldDescriptor (TJ2 k).2.2.1 = some (tyJ2 k) := by decide +kernel
abbrev cJ2_getChar_3b067 : ByteArray := prog_14_method_5_code
def yJ2_getChar_3b067 : MethodName := ⟨RJ2, "getChar", "([BI)C"⟩
abbrev cJ2_length_9d52b : ByteArray := prog_14_method_6_code
def yJ2_length_9d52b : MethodName := ⟨RJ2, "length", "([B)I"⟩
abbrev cJ2_charAt_3b067 : ByteArray := prog_14_method_83_code
def yJ2_charAt_3b067 : MethodName := ⟨RJ2, "charAt", "([BI)C"⟩
abbrev cJ2_checkIndex_2214a : ByteArray := prog_14_method_91_code
def yJ2_checkIndex_2214a : MethodName := ⟨RJ2, "checkIndex", "(I[B)V"⟩
def RJ3 : String := "jdk/internal/util/Preconditions"
def TJ3 : u_T := fun k => match k with
  | _ => ("", "", "", false)
def tyJ3 : Nat → FieldType := fun k => match k with
  | _ => .int
abbrev wsJ30 : List Cond := u_ws RJ3 TJ3 0
theorem nmJ3 : ∀ a, a < 0 → ∀ b, b < 0 → a ≠ b → (TJ3 a).2.1 ≠ (TJ3 b).2.1 := by decide +kernel
theorem tyJ3_ok : ∀ k, k < 0 → parseFieldDescriptor (TJ3 k).2.2.1 = some (tyJ3 k) := by decide +kernel
abbrev cJ3_checkIndex_8e157 : ByteArray := prog_15_method_11_code
def yJ3_checkIndex_8e157 : MethodName := ⟨RJ3, "checkIndex", "(IILjava/util/function/BiFunction;)I"⟩
def RL : String := "SwitchRulesLaw"
abbrev cL_law : ByteArray := code
def yL_law : MethodName := ⟨RL, "law", "([I)Z"⟩
abbrev vwCl : List vw_C := [(RX0, TX0, 4), (RX1, TX1, 11), (RX2, TX2, 2), (RX3, TX3, 5), (RX4, TX4, 3), (RX5, TX5, 4), (RX6, TX6, 5), (RX7, TX7, 14), (RX8, TX8, 6), (RX9, TX9, 56)]
def m_costL : List (Nat × Nat) := [(3, 780), (0, 0), (0, 0), (5, 95), (0, 0), (0, 0), (0, 0), (0, 0), (0, 0), (0, 0), (0, 0), (0, 0), (0, 0), (0, 0), (0, 0), (0, 0), (0, 0), (0, 0), (0, 0), (0, 0), (0, 0), (0, 0), (0, 0), (0, 0), (0, 0), (0, 0), (0, 0), (0, 0), (0, 0), (0, 0), (0, 0), (0, 0), (0, 0), (0, 0), (0, 0), (0, 0), (0, 0), (1, 3000), (0, 0), (0, 0), (0, 0), (0, 0), (0, 0), (2, 140), (0, 0), (0, 0), (0, 0), (0, 0), (0, 0), (1, 20), (0, 0), (0, 0), (0, 0), (0, 0), (0, 0), (0, 0), (3, 96), (0, 0), (0, 0), (0, 0), (0, 0), (4, 9018), (0, 0), (0, 0), (0, 0), (0, 0), (0, 0), (0, 0), (0, 0), (0, 0), (0, 0), (0, 0), (0, 0), (0, 0), (0, 0), (8, 900), (0, 0), (0, 0), (0, 0), (0, 0), (0, 0), (0, 0), (0, 0), (0, 0), (0, 0), (29, 13290), (0, 0), (0, 0), (0, 0), (0, 0), (0, 0), (0, 0), (0, 0), (0, 0), (0, 0), (0, 0), (0, 0), (0, 0), (0, 0), (0, 0), (0, 0), (0, 0), (26, 7572), (0, 0), (0, 0), (0, 0), (0, 0), (0, 0), (0, 0), (0, 0), (0, 0), (0, 0), (0, 0), (0, 0), (0, 0), (0, 0), (0, 0), (0, 0), (0, 0), (0, 0), (0, 0), (0, 0), (0, 0), (0, 0), (0, 0), (0, 0), (0, 0), (0, 0), (0, 0), (0, 0), (0, 0), (0, 0), (0, 0), (0, 0), (0, 0), (0, 0), (0, 0), (0, 0), (0, 0), (0, 0), (0, 0), (0, 0), (0, 0), (0, 0), (0, 0), (0, 0), (0, 0), (0, 0), (0, 0), (0, 0), (0, 0), (0, 0), (0, 0), (0, 0), (0, 0), (0, 0), (0, 0), (0, 0), (0, 0), (0, 0), (0, 0), (0, 0), (0, 0), (0, 0)]
