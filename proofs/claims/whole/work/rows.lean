section
-- ===== PART A: goes FIRST, ahead of the names: the tables' words, and 'selects' of the private methods out of them =====
/-- a private method of a class that the tables say can be made, by its rows of tables_1 -/
def lw_okq (q : MethodName × Nat) : Prop := (q.1.cls ≠ "java/lang/invoke/MethodHandle" ∧ q.1.cls ≠ "java/lang/invoke/VarHandle") ∧ Cond.instantiable q.1.cls q.2 ∈ tables_1 ∧ Cond.privateMethod q.1 ∈ tables_1 ∧ Cond.instanceMethod q.1 ∈ tables_1
theorem lw_p0 : lw_okq (⟨"SwitchRules$Tokens", "keep", "(IIJ)V"⟩, 5) := ⟨⟨by decide +kernel, by decide +kernel⟩, List.mem_of_getElem? (i := 40) (by decide +kernel), List.mem_of_getElem? (i := 384) (by decide +kernel), List.mem_of_getElem? (i := 385) (by decide +kernel)⟩
theorem lw_p1 : lw_okq (⟨"SwitchRules$Tokens", "cutOne", "(LSwitchRules$Octets;II)I"⟩, 5) := ⟨⟨by decide +kernel, by decide +kernel⟩, List.mem_of_getElem? (i := 40) (by decide +kernel), List.mem_of_getElem? (i := 388) (by decide +kernel), List.mem_of_getElem? (i := 389) (by decide +kernel)⟩
theorem lw_p2 : lw_okq (⟨"SwitchRules$Tokens", "cutName", "(LSwitchRules$Octets;I)I"⟩, 5) := ⟨⟨by decide +kernel, by decide +kernel⟩, List.mem_of_getElem? (i := 40) (by decide +kernel), List.mem_of_getElem? (i := 395) (by decide +kernel), List.mem_of_getElem? (i := 396) (by decide +kernel)⟩
theorem lw_p3 : lw_okq (⟨"SwitchRules$Tokens", "nameKind", "(J)I"⟩, 5) := ⟨⟨by decide +kernel, by decide +kernel⟩, List.mem_of_getElem? (i := 40) (by decide +kernel), List.mem_of_getElem? (i := 407) (by decide +kernel), List.mem_of_getElem? (i := 408) (by decide +kernel)⟩
theorem lw_p4 : lw_okq (⟨"SwitchRules$Tokens", "cutNumber", "(LSwitchRules$Octets;I)I"⟩, 5) := ⟨⟨by decide +kernel, by decide +kernel⟩, List.mem_of_getElem? (i := 40) (by decide +kernel), List.mem_of_getElem? (i := 411) (by decide +kernel), List.mem_of_getElem? (i := 412) (by decide +kernel)⟩
theorem lw_p5 : lw_okq (⟨"SwitchRules$Tokens", "cutText", "(LSwitchRules$Octets;I)I"⟩, 5) := ⟨⟨by decide +kernel, by decide +kernel⟩, List.mem_of_getElem? (i := 40) (by decide +kernel), List.mem_of_getElem? (i := 416) (by decide +kernel), List.mem_of_getElem? (i := 417) (by decide +kernel)⟩
theorem lw_p6 : lw_okq (⟨"SwitchRules$Judge", "kind", "()I"⟩, 11) := ⟨⟨by decide +kernel, by decide +kernel⟩, List.mem_of_getElem? (i := 232) (by decide +kernel), List.mem_of_getElem? (i := 446) (by decide +kernel), List.mem_of_getElem? (i := 447) (by decide +kernel)⟩
theorem lw_p7 : lw_okq (⟨"SwitchRules$Judge", "enumeration", "()V"⟩, 11) := ⟨⟨by decide +kernel, by decide +kernel⟩, List.mem_of_getElem? (i := 232) (by decide +kernel), List.mem_of_getElem? (i := 450) (by decide +kernel), List.mem_of_getElem? (i := 451) (by decide +kernel)⟩
theorem lw_p8 : lw_okq (⟨"SwitchRules$Judge", "fail", "(II)V"⟩, 11) := ⟨⟨by decide +kernel, by decide +kernel⟩, List.mem_of_getElem? (i := 232) (by decide +kernel), List.mem_of_getElem? (i := 454) (by decide +kernel), List.mem_of_getElem? (i := 455) (by decide +kernel)⟩
theorem lw_p9 : lw_okq (⟨"SwitchRules$Judge", "tokenValue", "()J"⟩, 11) := ⟨⟨by decide +kernel, by decide +kernel⟩, List.mem_of_getElem? (i := 232) (by decide +kernel), List.mem_of_getElem? (i := 458) (by decide +kernel), List.mem_of_getElem? (i := 459) (by decide +kernel)⟩
theorem lw_p10 : lw_okq (⟨"SwitchRules$Judge", "findEnumeration", "(J)I"⟩, 11) := ⟨⟨by decide +kernel, by decide +kernel⟩, List.mem_of_getElem? (i := 232) (by decide +kernel), List.mem_of_getElem? (i := 462) (by decide +kernel), List.mem_of_getElem? (i := 463) (by decide +kernel)⟩
theorem lw_p11 : lw_okq (⟨"SwitchRules$Judge", "expect", "(I)V"⟩, 11) := ⟨⟨by decide +kernel, by decide +kernel⟩, List.mem_of_getElem? (i := 232) (by decide +kernel), List.mem_of_getElem? (i := 466) (by decide +kernel), List.mem_of_getElem? (i := 467) (by decide +kernel)⟩
theorem lw_p12 : lw_okq (⟨"SwitchRules$Judge", "constants", "(I)V"⟩, 11) := ⟨⟨by decide +kernel, by decide +kernel⟩, List.mem_of_getElem? (i := 232) (by decide +kernel), List.mem_of_getElem? (i := 470) (by decide +kernel), List.mem_of_getElem? (i := 471) (by decide +kernel)⟩
theorem lw_p13 : lw_okq (⟨"SwitchRules$Judge", "constant", "(I)V"⟩, 11) := ⟨⟨by decide +kernel, by decide +kernel⟩, List.mem_of_getElem? (i := 232) (by decide +kernel), List.mem_of_getElem? (i := 474) (by decide +kernel), List.mem_of_getElem? (i := 475) (by decide +kernel)⟩
theorem lw_p14 : lw_okq (⟨"SwitchRules$Judge", "constantCount", "(I)I"⟩, 11) := ⟨⟨by decide +kernel, by decide +kernel⟩, List.mem_of_getElem? (i := 232) (by decide +kernel), List.mem_of_getElem? (i := 478) (by decide +kernel), List.mem_of_getElem? (i := 479) (by decide +kernel)⟩
theorem lw_p15 : lw_okq (⟨"SwitchRules$Judge", "findConstant", "(IJ)I"⟩, 11) := ⟨⟨by decide +kernel, by decide +kernel⟩, List.mem_of_getElem? (i := 232) (by decide +kernel), List.mem_of_getElem? (i := 482) (by decide +kernel), List.mem_of_getElem? (i := 483) (by decide +kernel)⟩
def lw_privs_1 : List (MethodName × Nat) := [(⟨"SwitchRules$Tokens", "keep", "(IIJ)V"⟩, 5), (⟨"SwitchRules$Tokens", "cutOne", "(LSwitchRules$Octets;II)I"⟩, 5), (⟨"SwitchRules$Tokens", "cutName", "(LSwitchRules$Octets;I)I"⟩, 5), (⟨"SwitchRules$Tokens", "nameKind", "(J)I"⟩, 5), (⟨"SwitchRules$Tokens", "cutNumber", "(LSwitchRules$Octets;I)I"⟩, 5), (⟨"SwitchRules$Tokens", "cutText", "(LSwitchRules$Octets;I)I"⟩, 5), (⟨"SwitchRules$Judge", "kind", "()I"⟩, 11), (⟨"SwitchRules$Judge", "enumeration", "()V"⟩, 11), (⟨"SwitchRules$Judge", "fail", "(II)V"⟩, 11), (⟨"SwitchRules$Judge", "tokenValue", "()J"⟩, 11), (⟨"SwitchRules$Judge", "findEnumeration", "(J)I"⟩, 11), (⟨"SwitchRules$Judge", "expect", "(I)V"⟩, 11), (⟨"SwitchRules$Judge", "constants", "(I)V"⟩, 11), (⟨"SwitchRules$Judge", "constant", "(I)V"⟩, 11), (⟨"SwitchRules$Judge", "constantCount", "(I)I"⟩, 11), (⟨"SwitchRules$Judge", "findConstant", "(IJ)I"⟩, 11)]
theorem lw_r1 : ∀ q ∈ lw_privs_1, lw_okq q := List.forall_mem_cons.mpr ⟨lw_p0, List.forall_mem_cons.mpr ⟨lw_p1, List.forall_mem_cons.mpr ⟨lw_p2, List.forall_mem_cons.mpr ⟨lw_p3, List.forall_mem_cons.mpr ⟨lw_p4, List.forall_mem_cons.mpr ⟨lw_p5, List.forall_mem_cons.mpr ⟨lw_p6, List.forall_mem_cons.mpr ⟨lw_p7, List.forall_mem_cons.mpr ⟨lw_p8, List.forall_mem_cons.mpr ⟨lw_p9, List.forall_mem_cons.mpr ⟨lw_p10, List.forall_mem_cons.mpr ⟨lw_p11, List.forall_mem_cons.mpr ⟨lw_p12, List.forall_mem_cons.mpr ⟨lw_p13, List.forall_mem_cons.mpr ⟨lw_p14, List.forall_mem_cons.mpr ⟨lw_p15, fun _ h => absurd h List.not_mem_nil⟩⟩⟩⟩⟩⟩⟩⟩⟩⟩⟩⟩⟩⟩⟩⟩
theorem lw_p16 : lw_okq (⟨"SwitchRules$Judge", "chooseEnumeration", "()V"⟩, 11) := ⟨⟨by decide +kernel, by decide +kernel⟩, List.mem_of_getElem? (i := 232) (by decide +kernel), List.mem_of_getElem? (i := 490) (by decide +kernel), List.mem_of_getElem? (i := 491) (by decide +kernel)⟩
theorem lw_p17 : lw_okq (⟨"SwitchRules$Judge", "arm", "(I)V"⟩, 11) := ⟨⟨by decide +kernel, by decide +kernel⟩, List.mem_of_getElem? (i := 232) (by decide +kernel), List.mem_of_getElem? (i := 498) (by decide +kernel), List.mem_of_getElem? (i := 499) (by decide +kernel)⟩
theorem lw_p18 : lw_okq (⟨"SwitchRules$Judge", "labels", "()V"⟩, 11) := ⟨⟨by decide +kernel, by decide +kernel⟩, List.mem_of_getElem? (i := 232) (by decide +kernel), List.mem_of_getElem? (i := 506) (by decide +kernel), List.mem_of_getElem? (i := 507) (by decide +kernel)⟩
theorem lw_p19 : lw_okq (⟨"SwitchRules$Judge", "oneLabel", "()V"⟩, 11) := ⟨⟨by decide +kernel, by decide +kernel⟩, List.mem_of_getElem? (i := 232) (by decide +kernel), List.mem_of_getElem? (i := 510) (by decide +kernel), List.mem_of_getElem? (i := 511) (by decide +kernel)⟩
theorem lw_p20 : lw_okq (⟨"SwitchRules$Unit", "labelWith", "(J)I"⟩, 14) := ⟨⟨by decide +kernel, by decide +kernel⟩, List.mem_of_getElem? (i := 135) (by decide +kernel), List.mem_of_getElem? (i := 518) (by decide +kernel), List.mem_of_getElem? (i := 519) (by decide +kernel)⟩
theorem lw_p21 : lw_okq (⟨"SwitchRules$Judge", "stmts", "(I)V"⟩, 11) := ⟨⟨by decide +kernel, by decide +kernel⟩, List.mem_of_getElem? (i := 232) (by decide +kernel), List.mem_of_getElem? (i := 530) (by decide +kernel), List.mem_of_getElem? (i := 531) (by decide +kernel)⟩
theorem lw_p22 : lw_okq (⟨"SwitchRules$Judge", "stmt", "(I)V"⟩, 11) := ⟨⟨by decide +kernel, by decide +kernel⟩, List.mem_of_getElem? (i := 232) (by decide +kernel), List.mem_of_getElem? (i := 537) (by decide +kernel), List.mem_of_getElem? (i := 538) (by decide +kernel)⟩
theorem lw_p23 : lw_okq (⟨"SwitchRules$Judge", "openStmt", "(I)V"⟩, 11) := ⟨⟨by decide +kernel, by decide +kernel⟩, List.mem_of_getElem? (i := 232) (by decide +kernel), List.mem_of_getElem? (i := 541) (by decide +kernel), List.mem_of_getElem? (i := 542) (by decide +kernel)⟩
theorem lw_p24 : lw_okq (⟨"SwitchRules$Judge", "block", "(I)V"⟩, 11) := ⟨⟨by decide +kernel, by decide +kernel⟩, List.mem_of_getElem? (i := 232) (by decide +kernel), List.mem_of_getElem? (i := 553) (by decide +kernel), List.mem_of_getElem? (i := 554) (by decide +kernel)⟩
theorem lw_p25 : lw_okq (⟨"SwitchRules$Judge", "branches", "(I)V"⟩, 11) := ⟨⟨by decide +kernel, by decide +kernel⟩, List.mem_of_getElem? (i := 232) (by decide +kernel), List.mem_of_getElem? (i := 561) (by decide +kernel), List.mem_of_getElem? (i := 562) (by decide +kernel)⟩
theorem lw_p26 : lw_okq (⟨"SwitchRules$Judge", "let", "()V"⟩, 11) := ⟨⟨by decide +kernel, by decide +kernel⟩, List.mem_of_getElem? (i := 232) (by decide +kernel), List.mem_of_getElem? (i := 573) (by decide +kernel), List.mem_of_getElem? (i := 574) (by decide +kernel)⟩
theorem lw_p27 : lw_okq (⟨"SwitchRules$Judge", "number", "()I"⟩, 11) := ⟨⟨by decide +kernel, by decide +kernel⟩, List.mem_of_getElem? (i := 232) (by decide +kernel), List.mem_of_getElem? (i := 581) (by decide +kernel), List.mem_of_getElem? (i := 582) (by decide +kernel)⟩
theorem lw_p28 : lw_okq (⟨"SwitchRules$Judge", "setName", "(II)V"⟩, 11) := ⟨⟨by decide +kernel, by decide +kernel⟩, List.mem_of_getElem? (i := 232) (by decide +kernel), List.mem_of_getElem? (i := 585) (by decide +kernel), List.mem_of_getElem? (i := 586) (by decide +kernel)⟩
theorem lw_p29 : lw_okq (⟨"SwitchRules$Judge", "yieldNumber", "()V"⟩, 11) := ⟨⟨by decide +kernel, by decide +kernel⟩, List.mem_of_getElem? (i := 232) (by decide +kernel), List.mem_of_getElem? (i := 593) (by decide +kernel), List.mem_of_getElem? (i := 594) (by decide +kernel)⟩
theorem lw_p30 : lw_okq (⟨"SwitchRules$Judge", "leave", "(II)V"⟩, 11) := ⟨⟨by decide +kernel, by decide +kernel⟩, List.mem_of_getElem? (i := 232) (by decide +kernel), List.mem_of_getElem? (i := 597) (by decide +kernel), List.mem_of_getElem? (i := 598) (by decide +kernel)⟩
theorem lw_p31 : lw_okq (⟨"SwitchRules$Judge", "simple", "()V"⟩, 11) := ⟨⟨by decide +kernel, by decide +kernel⟩, List.mem_of_getElem? (i := 232) (by decide +kernel), List.mem_of_getElem? (i := 601) (by decide +kernel), List.mem_of_getElem? (i := 602) (by decide +kernel)⟩
def lw_privs_2 : List (MethodName × Nat) := [(⟨"SwitchRules$Judge", "chooseEnumeration", "()V"⟩, 11), (⟨"SwitchRules$Judge", "arm", "(I)V"⟩, 11), (⟨"SwitchRules$Judge", "labels", "()V"⟩, 11), (⟨"SwitchRules$Judge", "oneLabel", "()V"⟩, 11), (⟨"SwitchRules$Unit", "labelWith", "(J)I"⟩, 14), (⟨"SwitchRules$Judge", "stmts", "(I)V"⟩, 11), (⟨"SwitchRules$Judge", "stmt", "(I)V"⟩, 11), (⟨"SwitchRules$Judge", "openStmt", "(I)V"⟩, 11), (⟨"SwitchRules$Judge", "block", "(I)V"⟩, 11), (⟨"SwitchRules$Judge", "branches", "(I)V"⟩, 11), (⟨"SwitchRules$Judge", "let", "()V"⟩, 11), (⟨"SwitchRules$Judge", "number", "()I"⟩, 11), (⟨"SwitchRules$Judge", "setName", "(II)V"⟩, 11), (⟨"SwitchRules$Judge", "yieldNumber", "()V"⟩, 11), (⟨"SwitchRules$Judge", "leave", "(II)V"⟩, 11), (⟨"SwitchRules$Judge", "simple", "()V"⟩, 11)]
theorem lw_r2 : ∀ q ∈ lw_privs_2, lw_okq q := List.forall_mem_cons.mpr ⟨lw_p16, List.forall_mem_cons.mpr ⟨lw_p17, List.forall_mem_cons.mpr ⟨lw_p18, List.forall_mem_cons.mpr ⟨lw_p19, List.forall_mem_cons.mpr ⟨lw_p20, List.forall_mem_cons.mpr ⟨lw_p21, List.forall_mem_cons.mpr ⟨lw_p22, List.forall_mem_cons.mpr ⟨lw_p23, List.forall_mem_cons.mpr ⟨lw_p24, List.forall_mem_cons.mpr ⟨lw_p25, List.forall_mem_cons.mpr ⟨lw_p26, List.forall_mem_cons.mpr ⟨lw_p27, List.forall_mem_cons.mpr ⟨lw_p28, List.forall_mem_cons.mpr ⟨lw_p29, List.forall_mem_cons.mpr ⟨lw_p30, List.forall_mem_cons.mpr ⟨lw_p31, fun _ h => absurd h List.not_mem_nil⟩⟩⟩⟩⟩⟩⟩⟩⟩⟩⟩⟩⟩⟩⟩⟩
theorem lw_p32 : lw_okq (⟨"SwitchRules$Judge", "useName", "()V"⟩, 11) := ⟨⟨by decide +kernel, by decide +kernel⟩, List.mem_of_getElem? (i := 232) (by decide +kernel), List.mem_of_getElem? (i := 605) (by decide +kernel), List.mem_of_getElem? (i := 606) (by decide +kernel)⟩
theorem lw_p33 : lw_okq (⟨"SwitchRules$Judge", "body", "()V"⟩, 11) := ⟨⟨by decide +kernel, by decide +kernel⟩, List.mem_of_getElem? (i := 232) (by decide +kernel), List.mem_of_getElem? (i := 613) (by decide +kernel), List.mem_of_getElem? (i := 614) (by decide +kernel)⟩
theorem lw_p34 : lw_okq (⟨"SwitchRules$Table", "put", "(II)V"⟩, 4) := ⟨⟨by decide +kernel, by decide +kernel⟩, List.mem_of_getElem? (i := 292) (by decide +kernel), List.mem_of_getElem? (i := 629) (by decide +kernel), List.mem_of_getElem? (i := 630) (by decide +kernel)⟩
theorem lw_p35 : lw_okq (⟨"SwitchRules$Runner", "addToTrace", "(I)V"⟩, 5) := ⟨⟨by decide +kernel, by decide +kernel⟩, List.mem_of_getElem? (i := 315) (by decide +kernel), List.mem_of_getElem? (i := 668) (by decide +kernel), List.mem_of_getElem? (i := 669) (by decide +kernel)⟩
theorem lw_p36 : lw_okq (⟨"SwitchRulesModel", "next", "()V"⟩, 56) := ⟨⟨by decide +kernel, by decide +kernel⟩, List.mem_of_getElem? (i := 731) (by decide +kernel), List.mem_of_getElem? (i := 930) (by decide +kernel), List.mem_of_getElem? (i := 931) (by decide +kernel)⟩
theorem lw_p37 : lw_okq (⟨"SwitchRulesModel", "octet", "(I)I"⟩, 56) := ⟨⟨by decide +kernel, by decide +kernel⟩, List.mem_of_getElem? (i := 731) (by decide +kernel), List.mem_of_getElem? (i := 934) (by decide +kernel), List.mem_of_getElem? (i := 935) (by decide +kernel)⟩
theorem lw_p38 : lw_okq (⟨"SwitchRulesModel", "nextName", "()V"⟩, 56) := ⟨⟨by decide +kernel, by decide +kernel⟩, List.mem_of_getElem? (i := 731) (by decide +kernel), List.mem_of_getElem? (i := 941) (by decide +kernel), List.mem_of_getElem? (i := 942) (by decide +kernel)⟩
theorem lw_p39 : lw_okq (⟨"SwitchRulesModel", "nextNumber", "()V"⟩, 56) := ⟨⟨by decide +kernel, by decide +kernel⟩, List.mem_of_getElem? (i := 731) (by decide +kernel), List.mem_of_getElem? (i := 948) (by decide +kernel), List.mem_of_getElem? (i := 949) (by decide +kernel)⟩
theorem lw_p40 : lw_okq (⟨"SwitchRulesModel", "nextText", "()V"⟩, 56) := ⟨⟨by decide +kernel, by decide +kernel⟩, List.mem_of_getElem? (i := 731) (by decide +kernel), List.mem_of_getElem? (i := 952) (by decide +kernel), List.mem_of_getElem? (i := 953) (by decide +kernel)⟩
theorem lw_p41 : lw_okq (⟨"SwitchRulesModel", "isWord", "(I)Z"⟩, 56) := ⟨⟨by decide +kernel, by decide +kernel⟩, List.mem_of_getElem? (i := 731) (by decide +kernel), List.mem_of_getElem? (i := 956) (by decide +kernel), List.mem_of_getElem? (i := 957) (by decide +kernel)⟩
theorem lw_p42 : lw_okq (⟨"SwitchRulesModel", "readEnum", "()V"⟩, 56) := ⟨⟨by decide +kernel, by decide +kernel⟩, List.mem_of_getElem? (i := 731) (by decide +kernel), List.mem_of_getElem? (i := 960) (by decide +kernel), List.mem_of_getElem? (i := 961) (by decide +kernel)⟩
theorem lw_p43 : lw_okq (⟨"SwitchRulesModel", "cannot", "()V"⟩, 56) := ⟨⟨by decide +kernel, by decide +kernel⟩, List.mem_of_getElem? (i := 731) (by decide +kernel), List.mem_of_getElem? (i := 964) (by decide +kernel), List.mem_of_getElem? (i := 965) (by decide +kernel)⟩
theorem lw_p44 : lw_okq (⟨"SwitchRulesModel", "wrong", "(I)V"⟩, 56) := ⟨⟨by decide +kernel, by decide +kernel⟩, List.mem_of_getElem? (i := 731) (by decide +kernel), List.mem_of_getElem? (i := 968) (by decide +kernel), List.mem_of_getElem? (i := 969) (by decide +kernel)⟩
theorem lw_p45 : lw_okq (⟨"SwitchRulesModel", "wantsSign", "(I)V"⟩, 56) := ⟨⟨by decide +kernel, by decide +kernel⟩, List.mem_of_getElem? (i := 731) (by decide +kernel), List.mem_of_getElem? (i := 972) (by decide +kernel), List.mem_of_getElem? (i := 973) (by decide +kernel)⟩
theorem lw_p46 : lw_okq (⟨"SwitchRulesModel", "isSign", "(I)Z"⟩, 56) := ⟨⟨by decide +kernel, by decide +kernel⟩, List.mem_of_getElem? (i := 731) (by decide +kernel), List.mem_of_getElem? (i := 976) (by decide +kernel), List.mem_of_getElem? (i := 977) (by decide +kernel)⟩
theorem lw_p47 : lw_okq (⟨"SwitchRulesModel", "constantOf", "(IJ)I"⟩, 56) := ⟨⟨by decide +kernel, by decide +kernel⟩, List.mem_of_getElem? (i := 731) (by decide +kernel), List.mem_of_getElem? (i := 980) (by decide +kernel), List.mem_of_getElem? (i := 981) (by decide +kernel)⟩
def lw_privs_3 : List (MethodName × Nat) := [(⟨"SwitchRules$Judge", "useName", "()V"⟩, 11), (⟨"SwitchRules$Judge", "body", "()V"⟩, 11), (⟨"SwitchRules$Table", "put", "(II)V"⟩, 4), (⟨"SwitchRules$Runner", "addToTrace", "(I)V"⟩, 5), (⟨"SwitchRulesModel", "next", "()V"⟩, 56), (⟨"SwitchRulesModel", "octet", "(I)I"⟩, 56), (⟨"SwitchRulesModel", "nextName", "()V"⟩, 56), (⟨"SwitchRulesModel", "nextNumber", "()V"⟩, 56), (⟨"SwitchRulesModel", "nextText", "()V"⟩, 56), (⟨"SwitchRulesModel", "isWord", "(I)Z"⟩, 56), (⟨"SwitchRulesModel", "readEnum", "()V"⟩, 56), (⟨"SwitchRulesModel", "cannot", "()V"⟩, 56), (⟨"SwitchRulesModel", "wrong", "(I)V"⟩, 56), (⟨"SwitchRulesModel", "wantsSign", "(I)V"⟩, 56), (⟨"SwitchRulesModel", "isSign", "(I)Z"⟩, 56), (⟨"SwitchRulesModel", "constantOf", "(IJ)I"⟩, 56)]
theorem lw_r3 : ∀ q ∈ lw_privs_3, lw_okq q := List.forall_mem_cons.mpr ⟨lw_p32, List.forall_mem_cons.mpr ⟨lw_p33, List.forall_mem_cons.mpr ⟨lw_p34, List.forall_mem_cons.mpr ⟨lw_p35, List.forall_mem_cons.mpr ⟨lw_p36, List.forall_mem_cons.mpr ⟨lw_p37, List.forall_mem_cons.mpr ⟨lw_p38, List.forall_mem_cons.mpr ⟨lw_p39, List.forall_mem_cons.mpr ⟨lw_p40, List.forall_mem_cons.mpr ⟨lw_p41, List.forall_mem_cons.mpr ⟨lw_p42, List.forall_mem_cons.mpr ⟨lw_p43, List.forall_mem_cons.mpr ⟨lw_p44, List.forall_mem_cons.mpr ⟨lw_p45, List.forall_mem_cons.mpr ⟨lw_p46, List.forall_mem_cons.mpr ⟨lw_p47, fun _ h => absurd h List.not_mem_nil⟩⟩⟩⟩⟩⟩⟩⟩⟩⟩⟩⟩⟩⟩⟩⟩
theorem lw_p48 : lw_okq (⟨"SwitchRulesModel", "readHead", "()V"⟩, 56) := ⟨⟨by decide +kernel, by decide +kernel⟩, List.mem_of_getElem? (i := 731) (by decide +kernel), List.mem_of_getElem? (i := 984) (by decide +kernel), List.mem_of_getElem? (i := 985) (by decide +kernel)⟩
theorem lw_p49 : lw_okq (⟨"SwitchRulesModel", "readArm", "()V"⟩, 56) := ⟨⟨by decide +kernel, by decide +kernel⟩, List.mem_of_getElem? (i := 731) (by decide +kernel), List.mem_of_getElem? (i := 988) (by decide +kernel), List.mem_of_getElem? (i := 989) (by decide +kernel)⟩
theorem lw_p50 : lw_okq (⟨"SwitchRulesModel", "readLabel", "()V"⟩, 56) := ⟨⟨by decide +kernel, by decide +kernel⟩, List.mem_of_getElem? (i := 731) (by decide +kernel), List.mem_of_getElem? (i := 992) (by decide +kernel), List.mem_of_getElem? (i := 993) (by decide +kernel)⟩
theorem lw_p51 : lw_okq (⟨"SwitchRulesModel", "signed", "()I"⟩, 56) := ⟨⟨by decide +kernel, by decide +kernel⟩, List.mem_of_getElem? (i := 731) (by decide +kernel), List.mem_of_getElem? (i := 996) (by decide +kernel), List.mem_of_getElem? (i := 997) (by decide +kernel)⟩
theorem lw_p52 : lw_okq (⟨"SwitchRulesModel", "number", "()I"⟩, 56) := ⟨⟨by decide +kernel, by decide +kernel⟩, List.mem_of_getElem? (i := 731) (by decide +kernel), List.mem_of_getElem? (i := 1000) (by decide +kernel), List.mem_of_getElem? (i := 1001) (by decide +kernel)⟩
theorem lw_p53 : lw_okq (⟨"SwitchRulesModel", "isOther", "(IJI)Z"⟩, 56) := ⟨⟨by decide +kernel, by decide +kernel⟩, List.mem_of_getElem? (i := 731) (by decide +kernel), List.mem_of_getElem? (i := 1008) (by decide +kernel), List.mem_of_getElem? (i := 1009) (by decide +kernel)⟩
theorem lw_p54 : lw_okq (⟨"SwitchRulesModel", "wrongAt", "(II)V"⟩, 56) := ⟨⟨by decide +kernel, by decide +kernel⟩, List.mem_of_getElem? (i := 731) (by decide +kernel), List.mem_of_getElem? (i := 1012) (by decide +kernel), List.mem_of_getElem? (i := 1013) (by decide +kernel)⟩
theorem lw_p55 : lw_okq (⟨"SwitchRulesModel", "readOld", "()V"⟩, 56) := ⟨⟨by decide +kernel, by decide +kernel⟩, List.mem_of_getElem? (i := 731) (by decide +kernel), List.mem_of_getElem? (i := 1016) (by decide +kernel), List.mem_of_getElem? (i := 1017) (by decide +kernel)⟩
theorem lw_p56 : lw_okq (⟨"SwitchRulesModel", "push", "(I)V"⟩, 56) := ⟨⟨by decide +kernel, by decide +kernel⟩, List.mem_of_getElem? (i := 731) (by decide +kernel), List.mem_of_getElem? (i := 1020) (by decide +kernel), List.mem_of_getElem? (i := 1021) (by decide +kernel)⟩
theorem lw_p57 : lw_okq (⟨"SwitchRulesModel", "readStmts", "(I)V"⟩, 56) := ⟨⟨by decide +kernel, by decide +kernel⟩, List.mem_of_getElem? (i := 731) (by decide +kernel), List.mem_of_getElem? (i := 1024) (by decide +kernel), List.mem_of_getElem? (i := 1025) (by decide +kernel)⟩
theorem lw_p58 : lw_okq (⟨"SwitchRulesModel", "endBlock", "()V"⟩, 56) := ⟨⟨by decide +kernel, by decide +kernel⟩, List.mem_of_getElem? (i := 731) (by decide +kernel), List.mem_of_getElem? (i := 1028) (by decide +kernel), List.mem_of_getElem? (i := 1029) (by decide +kernel)⟩
theorem lw_p59 : lw_okq (⟨"SwitchRulesModel", "pop", "()V"⟩, 56) := ⟨⟨by decide +kernel, by decide +kernel⟩, List.mem_of_getElem? (i := 731) (by decide +kernel), List.mem_of_getElem? (i := 1032) (by decide +kernel), List.mem_of_getElem? (i := 1033) (by decide +kernel)⟩
theorem lw_p60 : lw_okq (⟨"SwitchRulesModel", "through", "(Z)V"⟩, 56) := ⟨⟨by decide +kernel, by decide +kernel⟩, List.mem_of_getElem? (i := 731) (by decide +kernel), List.mem_of_getElem? (i := 1036) (by decide +kernel), List.mem_of_getElem? (i := 1037) (by decide +kernel)⟩
theorem lw_p61 : lw_okq (⟨"SwitchRulesModel", "emit", "(III)I"⟩, 56) := ⟨⟨by decide +kernel, by decide +kernel⟩, List.mem_of_getElem? (i := 731) (by decide +kernel), List.mem_of_getElem? (i := 1040) (by decide +kernel), List.mem_of_getElem? (i := 1041) (by decide +kernel)⟩
theorem lw_p62 : lw_okq (⟨"SwitchRulesModel", "stmt", "()V"⟩, 56) := ⟨⟨by decide +kernel, by decide +kernel⟩, List.mem_of_getElem? (i := 731) (by decide +kernel), List.mem_of_getElem? (i := 1044) (by decide +kernel), List.mem_of_getElem? (i := 1045) (by decide +kernel)⟩
theorem lw_p63 : lw_okq (⟨"SwitchRulesModel", "begin", "()V"⟩, 56) := ⟨⟨by decide +kernel, by decide +kernel⟩, List.mem_of_getElem? (i := 731) (by decide +kernel), List.mem_of_getElem? (i := 1048) (by decide +kernel), List.mem_of_getElem? (i := 1049) (by decide +kernel)⟩
def lw_privs_4 : List (MethodName × Nat) := [(⟨"SwitchRulesModel", "readHead", "()V"⟩, 56), (⟨"SwitchRulesModel", "readArm", "()V"⟩, 56), (⟨"SwitchRulesModel", "readLabel", "()V"⟩, 56), (⟨"SwitchRulesModel", "signed", "()I"⟩, 56), (⟨"SwitchRulesModel", "number", "()I"⟩, 56), (⟨"SwitchRulesModel", "isOther", "(IJI)Z"⟩, 56), (⟨"SwitchRulesModel", "wrongAt", "(II)V"⟩, 56), (⟨"SwitchRulesModel", "readOld", "()V"⟩, 56), (⟨"SwitchRulesModel", "push", "(I)V"⟩, 56), (⟨"SwitchRulesModel", "readStmts", "(I)V"⟩, 56), (⟨"SwitchRulesModel", "endBlock", "()V"⟩, 56), (⟨"SwitchRulesModel", "pop", "()V"⟩, 56), (⟨"SwitchRulesModel", "through", "(Z)V"⟩, 56), (⟨"SwitchRulesModel", "emit", "(III)I"⟩, 56), (⟨"SwitchRulesModel", "stmt", "()V"⟩, 56), (⟨"SwitchRulesModel", "begin", "()V"⟩, 56)]
theorem lw_r4 : ∀ q ∈ lw_privs_4, lw_okq q := List.forall_mem_cons.mpr ⟨lw_p48, List.forall_mem_cons.mpr ⟨lw_p49, List.forall_mem_cons.mpr ⟨lw_p50, List.forall_mem_cons.mpr ⟨lw_p51, List.forall_mem_cons.mpr ⟨lw_p52, List.forall_mem_cons.mpr ⟨lw_p53, List.forall_mem_cons.mpr ⟨lw_p54, List.forall_mem_cons.mpr ⟨lw_p55, List.forall_mem_cons.mpr ⟨lw_p56, List.forall_mem_cons.mpr ⟨lw_p57, List.forall_mem_cons.mpr ⟨lw_p58, List.forall_mem_cons.mpr ⟨lw_p59, List.forall_mem_cons.mpr ⟨lw_p60, List.forall_mem_cons.mpr ⟨lw_p61, List.forall_mem_cons.mpr ⟨lw_p62, List.forall_mem_cons.mpr ⟨lw_p63, fun _ h => absurd h List.not_mem_nil⟩⟩⟩⟩⟩⟩⟩⟩⟩⟩⟩⟩⟩⟩⟩⟩
theorem lw_p64 : lw_okq (⟨"SwitchRulesModel", "isList", "()Z"⟩, 56) := ⟨⟨by decide +kernel, by decide +kernel⟩, List.mem_of_getElem? (i := 731) (by decide +kernel), List.mem_of_getElem? (i := 1052) (by decide +kernel), List.mem_of_getElem? (i := 1053) (by decide +kernel)⟩
theorem lw_p65 : lw_okq (⟨"SwitchRulesModel", "let", "()V"⟩, 56) := ⟨⟨by decide +kernel, by decide +kernel⟩, List.mem_of_getElem? (i := 731) (by decide +kernel), List.mem_of_getElem? (i := 1056) (by decide +kernel), List.mem_of_getElem? (i := 1057) (by decide +kernel)⟩
theorem lw_p66 : lw_okq (⟨"SwitchRulesModel", "inScope", "(J)I"⟩, 56) := ⟨⟨by decide +kernel, by decide +kernel⟩, List.mem_of_getElem? (i := 731) (by decide +kernel), List.mem_of_getElem? (i := 1060) (by decide +kernel), List.mem_of_getElem? (i := 1061) (by decide +kernel)⟩
theorem lw_p67 : lw_okq (⟨"SwitchRulesModel", "yieldStmt", "()V"⟩, 56) := ⟨⟨by decide +kernel, by decide +kernel⟩, List.mem_of_getElem? (i := 731) (by decide +kernel), List.mem_of_getElem? (i := 1064) (by decide +kernel), List.mem_of_getElem? (i := 1065) (by decide +kernel)⟩
theorem lw_p68 : lw_okq (⟨"SwitchRulesModel", "dead", "()V"⟩, 56) := ⟨⟨by decide +kernel, by decide +kernel⟩, List.mem_of_getElem? (i := 731) (by decide +kernel), List.mem_of_getElem? (i := 1068) (by decide +kernel), List.mem_of_getElem? (i := 1069) (by decide +kernel)⟩
theorem lw_p69 : lw_okq (⟨"SwitchRulesModel", "isSimple", "()Z"⟩, 56) := ⟨⟨by decide +kernel, by decide +kernel⟩, List.mem_of_getElem? (i := 731) (by decide +kernel), List.mem_of_getElem? (i := 1072) (by decide +kernel), List.mem_of_getElem? (i := 1073) (by decide +kernel)⟩
theorem lw_p70 : lw_okq (⟨"SwitchRulesModel", "simple", "()V"⟩, 56) := ⟨⟨by decide +kernel, by decide +kernel⟩, List.mem_of_getElem? (i := 731) (by decide +kernel), List.mem_of_getElem? (i := 1076) (by decide +kernel), List.mem_of_getElem? (i := 1077) (by decide +kernel)⟩
theorem lw_p71 : lw_okq (⟨"SwitchRulesModel", "use", "()V"⟩, 56) := ⟨⟨by decide +kernel, by decide +kernel⟩, List.mem_of_getElem? (i := 731) (by decide +kernel), List.mem_of_getElem? (i := 1080) (by decide +kernel), List.mem_of_getElem? (i := 1081) (by decide +kernel)⟩
theorem lw_p72 : lw_okq (⟨"SwitchRulesModel", "readBody", "()V"⟩, 56) := ⟨⟨by decide +kernel, by decide +kernel⟩, List.mem_of_getElem? (i := 731) (by decide +kernel), List.mem_of_getElem? (i := 1084) (by decide +kernel), List.mem_of_getElem? (i := 1085) (by decide +kernel)⟩
theorem lw_p73 : lw_okq (⟨"SwitchRulesModel", "emitEnd", "()V"⟩, 56) := ⟨⟨by decide +kernel, by decide +kernel⟩, List.mem_of_getElem? (i := 731) (by decide +kernel), List.mem_of_getElem? (i := 1088) (by decide +kernel), List.mem_of_getElem? (i := 1089) (by decide +kernel)⟩
theorem lw_p74 : lw_okq (⟨"SwitchRulesModel", "findKeys", "()V"⟩, 56) := ⟨⟨by decide +kernel, by decide +kernel⟩, List.mem_of_getElem? (i := 731) (by decide +kernel), List.mem_of_getElem? (i := 1092) (by decide +kernel), List.mem_of_getElem? (i := 1093) (by decide +kernel)⟩
theorem lw_p75 : lw_okq (⟨"SwitchRulesModel", "armFor", "(I)I"⟩, 56) := ⟨⟨by decide +kernel, by decide +kernel⟩, List.mem_of_getElem? (i := 731) (by decide +kernel), List.mem_of_getElem? (i := 1112) (by decide +kernel), List.mem_of_getElem? (i := 1113) (by decide +kernel)⟩
theorem lw_p76 : lw_okq (⟨"SwitchRulesModel", "isTextAt", "(I)Z"⟩, 56) := ⟨⟨by decide +kernel, by decide +kernel⟩, List.mem_of_getElem? (i := 731) (by decide +kernel), List.mem_of_getElem? (i := 1116) (by decide +kernel), List.mem_of_getElem? (i := 1117) (by decide +kernel)⟩
def lw_privs_5 : List (MethodName × Nat) := [(⟨"SwitchRulesModel", "isList", "()Z"⟩, 56), (⟨"SwitchRulesModel", "let", "()V"⟩, 56), (⟨"SwitchRulesModel", "inScope", "(J)I"⟩, 56), (⟨"SwitchRulesModel", "yieldStmt", "()V"⟩, 56), (⟨"SwitchRulesModel", "dead", "()V"⟩, 56), (⟨"SwitchRulesModel", "isSimple", "()Z"⟩, 56), (⟨"SwitchRulesModel", "simple", "()V"⟩, 56), (⟨"SwitchRulesModel", "use", "()V"⟩, 56), (⟨"SwitchRulesModel", "readBody", "()V"⟩, 56), (⟨"SwitchRulesModel", "emitEnd", "()V"⟩, 56), (⟨"SwitchRulesModel", "findKeys", "()V"⟩, 56), (⟨"SwitchRulesModel", "armFor", "(I)I"⟩, 56), (⟨"SwitchRulesModel", "isTextAt", "(I)Z"⟩, 56)]
theorem lw_r5 : ∀ q ∈ lw_privs_5, lw_okq q := List.forall_mem_cons.mpr ⟨lw_p64, List.forall_mem_cons.mpr ⟨lw_p65, List.forall_mem_cons.mpr ⟨lw_p66, List.forall_mem_cons.mpr ⟨lw_p67, List.forall_mem_cons.mpr ⟨lw_p68, List.forall_mem_cons.mpr ⟨lw_p69, List.forall_mem_cons.mpr ⟨lw_p70, List.forall_mem_cons.mpr ⟨lw_p71, List.forall_mem_cons.mpr ⟨lw_p72, List.forall_mem_cons.mpr ⟨lw_p73, List.forall_mem_cons.mpr ⟨lw_p74, List.forall_mem_cons.mpr ⟨lw_p75, List.forall_mem_cons.mpr ⟨lw_p76, fun _ h => absurd h List.not_mem_nil⟩⟩⟩⟩⟩⟩⟩⟩⟩⟩⟩⟩⟩
def lw_privs : List (MethodName × Nat) := lw_privs_1 ++ (lw_privs_2 ++ (lw_privs_3 ++ (lw_privs_4 ++ (lw_privs_5))))
def lw_tbl : List Cond := k2_sels lw_privs ++ tables_1
theorem lw_privs_ok : ∀ q ∈ lw_privs, lw_okq q := by
  show ∀ q ∈ lw_privs_1 ++ (lw_privs_2 ++ (lw_privs_3 ++ (lw_privs_4 ++ (lw_privs_5)))), lw_okq q
  exact List.forall_mem_append.mpr ⟨lw_r1, List.forall_mem_append.mpr ⟨lw_r2, List.forall_mem_append.mpr ⟨lw_r3, List.forall_mem_append.mpr ⟨lw_r4, lw_r5⟩⟩⟩⟩
/-! ===== BEGIN words of one list among another's, by their places ===== -/
theorem goodIn_r {big : List Cond} (ws : List Cond) (ps : List Nat) (hp : ws = ps.filterMap (fun i => big[i]?)) (h : ws.all goodWord = true) : GoodIn big ws := by
  intro w hw
  have h1 := List.all_eq_true.mp h w hw
  rw [hp] at hw
  obtain ⟨i, -, hi⟩ := List.mem_filterMap.mp hw
  have hm : w ∈ big := by first | exact List.mem_of_getElem? hi | exact List.getElem?_mem hi
  exact ⟨hm, good_of_word h1⟩
theorem goodIn_app {big a b : List Cond} (ha : GoodIn big a) (hb : GoodIn big b) : GoodIn big (a ++ b) := fun w h => (List.mem_append.mp h).elim (ha w) (hb w)
theorem goodIn_ca {big a b : List Cond} {c : Cond} (ha : GoodIn big (c :: a)) (hb : GoodIn big b) : GoodIn big (c :: (a ++ b)) := fun w h => (List.mem_cons.mp h).elim (fun e => ha w (List.mem_cons.mpr (Or.inl e))) (fun h => (List.mem_append.mp h).elim (fun h => ha w (List.mem_cons.mpr (Or.inr h))) (hb w))
theorem goodIn_sub {big ws : List Cond} (hm : ∀ w ∈ ws, w ∈ big) (h : ws.all goodWord = true) : GoodIn big ws := fun w hw => ⟨hm w hw, good_of_word (List.all_eq_true.mp h w hw)⟩
/-! ===== END ===== -/

/-! ===== BEGIN printed: names, fields, word lists, decode rows ===== -/
def RX0 : String := "SwitchRules$Code"
def TX0 : u_T := fun k => match k with
  | 0 => ("SwitchRules$Code", "kinds", "[B", true)
  | 1 => ("SwitchRules$Code", "firsts", "[I", true)
  | 2 => ("SwitchRules$Code", "seconds", "[I", true)
  | _ => ("SwitchRules$Code", "length", "I", false)
def tyX0 : Nat → FieldType := fun k => match k with
  | 0 => .array .byte
  | 1 => .array .int
  | 2 => .array .int
  | _ => .int
abbrev wsX00 : List Cond := u_ws RX0 TX0 4
theorem nmX0 : ∀ a, a < 4 → ∀ b, b < 4 → a ≠ b → (TX0 a).2.1 ≠ (TX0 b).2.1 := by decide +kernel
theorem tyX0_ok : ∀ k, k < 4 → parseFieldDescriptor (TX0 k).2.2.1 = some (tyX0 k) := by decide +kernel
abbrev cX0_init : ByteArray := prog_2_method_1_code
def yX0_init : MethodName := ⟨RX0, "<init>", "()V"⟩
abbrev cX0_step : ByteArray := prog_2_method_2_code
def yX0_step : MethodName := ⟨RX0, "step", "(III)V"⟩
abbrev cX0_leadHere : ByteArray := prog_2_method_3_code
def yX0_leadHere : MethodName := ⟨RX0, "leadHere", "(I)V"⟩
def RX1 : String := "SwitchRules$Judge"
def TX1 : u_T := fun k => match k with
  | 0 => ("SwitchRules$Judge", "tokens", "LSwitchRules$Tokens;", true)
  | 1 => ("SwitchRules$Judge", "unit", "LSwitchRules$Unit;", true)
  | 2 => ("SwitchRules$Judge", "scope", "LSwitchRules$Scope;", true)
  | 3 => ("SwitchRules$Judge", "enumerationNames", "[J", true)
  | 4 => ("SwitchRules$Judge", "constantCounts", "[I", true)
  | 5 => ("SwitchRules$Judge", "constantNames", "[J", true)
  | 6 => ("SwitchRules$Judge", "enumerationCount", "I", false)
  | 7 => ("SwitchRules$Judge", "chosen", "I", false)
  | 8 => ("SwitchRules$Judge", "at", "I", false)
  | 9 => ("SwitchRules$Judge", "fault", "I", false)
  | _ => ("SwitchRules$Judge", "place", "I", false)
def tyX1 : Nat → FieldType := fun k => match k with
  | 0 => .object "SwitchRules$Tokens"
  | 1 => .object "SwitchRules$Unit"
  | 2 => .object "SwitchRules$Scope"
  | 3 => .array .long
  | 4 => .array .int
  | 5 => .array .long
  | 6 => .int
  | 7 => .int
  | 8 => .int
  | 9 => .int
  | _ => .int
abbrev wsX10 : List Cond := u_ws RX1 TX1 11
theorem nmX1 : ∀ a, a < 11 → ∀ b, b < 11 → a ≠ b → (TX1 a).2.1 ≠ (TX1 b).2.1 := by decide +kernel
theorem tyX1_ok : ∀ k, k < 11 → parseFieldDescriptor (TX1 k).2.2.1 = some (tyX1 k) := by decide +kernel
abbrev cX1_init : ByteArray := prog_3_method_1_code
def yX1_init : MethodName := ⟨RX1, "<init>", "(LSwitchRules$Tokens;LSwitchRules$Unit;)V"⟩
abbrev cX1_begin : ByteArray := prog_3_method_2_code
def yX1_begin : MethodName := ⟨RX1, "begin", "()V"⟩
abbrev cX1_kind : ByteArray := prog_3_method_3_code
def yX1_kind : MethodName := ⟨RX1, "kind", "()I"⟩
abbrev cX1_tokenValue : ByteArray := prog_3_method_4_code
def yX1_tokenValue : MethodName := ⟨RX1, "tokenValue", "()J"⟩
abbrev cX1_fail : ByteArray := prog_3_method_5_code
def yX1_fail : MethodName := ⟨RX1, "fail", "(II)V"⟩
abbrev cX1_expect : ByteArray := prog_3_method_6_code
def yX1_expect : MethodName := ⟨RX1, "expect", "(I)V"⟩
abbrev cX1_enumerations : ByteArray := prog_3_method_7_code
def yX1_enumerations : MethodName := ⟨RX1, "enumerations", "()V"⟩
abbrev cX1_enumeration : ByteArray := prog_3_method_8_code
def yX1_enumeration : MethodName := ⟨RX1, "enumeration", "()V"⟩
abbrev cX1_constants : ByteArray := prog_3_method_9_code
def yX1_constants : MethodName := ⟨RX1, "constants", "(I)V"⟩
abbrev cX1_constant : ByteArray := prog_3_method_10_code
def yX1_constant : MethodName := ⟨RX1, "constant", "(I)V"⟩
abbrev cX1_findEnumeration : ByteArray := prog_3_method_11_code
def yX1_findEnumeration : MethodName := ⟨RX1, "findEnumeration", "(J)I"⟩
abbrev cX1_constantCount : ByteArray := prog_3_method_12_code
def yX1_constantCount : MethodName := ⟨RX1, "constantCount", "(I)I"⟩
abbrev cX1_findConstant : ByteArray := prog_3_method_13_code
def yX1_findConstant : MethodName := ⟨RX1, "findConstant", "(IJ)I"⟩
abbrev cX1_selector : ByteArray := prog_3_method_14_code
def yX1_selector : MethodName := ⟨RX1, "selector", "()V"⟩
abbrev cX1_chooseEnumeration : ByteArray := prog_3_method_15_code
def yX1_chooseEnumeration : MethodName := ⟨RX1, "chooseEnumeration", "()V"⟩
abbrev cX1_arms : ByteArray := prog_3_method_16_code
def yX1_arms : MethodName := ⟨RX1, "arms", "()V"⟩
abbrev cX1_arm : ByteArray := prog_3_method_17_code
def yX1_arm : MethodName := ⟨RX1, "arm", "(I)V"⟩
abbrev cX1_labels : ByteArray := prog_3_method_18_code
def yX1_labels : MethodName := ⟨RX1, "labels", "()V"⟩
abbrev cX1_oneLabel : ByteArray := prog_3_method_19_code
def yX1_oneLabel : MethodName := ⟨RX1, "oneLabel", "()V"⟩
abbrev cX1_body : ByteArray := prog_3_method_20_code
def yX1_body : MethodName := ⟨RX1, "body", "()V"⟩
abbrev cX1_stmts : ByteArray := prog_3_method_21_code
def yX1_stmts : MethodName := ⟨RX1, "stmts", "(I)V"⟩
abbrev cX1_beginsStmt : ByteArray := prog_3_method_22_code
def yX1_beginsStmt : MethodName := ⟨RX1, "beginsStmt", "(I)Z"⟩
abbrev cX1_openStmt : ByteArray := prog_3_method_23_code
def yX1_openStmt : MethodName := ⟨RX1, "openStmt", "(I)V"⟩
abbrev cX1_stmt : ByteArray := prog_3_method_24_code
def yX1_stmt : MethodName := ⟨RX1, "stmt", "(I)V"⟩
abbrev cX1_block : ByteArray := prog_3_method_25_code
def yX1_block : MethodName := ⟨RX1, "block", "(I)V"⟩
abbrev cX1_branches : ByteArray := prog_3_method_26_code
def yX1_branches : MethodName := ⟨RX1, "branches", "(I)V"⟩
abbrev cX1_let : ByteArray := prog_3_method_27_code
def yX1_let : MethodName := ⟨RX1, "let", "()V"⟩
abbrev cX1_setName : ByteArray := prog_3_method_28_code
def yX1_setName : MethodName := ⟨RX1, "setName", "(II)V"⟩
abbrev cX1_simple : ByteArray := prog_3_method_29_code
def yX1_simple : MethodName := ⟨RX1, "simple", "()V"⟩
abbrev cX1_useName : ByteArray := prog_3_method_30_code
def yX1_useName : MethodName := ⟨RX1, "useName", "()V"⟩
abbrev cX1_yieldNumber : ByteArray := prog_3_method_31_code
def yX1_yieldNumber : MethodName := ⟨RX1, "yieldNumber", "()V"⟩
abbrev cX1_leave : ByteArray := prog_3_method_32_code
def yX1_leave : MethodName := ⟨RX1, "leave", "(II)V"⟩
abbrev cX1_number : ByteArray := prog_3_method_33_code
def yX1_number : MethodName := ⟨RX1, "number", "()I"⟩
abbrev cX1_end : ByteArray := prog_3_method_34_code
def yX1_end : MethodName := ⟨RX1, "end", "()V"⟩
def RX2 : String := "SwitchRules$Octets"
def TX2 : u_T := fun k => match k with
  | 0 => ("SwitchRules$Octets", "octets", "[C", true)
  | _ => ("SwitchRules$Octets", "length", "I", false)
def tyX2 : Nat → FieldType := fun k => match k with
  | 0 => .array .char
  | _ => .int
abbrev wsX20 : List Cond := u_ws RX2 TX2 2
theorem nmX2 : ∀ a, a < 2 → ∀ b, b < 2 → a ≠ b → (TX2 a).2.1 ≠ (TX2 b).2.1 := by decide +kernel
theorem tyX2_ok : ∀ k, k < 2 → parseFieldDescriptor (TX2 k).2.2.1 = some (tyX2 k) := by decide +kernel
abbrev cX2_init : ByteArray := prog_4_method_1_code
def yX2_init : MethodName := ⟨RX2, "<init>", "()V"⟩
abbrev cX2_at : ByteArray := prog_4_method_2_code
def yX2_at : MethodName := ⟨RX2, "at", "(I)I"⟩
abbrev cX2_append : ByteArray := prog_4_method_3_code
def yX2_append : MethodName := ⟨RX2, "append", "(JI)Z"⟩
abbrev cX2_packed : ByteArray := prog_4_method_4_code
def yX2_packed : MethodName := ⟨RX2, "packed", "(II)J"⟩
abbrev cX2_whole : ByteArray := prog_4_method_5_code
def yX2_whole : MethodName := ⟨RX2, "whole", "()J"⟩
abbrev cX2_wholeHash : ByteArray := prog_4_method_6_code
def yX2_wholeHash : MethodName := ⟨RX2, "wholeHash", "()I"⟩
def RX3 : String := "SwitchRules$Runner"
def TX3 : u_T := fun k => match k with
  | 0 => ("SwitchRules$Runner", "trace", "[I", true)
  | 1 => ("SwitchRules$Runner", "names", "[I", true)
  | 2 => ("SwitchRules$Runner", "traceLength", "I", false)
  | 3 => ("SwitchRules$Runner", "result", "I", false)
  | _ => ("SwitchRules$Runner", "hasRun", "Z", false)
def tyX3 : Nat → FieldType := fun k => match k with
  | 0 => .array .int
  | 1 => .array .int
  | 2 => .int
  | 3 => .int
  | _ => .boolean
abbrev wsX30 : List Cond := u_ws RX3 TX3 5
theorem nmX3 : ∀ a, a < 5 → ∀ b, b < 5 → a ≠ b → (TX3 a).2.1 ≠ (TX3 b).2.1 := by decide +kernel
theorem tyX3_ok : ∀ k, k < 5 → parseFieldDescriptor (TX3 k).2.2.1 = some (tyX3 k) := by decide +kernel
abbrev cX3_init : ByteArray := prog_5_method_1_code
def yX3_init : MethodName := ⟨RX3, "<init>", "()V"⟩
abbrev cX3_forget : ByteArray := prog_5_method_2_code
def yX3_forget : MethodName := ⟨RX3, "forget", "()V"⟩
abbrev cX3_begin : ByteArray := prog_5_method_3_code
def yX3_begin : MethodName := ⟨RX3, "begin", "()V"⟩
abbrev cX3_go : ByteArray := prog_5_method_4_code
def yX3_go : MethodName := ⟨RX3, "go", "(LSwitchRules$Code;II)I"⟩
abbrev cX3_isName : ByteArray := prog_5_method_5_code
def yX3_isName : MethodName := ⟨RX3, "isName", "(I)Z"⟩
abbrev cX3_addToTrace : ByteArray := prog_5_method_6_code
def yX3_addToTrace : MethodName := ⟨RX3, "addToTrace", "(I)V"⟩
def RX4 : String := "SwitchRules$Scope"
def TX4 : u_T := fun k => match k with
  | 0 => ("SwitchRules$Scope", "names", "[J", true)
  | 1 => ("SwitchRules$Scope", "count", "I", false)
  | _ => ("SwitchRules$Scope", "set", "I", false)
def tyX4 : Nat → FieldType := fun k => match k with
  | 0 => .array .long
  | 1 => .int
  | _ => .int
abbrev wsX40 : List Cond := u_ws RX4 TX4 3
theorem nmX4 : ∀ a, a < 3 → ∀ b, b < 3 → a ≠ b → (TX4 a).2.1 ≠ (TX4 b).2.1 := by decide +kernel
theorem tyX4_ok : ∀ k, k < 3 → parseFieldDescriptor (TX4 k).2.2.1 = some (tyX4 k) := by decide +kernel
abbrev cX4_init : ByteArray := prog_6_method_1_code
def yX4_init : MethodName := ⟨RX4, "<init>", "()V"⟩
abbrev cX4_find : ByteArray := prog_6_method_2_code
def yX4_find : MethodName := ⟨RX4, "find", "(J)I"⟩
abbrev cX4_add : ByteArray := prog_6_method_3_code
def yX4_add : MethodName := ⟨RX4, "add", "(J)I"⟩
abbrev cX4_shrink : ByteArray := prog_6_method_4_code
def yX4_shrink : MethodName := ⟨RX4, "shrink", "(I)V"⟩
abbrev cX4_isSet : ByteArray := prog_6_method_5_code
def yX4_isSet : MethodName := ⟨RX4, "isSet", "(I)Z"⟩
abbrev cX4_makeSet : ByteArray := prog_6_method_6_code
def yX4_makeSet : MethodName := ⟨RX4, "makeSet", "(I)V"⟩
abbrev cX4_isReached : ByteArray := prog_6_method_7_code
def yX4_isReached : MethodName := ⟨RX4, "isReached", "()Z"⟩
def RX5 : String := "SwitchRules$Table"
def TX5 : u_T := fun k => match k with
  | 0 => ("SwitchRules$Table", "keys", "[I", true)
  | 1 => ("SwitchRules$Table", "targets", "[I", true)
  | 2 => ("SwitchRules$Table", "alikes", "[I", true)
  | _ => ("SwitchRules$Table", "count", "I", false)
def tyX5 : Nat → FieldType := fun k => match k with
  | 0 => .array .int
  | 1 => .array .int
  | 2 => .array .int
  | _ => .int
abbrev wsX50 : List Cond := u_ws RX5 TX5 4
theorem nmX5 : ∀ a, a < 4 → ∀ b, b < 4 → a ≠ b → (TX5 a).2.1 ≠ (TX5 b).2.1 := by decide +kernel
theorem tyX5_ok : ∀ k, k < 4 → parseFieldDescriptor (TX5 k).2.2.1 = some (tyX5 k) := by decide +kernel
abbrev cX5_init : ByteArray := prog_7_method_1_code
def yX5_init : MethodName := ⟨RX5, "<init>", "()V"⟩
abbrev cX5_make : ByteArray := prog_7_method_2_code
def yX5_make : MethodName := ⟨RX5, "make", "(LSwitchRules$Unit;)V"⟩
abbrev cX5_put : ByteArray := prog_7_method_3_code
def yX5_put : MethodName := ⟨RX5, "put", "(II)V"⟩
abbrev cX5_has : ByteArray := prog_7_method_4_code
def yX5_has : MethodName := ⟨RX5, "has", "(I)Z"⟩
abbrev cX5_isDense : ByteArray := prog_7_method_5_code
def yX5_isDense : MethodName := ⟨RX5, "isDense", "()Z"⟩
def RX6 : String := "SwitchRules$Tokens"
def TX6 : u_T := fun k => match k with
  | 0 => ("SwitchRules$Tokens", "kinds", "[B", true)
  | 1 => ("SwitchRules$Tokens", "places", "[S", true)
  | 2 => ("SwitchRules$Tokens", "values", "[J", true)
  | 3 => ("SwitchRules$Tokens", "words", "[J", true)
  | _ => ("SwitchRules$Tokens", "count", "I", false)
def tyX6 : Nat → FieldType := fun k => match k with
  | 0 => .array .byte
  | 1 => .array .short
  | 2 => .array .long
  | 3 => .array .long
  | _ => .int
abbrev wsX60 : List Cond := u_ws RX6 TX6 5
theorem nmX6 : ∀ a, a < 5 → ∀ b, b < 5 → a ≠ b → (TX6 a).2.1 ≠ (TX6 b).2.1 := by decide +kernel
theorem tyX6_ok : ∀ k, k < 5 → parseFieldDescriptor (TX6 k).2.2.1 = some (tyX6 k) := by decide +kernel
abbrev cX6_init : ByteArray := prog_8_method_1_code
def yX6_init : MethodName := ⟨RX6, "<init>", "()V"⟩
abbrev cX6_packedWord : ByteArray := prog_8_method_2_code
def yX6_packedWord : MethodName := ⟨RX6, "packedWord", "(Ljava/lang/String;)J"⟩
abbrev cX6_cut : ByteArray := prog_8_method_3_code
def yX6_cut : MethodName := ⟨RX6, "cut", "(LSwitchRules$Octets;)V"⟩
abbrev cX6_behindBlanks : ByteArray := prog_8_method_4_code
def yX6_behindBlanks : MethodName := ⟨RX6, "behindBlanks", "(LSwitchRules$Octets;I)I"⟩
abbrev cX6_cutOne : ByteArray := prog_8_method_5_code
def yX6_cutOne : MethodName := ⟨RX6, "cutOne", "(LSwitchRules$Octets;II)I"⟩
abbrev cX6_cutName : ByteArray := prog_8_method_6_code
def yX6_cutName : MethodName := ⟨RX6, "cutName", "(LSwitchRules$Octets;I)I"⟩
abbrev cX6_nameKind : ByteArray := prog_8_method_7_code
def yX6_nameKind : MethodName := ⟨RX6, "nameKind", "(J)I"⟩
abbrev cX6_cutNumber : ByteArray := prog_8_method_8_code
def yX6_cutNumber : MethodName := ⟨RX6, "cutNumber", "(LSwitchRules$Octets;I)I"⟩
abbrev cX6_cutText : ByteArray := prog_8_method_9_code
def yX6_cutText : MethodName := ⟨RX6, "cutText", "(LSwitchRules$Octets;I)I"⟩
abbrev cX6_isSmall : ByteArray := prog_8_method_10_code
def yX6_isSmall : MethodName := ⟨RX6, "isSmall", "(I)Z"⟩
abbrev cX6_isFigure : ByteArray := prog_8_method_11_code
def yX6_isFigure : MethodName := ⟨RX6, "isFigure", "(I)Z"⟩
abbrev cX6_isTextSign : ByteArray := prog_8_method_12_code
def yX6_isTextSign : MethodName := ⟨RX6, "isTextSign", "(I)Z"⟩
abbrev cX6_signKind : ByteArray := prog_8_method_13_code
def yX6_signKind : MethodName := ⟨RX6, "signKind", "(I)I"⟩
abbrev cX6_keep : ByteArray := prog_8_method_14_code
def yX6_keep : MethodName := ⟨RX6, "keep", "(IIJ)V"⟩
def RX7 : String := "SwitchRules$Unit"
def TX7 : u_T := fun k => match k with
  | 0 => ("SwitchRules$Unit", "there", "Z", false)
  | 1 => ("SwitchRules$Unit", "isValue", "Z", false)
  | 2 => ("SwitchRules$Unit", "sort", "I", false)
  | 3 => ("SwitchRules$Unit", "constants", "I", false)
  | 4 => ("SwitchRules$Unit", "arms", "I", false)
  | 5 => ("SwitchRules$Unit", "labels", "I", false)
  | 6 => ("SwitchRules$Unit", "stmts", "I", false)
  | 7 => ("SwitchRules$Unit", "defaultArm", "I", false)
  | 8 => ("SwitchRules$Unit", "hasOldArms", "Z", false)
  | 9 => ("SwitchRules$Unit", "armStarts", "[I", true)
  | 10 => ("SwitchRules$Unit", "labelArms", "[I", true)
  | 11 => ("SwitchRules$Unit", "labelKeys", "[I", true)
  | 12 => ("SwitchRules$Unit", "labelSigns", "[J", true)
  | _ => ("SwitchRules$Unit", "code", "LSwitchRules$Code;", true)
def tyX7 : Nat → FieldType := fun k => match k with
  | 0 => .boolean
  | 1 => .boolean
  | 2 => .int
  | 3 => .int
  | 4 => .int
  | 5 => .int
  | 6 => .int
  | 7 => .int
  | 8 => .boolean
  | 9 => .array .int
  | 10 => .array .int
  | 11 => .array .int
  | 12 => .array .long
  | _ => .object "SwitchRules$Code"
abbrev wsX70 : List Cond := u_ws RX7 TX7 14
theorem nmX7 : ∀ a, a < 14 → ∀ b, b < 14 → a ≠ b → (TX7 a).2.1 ≠ (TX7 b).2.1 := by decide +kernel
theorem tyX7_ok : ∀ k, k < 14 → parseFieldDescriptor (TX7 k).2.2.1 = some (tyX7 k) := by decide +kernel
abbrev cX7_init : ByteArray := prog_9_method_1_code
def yX7_init : MethodName := ⟨RX7, "<init>", "()V"⟩
abbrev cX7_clear : ByteArray := prog_9_method_2_code
def yX7_clear : MethodName := ⟨RX7, "clear", "()V"⟩
abbrev cX7_addArm : ByteArray := prog_9_method_3_code
def yX7_addArm : MethodName := ⟨RX7, "addArm", "()V"⟩
abbrev cX7_startOf : ByteArray := prog_9_method_4_code
def yX7_startOf : MethodName := ⟨RX7, "startOf", "(I)I"⟩
abbrev cX7_addLabel : ByteArray := prog_9_method_5_code
def yX7_addLabel : MethodName := ⟨RX7, "addLabel", "(J)V"⟩
abbrev cX7_packedHash : ByteArray := prog_9_method_6_code
def yX7_packedHash : MethodName := ⟨RX7, "packedHash", "(J)I"⟩
abbrev cX7_hasLabel : ByteArray := prog_9_method_7_code
def yX7_hasLabel : MethodName := ⟨RX7, "hasLabel", "(J)Z"⟩
abbrev cX7_labelWith : ByteArray := prog_9_method_8_code
def yX7_labelWith : MethodName := ⟨RX7, "labelWith", "(J)I"⟩
abbrev cX7_armFor : ByteArray := prog_9_method_9_code
def yX7_armFor : MethodName := ⟨RX7, "armFor", "(J)I"⟩
abbrev cX7_isExhaustive : ByteArray := prog_9_method_10_code
def yX7_isExhaustive : MethodName := ⟨RX7, "isExhaustive", "()Z"⟩
def RX8 : String := "SwitchRules"
def TX8 : u_T := fun k => match k with
  | 0 => ("SwitchRules", "text", "LSwitchRules$Octets;", true)
  | 1 => ("SwitchRules", "tokens", "LSwitchRules$Tokens;", true)
  | 2 => ("SwitchRules", "unit", "LSwitchRules$Unit;", true)
  | 3 => ("SwitchRules", "judge", "LSwitchRules$Judge;", true)
  | 4 => ("SwitchRules", "table", "LSwitchRules$Table;", true)
  | _ => ("SwitchRules", "runner", "LSwitchRules$Runner;", true)
def tyX8 : Nat → FieldType := fun k => match k with
  | 0 => .object "SwitchRules$Octets"
  | 1 => .object "SwitchRules$Tokens"
  | 2 => .object "SwitchRules$Unit"
  | 3 => .object "SwitchRules$Judge"
  | 4 => .object "SwitchRules$Table"
  | _ => .object "SwitchRules$Runner"
abbrev wsX80 : List Cond := u_ws RX8 TX8 6
theorem nmX8 : ∀ a, a < 6 → ∀ b, b < 6 → a ≠ b → (TX8 a).2.1 ≠ (TX8 b).2.1 := by decide +kernel
theorem tyX8_ok : ∀ k, k < 6 → parseFieldDescriptor (TX8 k).2.2.1 = some (tyX8 k) := by decide +kernel
abbrev cX8_init : ByteArray := prog_1_method_1_code
def yX8_init : MethodName := ⟨RX8, "<init>", "()V"⟩
abbrev cX8_type : ByteArray := prog_1_method_2_code
def yX8_type : MethodName := ⟨RX8, "type", "(JI)I"⟩
abbrev cX8_read : ByteArray := prog_1_method_3_code
def yX8_read : MethodName := ⟨RX8, "read", "()I"⟩
abbrev cX8_place : ByteArray := prog_1_method_4_code
def yX8_place : MethodName := ⟨RX8, "place", "()I"⟩
abbrev cX8_told : ByteArray := prog_1_method_5_code
def yX8_told : MethodName := ⟨RX8, "told", "(I)I"⟩
abbrev cX8_label : ByteArray := prog_1_method_6_code
def yX8_label : MethodName := ⟨RX8, "label", "(II)I"⟩
abbrev cX8_run : ByteArray := prog_1_method_7_code
def yX8_run : MethodName := ⟨RX8, "run", "(II)I"⟩
abbrev cX8_runNone : ByteArray := prog_1_method_8_code
def yX8_runNone : MethodName := ⟨RX8, "runNone", "()I"⟩
abbrev cX8_traced : ByteArray := prog_1_method_9_code
def yX8_traced : MethodName := ⟨RX8, "traced", "()I"⟩
abbrev cX8_trace : ByteArray := prog_1_method_10_code
def yX8_trace : MethodName := ⟨RX8, "trace", "(I)I"⟩
abbrev cX8_value : ByteArray := prog_1_method_11_code
def yX8_value : MethodName := ⟨RX8, "value", "()I"⟩
abbrev cX8_form : ByteArray := prog_1_method_12_code
def yX8_form : MethodName := ⟨RX8, "form", "()I"⟩
abbrev cX8_keys : ByteArray := prog_1_method_13_code
def yX8_keys : MethodName := ⟨RX8, "keys", "()I"⟩
abbrev cX8_key : ByteArray := prog_1_method_14_code
def yX8_key : MethodName := ⟨RX8, "key", "(I)I"⟩
abbrev cX8_target : ByteArray := prog_1_method_15_code
def yX8_target : MethodName := ⟨RX8, "target", "(I)I"⟩
abbrev cX8_alike : ByteArray := prog_1_method_16_code
def yX8_alike : MethodName := ⟨RX8, "alike", "(I)I"⟩
abbrev cX8_hash : ByteArray := prog_1_method_17_code
def yX8_hash : MethodName := ⟨RX8, "hash", "()I"⟩
def RX9 : String := "SwitchRulesModel"
def TX9 : u_T := fun k => match k with
  | 0 => ("SwitchRulesModel", "key", "[J", true)
  | 1 => ("SwitchRulesModel", "text", "[B", true)
  | 2 => ("SwitchRulesModel", "textSize", "I", false)
  | 3 => ("SwitchRulesModel", "pos", "I", false)
  | 4 => ("SwitchRulesModel", "token", "I", false)
  | 5 => ("SwitchRulesModel", "tokenPlace", "I", false)
  | 6 => ("SwitchRulesModel", "tokenName", "J", false)
  | 7 => ("SwitchRulesModel", "tokenValue", "I", false)
  | 8 => ("SwitchRulesModel", "fault", "I", false)
  | 9 => ("SwitchRulesModel", "faultPlace", "I", false)
  | 10 => ("SwitchRulesModel", "lastPlace", "I", false)
  | 11 => ("SwitchRulesModel", "has", "Z", false)
  | 12 => ("SwitchRulesModel", "enums", "I", false)
  | 13 => ("SwitchRulesModel", "enumName", "[J", true)
  | 14 => ("SwitchRulesModel", "constants", "[I", true)
  | 15 => ("SwitchRulesModel", "constantName", "[J", true)
  | 16 => ("SwitchRulesModel", "isValue", "Z", false)
  | 17 => ("SwitchRulesModel", "sort", "I", false)
  | 18 => ("SwitchRulesModel", "selector", "I", false)
  | 19 => ("SwitchRulesModel", "arms", "I", false)
  | 20 => ("SwitchRulesModel", "armAt", "[I", true)
  | 21 => ("SwitchRulesModel", "labels", "I", false)
  | 22 => ("SwitchRulesModel", "labelArm", "[I", true)
  | 23 => ("SwitchRulesModel", "labelNumber", "[I", true)
  | 24 => ("SwitchRulesModel", "labelText", "[J", true)
  | 25 => ("SwitchRulesModel", "labelSize", "[I", true)
  | 26 => ("SwitchRulesModel", "stmts", "I", false)
  | 27 => ("SwitchRulesModel", "defaultArm", "I", false)
  | 28 => ("SwitchRulesModel", "hasOld", "Z", false)
  | 29 => ("SwitchRulesModel", "hasArrow", "Z", false)
  | 30 => ("SwitchRulesModel", "act", "[I", true)
  | 31 => ("SwitchRulesModel", "actA", "[I", true)
  | 32 => ("SwitchRulesModel", "actB", "[I", true)
  | 33 => ("SwitchRulesModel", "acts", "I", false)
  | 34 => ("SwitchRulesModel", "scopeName", "[J", true)
  | 35 => ("SwitchRulesModel", "scope", "I", false)
  | 36 => ("SwitchRulesModel", "set", "I", false)
  | 37 => ("SwitchRulesModel", "open", "[I", true)
  | 38 => ("SwitchRulesModel", "openEnds", "[Z", true)
  | 39 => ("SwitchRulesModel", "openScope", "[I", true)
  | 40 => ("SwitchRulesModel", "openBefore", "[I", true)
  | 41 => ("SwitchRulesModel", "openThen", "[I", true)
  | 42 => ("SwitchRulesModel", "openAct", "[I", true)
  | 43 => ("SwitchRulesModel", "openJump", "[I", true)
  | 44 => ("SwitchRulesModel", "opened", "I", false)
  | 45 => ("SwitchRulesModel", "depth", "I", false)
  | 46 => ("SwitchRulesModel", "lastEnds", "Z", false)
  | 47 => ("SwitchRulesModel", "hasRun", "Z", false)
  | 48 => ("SwitchRulesModel", "ranValue", "I", false)
  | 49 => ("SwitchRulesModel", "traces", "I", false)
  | 50 => ("SwitchRulesModel", "traced", "[I", true)
  | 51 => ("SwitchRulesModel", "names", "[I", true)
  | 52 => ("SwitchRulesModel", "keys", "I", false)
  | 53 => ("SwitchRulesModel", "keyOf", "[I", true)
  | 54 => ("SwitchRulesModel", "targets", "[I", true)
  | _ => ("SwitchRulesModel", "alikes", "[I", true)
def tyX9 : Nat → FieldType := fun k => match k with
  | 0 => .array .long
  | 1 => .array .byte
  | 2 => .int
  | 3 => .int
  | 4 => .int
  | 5 => .int
  | 6 => .long
  | 7 => .int
  | 8 => .int
  | 9 => .int
  | 10 => .int
  | 11 => .boolean
  | 12 => .int
  | 13 => .array .long
  | 14 => .array .int
  | 15 => .array .long
  | 16 => .boolean
  | 17 => .int
  | 18 => .int
  | 19 => .int
  | 20 => .array .int
  | 21 => .int
  | 22 => .array .int
  | 23 => .array .int
  | 24 => .array .long
  | 25 => .array .int
  | 26 => .int
  | 27 => .int
  | 28 => .boolean
  | 29 => .boolean
  | 30 => .array .int
  | 31 => .array .int
  | 32 => .array .int
  | 33 => .int
  | 34 => .array .long
  | 35 => .int
  | 36 => .int
  | 37 => .array .int
  | 38 => .array .boolean
  | 39 => .array .int
  | 40 => .array .int
  | 41 => .array .int
  | 42 => .array .int
  | 43 => .array .int
  | 44 => .int
  | 45 => .int
  | 46 => .boolean
  | 47 => .boolean
  | 48 => .int
  | 49 => .int
  | 50 => .array .int
  | 51 => .array .int
  | 52 => .int
  | 53 => .array .int
  | 54 => .array .int
  | _ => .array .int
abbrev wsX90 : List Cond := u_ws RX9 TX9 56
theorem nmX9 : ∀ a, a < 56 → ∀ b, b < 56 → a ≠ b → (TX9 a).2.1 ≠ (TX9 b).2.1 := by decide +kernel
theorem tyX9_ok : ∀ k, k < 56 → parseFieldDescriptor (TX9 k).2.2.1 = some (tyX9 k) := by decide +kernel
abbrev cX9_init : ByteArray := prog_11_method_1_code
def yX9_init : MethodName := ⟨RX9, "<init>", "()V"⟩
abbrev cX9_type : ByteArray := prog_11_method_2_code
def yX9_type : MethodName := ⟨RX9, "type", "(JI)I"⟩
abbrev cX9_octet : ByteArray := prog_11_method_3_code
def yX9_octet : MethodName := ⟨RX9, "octet", "(I)I"⟩
abbrev cX9_isSmall : ByteArray := prog_11_method_4_code
def yX9_isSmall : MethodName := ⟨RX9, "isSmall", "(I)Z"⟩
abbrev cX9_isFigure : ByteArray := prog_11_method_5_code
def yX9_isFigure : MethodName := ⟨RX9, "isFigure", "(I)Z"⟩
abbrev cX9_next : ByteArray := prog_11_method_6_code
def yX9_next : MethodName := ⟨RX9, "next", "()V"⟩
abbrev cX9_nextName : ByteArray := prog_11_method_7_code
def yX9_nextName : MethodName := ⟨RX9, "nextName", "()V"⟩
abbrev cX9_nextNumber : ByteArray := prog_11_method_8_code
def yX9_nextNumber : MethodName := ⟨RX9, "nextNumber", "()V"⟩
abbrev cX9_nextText : ByteArray := prog_11_method_9_code
def yX9_nextText : MethodName := ⟨RX9, "nextText", "()V"⟩
abbrev cX9_wrong : ByteArray := prog_11_method_10_code
def yX9_wrong : MethodName := ⟨RX9, "wrong", "(I)V"⟩
abbrev cX9_wrongAt : ByteArray := prog_11_method_11_code
def yX9_wrongAt : MethodName := ⟨RX9, "wrongAt", "(II)V"⟩
abbrev cX9_cannot : ByteArray := prog_11_method_12_code
def yX9_cannot : MethodName := ⟨RX9, "cannot", "()V"⟩
abbrev cX9_isSign : ByteArray := prog_11_method_13_code
def yX9_isSign : MethodName := ⟨RX9, "isSign", "(I)Z"⟩
abbrev cX9_isWord : ByteArray := prog_11_method_14_code
def yX9_isWord : MethodName := ⟨RX9, "isWord", "(I)Z"⟩
abbrev cX9_wantsSign : ByteArray := prog_11_method_15_code
def yX9_wantsSign : MethodName := ⟨RX9, "wantsSign", "(I)V"⟩
abbrev cX9_number : ByteArray := prog_11_method_16_code
def yX9_number : MethodName := ⟨RX9, "number", "()I"⟩
abbrev cX9_signed : ByteArray := prog_11_method_17_code
def yX9_signed : MethodName := ⟨RX9, "signed", "()I"⟩
abbrev cX9_readEnum : ByteArray := prog_11_method_18_code
def yX9_readEnum : MethodName := ⟨RX9, "readEnum", "()V"⟩
abbrev cX9_constantOf : ByteArray := prog_11_method_19_code
def yX9_constantOf : MethodName := ⟨RX9, "constantOf", "(IJ)I"⟩
abbrev cX9_readHead : ByteArray := prog_11_method_20_code
def yX9_readHead : MethodName := ⟨RX9, "readHead", "()V"⟩
abbrev cX9_isOther : ByteArray := prog_11_method_21_code
def yX9_isOther : MethodName := ⟨RX9, "isOther", "(IJI)Z"⟩
abbrev cX9_hashOf : ByteArray := prog_11_method_22_code
def yX9_hashOf : MethodName := ⟨RX9, "hashOf", "(JI)I"⟩
abbrev cX9_readLabel : ByteArray := prog_11_method_23_code
def yX9_readLabel : MethodName := ⟨RX9, "readLabel", "()V"⟩
abbrev cX9_emit : ByteArray := prog_11_method_24_code
def yX9_emit : MethodName := ⟨RX9, "emit", "(III)I"⟩
abbrev cX9_inScope : ByteArray := prog_11_method_25_code
def yX9_inScope : MethodName := ⟨RX9, "inScope", "(J)I"⟩
abbrev cX9_push : ByteArray := prog_11_method_26_code
def yX9_push : MethodName := ⟨RX9, "push", "(I)V"⟩
abbrev cX9_pop : ByteArray := prog_11_method_27_code
def yX9_pop : MethodName := ⟨RX9, "pop", "()V"⟩
abbrev cX9_through : ByteArray := prog_11_method_28_code
def yX9_through : MethodName := ⟨RX9, "through", "(Z)V"⟩
abbrev cX9_isList : ByteArray := prog_11_method_29_code
def yX9_isList : MethodName := ⟨RX9, "isList", "()Z"⟩
abbrev cX9_begin : ByteArray := prog_11_method_30_code
def yX9_begin : MethodName := ⟨RX9, "begin", "()V"⟩
abbrev cX9_dead : ByteArray := prog_11_method_31_code
def yX9_dead : MethodName := ⟨RX9, "dead", "()V"⟩
abbrev cX9_simple : ByteArray := prog_11_method_32_code
def yX9_simple : MethodName := ⟨RX9, "simple", "()V"⟩
abbrev cX9_use : ByteArray := prog_11_method_33_code
def yX9_use : MethodName := ⟨RX9, "use", "()V"⟩
abbrev cX9_let : ByteArray := prog_11_method_34_code
def yX9_let : MethodName := ⟨RX9, "let", "()V"⟩
abbrev cX9_yieldStmt : ByteArray := prog_11_method_35_code
def yX9_yieldStmt : MethodName := ⟨RX9, "yieldStmt", "()V"⟩
abbrev cX9_isSimple : ByteArray := prog_11_method_36_code
def yX9_isSimple : MethodName := ⟨RX9, "isSimple", "()Z"⟩
abbrev cX9_stmt : ByteArray := prog_11_method_37_code
def yX9_stmt : MethodName := ⟨RX9, "stmt", "()V"⟩
abbrev cX9_endBlock : ByteArray := prog_11_method_38_code
def yX9_endBlock : MethodName := ⟨RX9, "endBlock", "()V"⟩
abbrev cX9_readStmts : ByteArray := prog_11_method_39_code
def yX9_readStmts : MethodName := ⟨RX9, "readStmts", "(I)V"⟩
abbrev cX9_readOld : ByteArray := prog_11_method_40_code
def yX9_readOld : MethodName := ⟨RX9, "readOld", "()V"⟩
abbrev cX9_readBody : ByteArray := prog_11_method_41_code
def yX9_readBody : MethodName := ⟨RX9, "readBody", "()V"⟩
abbrev cX9_readArm : ByteArray := prog_11_method_42_code
def yX9_readArm : MethodName := ⟨RX9, "readArm", "()V"⟩
abbrev cX9_read : ByteArray := prog_11_method_43_code
def yX9_read : MethodName := ⟨RX9, "read", "()I"⟩
abbrev cX9_emitEnd : ByteArray := prog_11_method_44_code
def yX9_emitEnd : MethodName := ⟨RX9, "emitEnd", "()V"⟩
abbrev cX9_place : ByteArray := prog_11_method_45_code
def yX9_place : MethodName := ⟨RX9, "place", "()I"⟩
abbrev cX9_told : ByteArray := prog_11_method_46_code
def yX9_told : MethodName := ⟨RX9, "told", "(I)I"⟩
abbrev cX9_label : ByteArray := prog_11_method_47_code
def yX9_label : MethodName := ⟨RX9, "label", "(II)I"⟩
abbrev cX9_armFor : ByteArray := prog_11_method_48_code
def yX9_armFor : MethodName := ⟨RX9, "armFor", "(I)I"⟩
abbrev cX9_isTextAt : ByteArray := prog_11_method_49_code
def yX9_isTextAt : MethodName := ⟨RX9, "isTextAt", "(I)Z"⟩
abbrev cX9_run : ByteArray := prog_11_method_50_code
def yX9_run : MethodName := ⟨RX9, "run", "(II)I"⟩
abbrev cX9_runNone : ByteArray := prog_11_method_51_code
def yX9_runNone : MethodName := ⟨RX9, "runNone", "()I"⟩
abbrev cX9_traced : ByteArray := prog_11_method_52_code
def yX9_traced : MethodName := ⟨RX9, "traced", "()I"⟩
abbrev cX9_trace : ByteArray := prog_11_method_53_code
def yX9_trace : MethodName := ⟨RX9, "trace", "(I)I"⟩
abbrev cX9_value : ByteArray := prog_11_method_54_code
def yX9_value : MethodName := ⟨RX9, "value", "()I"⟩
abbrev cX9_findKeys : ByteArray := prog_11_method_55_code
def yX9_findKeys : MethodName := ⟨RX9, "findKeys", "()V"⟩
abbrev cX9_form : ByteArray := prog_11_method_56_code
def yX9_form : MethodName := ⟨RX9, "form", "()I"⟩
abbrev cX9_keys : ByteArray := prog_11_method_57_code
def yX9_keys : MethodName := ⟨RX9, "keys", "()I"⟩
abbrev cX9_key : ByteArray := prog_11_method_58_code
def yX9_key : MethodName := ⟨RX9, "key", "(I)I"⟩
abbrev cX9_target : ByteArray := prog_11_method_59_code
def yX9_target : MethodName := ⟨RX9, "target", "(I)I"⟩
abbrev cX9_alike : ByteArray := prog_11_method_60_code
def yX9_alike : MethodName := ⟨RX9, "alike", "(I)I"⟩
abbrev cX9_hash : ByteArray := prog_11_method_61_code
def yX9_hash : MethodName := ⟨RX9, "hash", "()I"⟩
def RJ0 : String := "java/lang/String"
def TJ0 : u_T := fun k => match k with
  | _ => ("", "", "", false)
def tyJ0 : Nat → FieldType := fun k => match k with
  | _ => .int
abbrev wsJ00 : List Cond := u_ws RJ0 TJ0 0
theorem nmJ0 : ∀ a, a < 0 → ∀ b, b < 0 → a ≠ b → (TJ0 a).2.1 ≠ (TJ0 b).2.1 := by decide +kernel
theorem tyJ0_ok : ∀ k, k < 0 → parseFieldDescriptor (TJ0 k).2.2.1 = some (tyJ0 k) := by decide +kernel
abbrev cJ0_length_8abf5 : ByteArray := prog_12_method_54_code
def yJ0_length_8abf5 : MethodName := ⟨RJ0, "length", "()I"⟩
abbrev cJ0_charAt_5068e : ByteArray := prog_12_method_56_code
def yJ0_charAt_5068e : MethodName := ⟨RJ0, "charAt", "(I)C"⟩
abbrev cJ0_coder_7d493 : ByteArray := prog_12_method_152_code
def yJ0_coder_7d493 : MethodName := ⟨RJ0, "coder", "()B"⟩
abbrev cJ0_isLatin1_aae02 : ByteArray := prog_12_method_154_code
def yJ0_isLatin1_aae02 : MethodName := ⟨RJ0, "isLatin1", "()Z"⟩
abbrev cJ0_checkIndex_df160 : ByteArray := prog_12_method_155_code
def yJ0_checkIndex_df160 : MethodName := ⟨RJ0, "checkIndex", "(II)V"⟩
def RJ1 : String := "java/lang/StringLatin1"
def TJ1 : u_T := fun k => match k with
  | _ => ("", "", "", false)
def tyJ1 : Nat → FieldType := fun k => match k with
  | _ => .int
abbrev wsJ10 : List Cond := u_ws RJ1 TJ1 0
theorem nmJ1 : ∀ a, a < 0 → ∀ b, b < 0 → a ≠ b → (TJ1 a).2.1 ≠ (TJ1 b).2.1 := by decide +kernel
theorem tyJ1_ok : ∀ k, k < 0 → parseFieldDescriptor (TJ1 k).2.2.1 = some (tyJ1 k) := by decide +kernel
abbrev cJ1_charAt_3b067 : ByteArray := prog_13_method_2_code
def yJ1_charAt_3b067 : MethodName := ⟨RJ1, "charAt", "([BI)C"⟩
def RJ2 : String := "java/lang/StringUTF16"
def TJ2 : u_T := fun k => match k with
  | _ => ("", "", "", false)
def tyJ2 : Nat → FieldType := fun k => match k with
  | _ => .int
abbrev wsJ20 : List Cond := u_ws RJ2 TJ2 0
theorem nmJ2 : ∀ a, a < 0 → ∀ b, b < 0 → a ≠ b → (TJ2 a).2.1 ≠ (TJ2 b).2.1 := by decide +kernel
theorem tyJ2_ok : ∀ k, k < 0 → parseFieldDescriptor (TJ2 k).2.2.1 = some (tyJ2 k) := by decide +kernel
abbrev cJ2_getChar_3b067 : ByteArray := prog_14_method_5_code
def yJ2_getChar_3b067 : MethodName := ⟨RJ2, "getChar", "([BI)C"⟩
abbrev cJ2_length_9d52b : ByteArray := prog_14_method_6_code
def yJ2_length_9d52b : MethodName := ⟨RJ2, "length", "([B)I"⟩
abbrev cJ2_charAt_3b067 : ByteArray := prog_14_method_83_code
def yJ2_charAt_3b067 : MethodName := ⟨RJ2, "charAt", "([BI)C"⟩
abbrev cJ2_checkIndex_2214a : ByteArray := prog_14_method_91_code
def yJ2_checkIndex_2214a : MethodName := ⟨RJ2, "checkIndex", "(I[B)V"⟩
def RJ3 : String := "jdk/internal/util/Preconditions"
def TJ3 : u_T := fun k => match k with
  | _ => ("", "", "", false)
def tyJ3 : Nat → FieldType := fun k => match k with
  | _ => .int
abbrev wsJ30 : List Cond := u_ws RJ3 TJ3 0
theorem nmJ3 : ∀ a, a < 0 → ∀ b, b < 0 → a ≠ b → (TJ3 a).2.1 ≠ (TJ3 b).2.1 := by decide +kernel
theorem tyJ3_ok : ∀ k, k < 0 → parseFieldDescriptor (TJ3 k).2.2.1 = some (tyJ3 k) := by decide +kernel
abbrev cJ3_checkIndex_8e157 : ByteArray := prog_15_method_11_code
def yJ3_checkIndex_8e157 : MethodName := ⟨RJ3, "checkIndex", "(IILjava/util/function/BiFunction;)I"⟩
def RL : String := "SwitchRulesLaw"
abbrev cL_law : ByteArray := code
def yL_law : MethodName := ⟨RL, "law", "([I)Z"⟩
abbrev vwCl : List vw_C := [(RX0, TX0, 4), (RX1, TX1, 11), (RX2, TX2, 2), (RX3, TX3, 5), (RX4, TX4, 3), (RX5, TX5, 4), (RX6, TX6, 5), (RX7, TX7, 14), (RX8, TX8, 6), (RX9, TX9, 56)]
def m_costL : List (Nat × Nat) := [(3, 780), (0, 0), (0, 0), (5, 95), (0, 0), (0, 0), (0, 0), (0, 0), (0, 0), (0, 0), (0, 0), (0, 0), (0, 0), (0, 0), (0, 0), (0, 0), (0, 0), (0, 0), (0, 0), (0, 0), (0, 0), (0, 0), (0, 0), (0, 0), (0, 0), (0, 0), (0, 0), (0, 0), (0, 0), (0, 0), (0, 0), (0, 0), (0, 0), (0, 0), (0, 0), (0, 0), (0, 0), (1, 3000), (0, 0), (0, 0), (0, 0), (0, 0), (0, 0), (2, 140), (0, 0), (0, 0), (0, 0), (0, 0), (0, 0), (1, 20), (0, 0), (0, 0), (0, 0), (0, 0), (0, 0), (0, 0), (3, 96), (0, 0), (0, 0), (0, 0), (0, 0), (4, 9018), (0, 0), (0, 0), (0, 0), (0, 0), (0, 0), (0, 0), (0, 0), (0, 0), (0, 0), (0, 0), (0, 0), (0, 0), (0, 0), (8, 900), (0, 0), (0, 0), (0, 0), (0, 0), (0, 0), (0, 0), (0, 0), (0, 0), (0, 0), (29, 13290), (0, 0), (0, 0), (0, 0), (0, 0), (0, 0), (0, 0), (0, 0), (0, 0), (0, 0), (0, 0), (0, 0), (0, 0), (0, 0), (0, 0), (0, 0), (0, 0), (26, 7572), (0, 0), (0, 0), (0, 0), (0, 0), (0, 0), (0, 0), (0, 0), (0, 0), (0, 0), (0, 0), (0, 0), (0, 0), (0, 0), (0, 0), (0, 0), (0, 0), (0, 0), (0, 0), (0, 0), (0, 0), (0, 0), (0, 0), (0, 0), (0, 0), (0, 0), (0, 0), (0, 0), (0, 0), (0, 0), (0, 0), (0, 0), (0, 0), (0, 0), (0, 0), (0, 0), (0, 0), (0, 0), (0, 0), (0, 0), (0, 0), (0, 0), (0, 0), (0, 0), (0, 0), (0, 0), (0, 0), (0, 0), (0, 0), (0, 0), (0, 0), (0, 0), (0, 0), (0, 0), (0, 0), (0, 0), (0, 0), (0, 0), (0, 0), (0, 0), (0, 0)]
end
section
/-! ===== THE SMALL MACHINE: objects by their number in the order of their making, ints and longs in two functions; a least fixed point of one step ===== -/
abbrev mS : Type := (FieldType × Nat) ⊕ (Nat × List (Option (Option Nat)))
abbrev mW : Type := List mS × (Nat → Nat → Int32) × (Nat → Nat → Int64)
abbrev mI : Type := Nat × Instr × Nat × Nat × Nat × Value × List (Int32 × Nat)
abbrev mL : Type := List (Nat × List mI)
abbrev mT : Type := Nat × List (Option Value) × List Value × mW × Nat × Nat
abbrev mK : Type := Option Value → mW → Prop
abbrev mC : Type := Nat → List Value → mW → mK → Prop
def m_nth {α : Type} : List α → Nat → Option α
  | [], _ => none
  | a :: _, 0 => some a
  | _ :: l, n + 1 => m_nth l n
theorem m_nth_eq {α : Type} : ∀ (l : List α) (n : Nat), m_nth l n = l[n]?
  | [], n => by simp [m_nth]
  | a :: l, 0 => by simp [m_nth]
  | a :: l, n + 1 => by simp [m_nth, m_nth_eq l n]
def m_seek : List mI → Nat → Option mI
  | [], _ => none
  | q :: l, pc => match Nat.beq q.1 pc with
    | true => some q
    | false => m_seek l pc
def m_at : mL → Nat → Option mI
  | [], _ => none
  | q :: r, pc => match Nat.blt pc q.1 with
    | true => m_seek q.2 pc
    | false => m_at r pc
theorem m_seek_mem : ∀ (l : List mI) (pc : Nat) (q : mI), m_seek l pc = some q → q ∈ l ∧ q.1 = pc
  | [], pc, q, h => by simp [m_seek] at h
  | x :: l, pc, q, h => by
    unfold m_seek at h
    split at h
    · rename_i hb
      cases h
      exact ⟨List.mem_cons_self, Nat.eq_of_beq_eq_true hb⟩
    · obtain ⟨h1, h2⟩ := m_seek_mem l pc q h
      exact ⟨List.mem_cons_of_mem _ h1, h2⟩
theorem m_at_mem : ∀ (l : mL) (pc : Nat) (q : mI), m_at l pc = some q → (∃ c ∈ l, q ∈ c.2) ∧ q.1 = pc
  | [], pc, q, h => by simp [m_at] at h
  | x :: l, pc, q, h => by
    unfold m_at at h
    split at h
    · obtain ⟨h1, h2⟩ := m_seek_mem x.2 pc q h
      exact ⟨⟨x, List.mem_cons_self, h1⟩, h2⟩
    · obtain ⟨⟨c, h1, h3⟩, h2⟩ := m_at_mem l pc q h
      exact ⟨⟨c, List.mem_cons_of_mem _ h1, h3⟩, h2⟩
def m_c2 : Value → Bool
  | .long _ => true
  | .double _ => true
  | _ => false
theorem m_c2_cat (v : Value) : v.category = if m_c2 v = true then 2 else 1 := by cases v <;> simp [m_c2, Value.category]
def m_cat : List Value → Nat
  | [] => 0
  | v :: r => (match m_c2 v with | true => 2 | false => 1) + m_cat r
def m_sto1 : List (Option Value) → Nat → Value → List (Option Value)
  | [], _, _ => []
  | _ :: r, 0, v => some v :: r
  | x :: r, 1, v => (match x with | some u => (match m_c2 u with | true => none | false => some u) | none => none) :: m_sto1 r 0 v
  | x :: r, i + 2, v => x :: m_sto1 r (i + 1) v
def m_sto2 : List (Option Value) → Nat → Value → List (Option Value)
  | [], _, _ => []
  | [_], 0, _ => []
  | _ :: _ :: r, 0, v => some v :: none :: r
  | x :: r, 1, v => (match x with | some u => (match m_c2 u with | true => none | false => some u) | none => none) :: m_sto2 r 0 v
  | x :: r, i + 2, v => x :: m_sto2 r (i + 1) v
def m_ent : List Value → List (Option Value)
  | [] => []
  | v :: r => match m_c2 v with
    | true => some v :: none :: m_ent r
    | false => some v :: m_ent r
def m_pad : Nat → List (Option Value) → List (Option Value)
  | 0, l => l
  | n + 1, [] => none :: m_pad n []
  | n + 1, x :: l => x :: m_pad n l
def m_pop : Nat → List Value → Option (List Value × List Value)
  | 0, st => some ([], st)
  | _ + 1, [] => none
  | n + 1, v :: st => match m_pop n st with
    | some (as, r) => some (as ++ [v], r)
    | none => none
def m_push : Option Value → List Value → List Value
  | none, r => r
  | some v, r => v :: r
def m_up (I : Nat → Nat → Int32) (k j : Nat) (x : Int32) : Nat → Nat → Int32 := va_up I k (upd (I k) j x)
def m_upL (L : Nat → Nat → Int64) (k j : Nat) (x : Int64) : Nat → Nat → Int64 := va_up L k (vp_updL (L k) j x)
def m_ty (ci : Nat) : Nat → FieldType := match ci with
  | 0 => tyX0 | 1 => tyX1 | 2 => tyX2 | 3 => tyX3 | 4 => tyX4 | 5 => tyX5 | 6 => tyX6 | 7 => tyX7 | 8 => tyX8 | _ => tyX9
def m_TT (ci : Nat) : u_T := match ci with
  | 0 => TX0 | 1 => TX1 | 2 => TX2 | 3 => TX3 | 4 => TX4 | 5 => TX5 | 6 => TX6 | 7 => TX7 | 8 => TX8 | _ => TX9
def m_RR (ci : Nat) : String := match ci with
  | 0 => RX0 | 1 => RX1 | 2 => RX2 | 3 => RX3 | 4 => RX4 | 5 => RX5 | 6 => RX6 | 7 => RX7 | 8 => RX8 | 9 => RX9 | _ => RL
def m_NN (ci : Nat) : Nat := match ci with
  | 0 => 4 | 1 => 11 | 2 => 2 | 3 => 5 | 4 => 3 | 5 => 4 | 6 => 5 | 7 => 14 | 8 => 6 | _ => 56
def m_isL (ci j : Nat) : Bool := match m_ty ci j with
  | .long => true
  | _ => false
def m_fv (I : Nat → Nat → Int32) (L : Nat → Nat → Int64) (ci k j : Nat) : Option (Option Nat) → Value
  | none => match m_isL ci j with
    | true => .long (L k j)
    | false => .int (I k j)
  | some none => .null
  | some (some t) => .ref t
/-- the fields of a new object -/
def m_nf (ci : Nat) : Nat → Nat → List (Option (Option Nat))
  | _, 0 => []
  | j, n + 1 => (match m_ty ci j with | .object _ => some none | .array _ => some none | _ => none) :: m_nf ci (j + 1) n
def m_if : Jvm.ClassFile.Cond → Int32 → Int32 → Prop → Prop → Prop
  | .eq, x, y, A, B => (x = y → A) ∧ (¬ x = y → B)
  | .ne, x, y, A, B => (x = y → B) ∧ (¬ x = y → A)
  | .lt, x, y, A, B => (x < y → A) ∧ (¬ x < y → B)
  | .ge, x, y, A, B => (x < y → B) ∧ (¬ x < y → A)
  | .gt, x, y, A, B => (y < x → A) ∧ (¬ y < x → B)
  | .le, x, y, A, B => (y < x → B) ∧ (¬ y < x → A)
def m_sw : List (Int32 × Nat) → Nat → Int32 → (Nat → Prop) → Prop
  | [], d, _, K => K d
  | q :: r, d, x, K => (x = q.1 → K q.2) ∧ (¬ x = q.1 → m_sw r d x K)
def m_aty : Jvm.ClassFile.ArrayType → FieldType
  | .boolean => .boolean | .char => .char | .float => .float | .double => .double | .byte => .byte | .short => .short | .int => .int | .long => .long
/-- what a method's making costs: cells and slots -/
def m_cost (id : Nat) : Nat × Nat := match m_nth m_costL id with
  | some q => q
  | none => (0, 0)
end
section
/-- what the tables say, but for what may not be carried into a callee -/
def m_ws : List Cond := lw_tbl.filter goodWord
theorem m_in {w : Cond} (i : Nat) (h : lw_tbl[i]? = some w) (g : goodWord w = true) : w ∈ m_ws := List.mem_filter.mpr ⟨List.mem_of_getElem? h, g⟩
theorem m_fc {α : Type} {p : α → Prop} {a : α} {l : List α} (h : p a) (hl : ∀ x ∈ l, p x) : ∀ x ∈ a :: l, p x := List.forall_mem_cons.mpr ⟨h, hl⟩
theorem m_fn {α : Type} {p : α → Prop} : ∀ x ∈ ([] : List α), p x := fun _ h => absurd h List.not_mem_nil
def m_lkF : List (Nat × Nat × Nat × Nat) := [(0, 9, 0, 0), (0, 15, 0, 1), (0, 19, 0, 2), (0, 22, 0, 3), (1, 12, 1, 2), (1, 18, 1, 3), (1, 22, 1, 4), (1, 26, 1, 5), (1, 29, 1, 10), (1, 33, 1, 0), (1, 37, 1, 1), (1, 52, 1, 6), (1, 55, 1, 7), (1, 58, 1, 8), (1, 61, 1, 9), (2, 9, 2, 0), (2, 15, 2, 1), (3, 9, 3, 0), (3, 15, 3, 1), (3, 21, 3, 4), (3, 25, 3, 2), (3, 29, 3, 3), (4, 9, 4, 0), (4, 15, 4, 1), (4, 19, 4, 2), (5, 9, 5, 0), (5, 15, 5, 1), (5, 18, 5, 2), (5, 21, 5, 3), (6, 9, 6, 0), (6, 15, 6, 1), (6, 19, 6, 2), (6, 57, 6, 3), (6, 70, 6, 4), (7, 9, 7, 7), (7, 15, 7, 9), (7, 19, 7, 10), (7, 22, 7, 11), (7, 25, 7, 12), (7, 32, 7, 13), (7, 36, 7, 3), (7, 39, 7, 4), (7, 42, 7, 5), (7, 45, 7, 6), (7, 48, 7, 8), (7, 55, 7, 2), (8, 12, 8, 0), (8, 19, 8, 1), (8, 26, 8, 2), (8, 35, 8, 3), (8, 42, 8, 4), (8, 49, 8, 5), (9, 7, 9, 0), (9, 13, 9, 1), (9, 17, 9, 10), (9, 21, 9, 13), (9, 24, 9, 14), (9, 28, 9, 15), (9, 31, 9, 20), (9, 34, 9, 22), (9, 37, 9, 23), (9, 40, 9, 24), (9, 43, 9, 25), (9, 46, 9, 30), (9, 49, 9, 31), (9, 52, 9, 32), (9, 55, 9, 34), (9, 58, 9, 37), (9, 61, 9, 38), (9, 65, 9, 39), (9, 68, 9, 40), (9, 71, 9, 41), (9, 74, 9, 42), (9, 77, 9, 43), (9, 80, 9, 50), (9, 83, 9, 51), (9, 86, 9, 53), (9, 89, 9, 54), (9, 92, 9, 55), (9, 125, 9, 2), (9, 128, 9, 3), (9, 135, 9, 5), (9, 138, 9, 4), (9, 157, 9, 7), (9, 160, 9, 6), (9, 164, 9, 8), (9, 167, 9, 9), (9, 187, 9, 12), (9, 200, 9, 16), (9, 204, 9, 17), (9, 207, 9, 18), (9, 210, 9, 21), (9, 230, 9, 19), (9, 233, 9, 33), (9, 236, 9, 35), (9, 239, 9, 44), (9, 242, 9, 45), (9, 245, 9, 36), (9, 259, 9, 26), (9, 303, 9, 46), (9, 306, 9, 27), (9, 312, 9, 29), (9, 315, 9, 28), (9, 324, 9, 11), (9, 327, 9, 47), (9, 330, 9, 48), (9, 351, 9, 49), (9, 357, 9, 52)]
theorem m_lkF_ok : ∀ q ∈ m_lkF, Cond.fieldLink (m_RR q.1) q.2.1 (m_TT q.2.2.1 q.2.2.2).1 (m_TT q.2.2.1 q.2.2.2).2.1 (m_TT q.2.2.1 q.2.2.2).2.2.1 ∈ m_ws :=
  m_fc (m_in 223 (by decide +kernel) rfl) (m_fc (m_in 225 (by decide +kernel) rfl) (m_fc (m_in 227 (by decide +kernel) rfl) (m_fc (m_in 229 (by decide +kernel) rfl) (m_fc (m_in 334 (by decide +kernel) rfl) (m_fc (m_in 335 (by decide +kernel) rfl) (m_fc (m_in 336 (by decide +kernel) rfl) (m_fc (m_in 337 (by decide +kernel) rfl) (m_fc (m_in 343 (by decide +kernel) rfl) (m_fc (m_in 332 (by decide +kernel) rfl) (m_fc (m_in 333 (by decide +kernel) rfl) (m_fc (m_in 338 (by decide +kernel) rfl) (m_fc (m_in 339 (by decide +kernel) rfl) (m_fc (m_in 340 (by decide +kernel) rfl) (m_fc (m_in 341 (by decide +kernel) rfl) (m_fc (m_in 106 (by decide +kernel) rfl) (m_fc (m_in 107 (by decide +kernel) rfl) (m_fc (m_in 397 (by decide +kernel) rfl) (m_fc (m_in 399 (by decide +kernel) rfl) (m_fc (m_in 404 (by decide +kernel) rfl) (m_fc (m_in 400 (by decide +kernel) rfl) (m_fc (m_in 402 (by decide +kernel) rfl) (m_fc (m_in 320 (by decide +kernel) rfl) (m_fc (m_in 321 (by decide +kernel) rfl) (m_fc (m_in 324 (by decide +kernel) rfl) (m_fc (m_in 374 (by decide +kernel) rfl) (m_fc (m_in 376 (by decide +kernel) rfl) (m_fc (m_in 378 (by decide +kernel) rfl) (m_fc (m_in 380 (by decide +kernel) rfl) (m_fc (m_in 188 (by decide +kernel) rfl) (m_fc (m_in 190 (by decide +kernel) rfl) (m_fc (m_in 192 (by decide +kernel) rfl) (m_fc (m_in 194 (by decide +kernel) rfl) (m_fc (m_in 195 (by decide +kernel) rfl) (m_fc (m_in 262 (by decide +kernel) rfl) (m_fc (m_in 268 (by decide +kernel) rfl) (m_fc (m_in 269 (by decide +kernel) rfl) (m_fc (m_in 272 (by decide +kernel) rfl) (m_fc (m_in 275 (by decide +kernel) rfl) (m_fc (m_in 276 (by decide +kernel) rfl) (m_fc (m_in 250 (by decide +kernel) rfl) (m_fc (m_in 253 (by decide +kernel) rfl) (m_fc (m_in 255 (by decide +kernel) rfl) (m_fc (m_in 259 (by decide +kernel) rfl) (m_fc (m_in 265 (by decide +kernel) rfl) (m_fc (m_in 247 (by decide +kernel) rfl) (m_fc (m_in 417 (by decide +kernel) rfl) (m_fc (m_in 418 (by decide +kernel) rfl) (m_fc (m_in 419 (by decide +kernel) rfl) (m_fc (m_in 420 (by decide +kernel) rfl) (m_fc (m_in 421 (by decide +kernel) rfl) (m_fc (m_in 422 (by decide +kernel) rfl) (m_fc (m_in 828 (by decide +kernel) rfl) (m_fc (m_in 829 (by decide +kernel) rfl) (m_fc (m_in 838 (by decide +kernel) rfl) (m_fc (m_in 841 (by decide +kernel) rfl) (m_fc (m_in 842 (by decide +kernel) rfl) (m_fc (m_in 843 (by decide +kernel) rfl) (m_fc (m_in 848 (by decide +kernel) rfl) (m_fc (m_in 850 (by decide +kernel) rfl) (m_fc (m_in 851 (by decide +kernel) rfl) (m_fc (m_in 852 (by decide +kernel) rfl) (m_fc (m_in 853 (by decide +kernel) rfl) (m_fc (m_in 858 (by decide +kernel) rfl) (m_fc (m_in 859 (by decide +kernel) rfl) (m_fc (m_in 860 (by decide +kernel) rfl) (m_fc (m_in 862 (by decide +kernel) rfl) (m_fc (m_in 865 (by decide +kernel) rfl) (m_fc (m_in 866 (by decide +kernel) rfl) (m_fc (m_in 867 (by decide +kernel) rfl) (m_fc (m_in 868 (by decide +kernel) rfl) (m_fc (m_in 869 (by decide +kernel) rfl) (m_fc (m_in 870 (by decide +kernel) rfl) (m_fc (m_in 871 (by decide +kernel) rfl) (m_fc (m_in 878 (by decide +kernel) rfl) (m_fc (m_in 879 (by decide +kernel) rfl) (m_fc (m_in 881 (by decide +kernel) rfl) (m_fc (m_in 882 (by decide +kernel) rfl) (m_fc (m_in 883 (by decide +kernel) rfl) (m_fc (m_in 830 (by decide +kernel) rfl) (m_fc (m_in 831 (by decide +kernel) rfl) (m_fc (m_in 833 (by decide +kernel) rfl) (m_fc (m_in 832 (by decide +kernel) rfl) (m_fc (m_in 835 (by decide +kernel) rfl) (m_fc (m_in 834 (by decide +kernel) rfl) (m_fc (m_in 836 (by decide +kernel) rfl) (m_fc (m_in 837 (by decide +kernel) rfl) (m_fc (m_in 840 (by decide +kernel) rfl) (m_fc (m_in 844 (by decide +kernel) rfl) (m_fc (m_in 845 (by decide +kernel) rfl) (m_fc (m_in 846 (by decide +kernel) rfl) (m_fc (m_in 849 (by decide +kernel) rfl) (m_fc (m_in 847 (by decide +kernel) rfl) (m_fc (m_in 861 (by decide +kernel) rfl) (m_fc (m_in 863 (by decide +kernel) rfl) (m_fc (m_in 872 (by decide +kernel) rfl) (m_fc (m_in 873 (by decide +kernel) rfl) (m_fc (m_in 864 (by decide +kernel) rfl) (m_fc (m_in 854 (by decide +kernel) rfl) (m_fc (m_in 874 (by decide +kernel) rfl) (m_fc (m_in 855 (by decide +kernel) rfl) (m_fc (m_in 857 (by decide +kernel) rfl) (m_fc (m_in 856 (by decide +kernel) rfl) (m_fc (m_in 839 (by decide +kernel) rfl) (m_fc (m_in 875 (by decide +kernel) rfl) (m_fc (m_in 876 (by decide +kernel) rfl) (m_fc (m_in 877 (by decide +kernel) rfl) (m_fc (m_in 880 (by decide +kernel) rfl) (m_fn))))))))))))))))))))))))))))))))))))))))))))))))))))))))))))))))))))))))))))))))))))))))))))))))))))))))))))
def m_lkN : List (Nat × Nat × Nat × Nat) := [(1, 46, 4, 1), (1, 49, 4, 2), (1, 64, 6, 4), (1, 67, 6, 0), (1, 71, 6, 2), (1, 74, 6, 1), (1, 115, 7, 1), (1, 119, 7, 2), (1, 125, 7, 3), (1, 130, 7, 7), (1, 139, 7, 8), (1, 155, 7, 5), (1, 174, 7, 13), (1, 191, 7, 6), (1, 208, 0, 3), (3, 32, 0, 3), (3, 37, 0, 1), (3, 40, 0, 2), (3, 43, 0, 0), (5, 25, 7, 0), (5, 31, 7, 5), (5, 34, 7, 11), (5, 37, 7, 10), (6, 84, 2, 1), (7, 52, 0, 3), (8, 53, 2, 1), (8, 83, 1, 9), (8, 86, 7, 0), (8, 94, 7, 4), (8, 96, 1, 10), (8, 99, 7, 1), (8, 102, 7, 2), (8, 105, 7, 5), (8, 108, 7, 6), (8, 111, 7, 7), (8, 114, 7, 8), (8, 117, 7, 3), (8, 120, 7, 10), (8, 124, 7, 11), (8, 136, 7, 13), (8, 148, 3, 4), (8, 151, 3, 2), (8, 154, 3, 0), (8, 157, 3, 3), (8, 164, 5, 3), (8, 171, 5, 0), (8, 174, 5, 1), (8, 177, 5, 2)]
theorem m_lkN_ok : ∀ q ∈ m_lkN, Cond.fieldLinkNest (m_RR q.1) q.2.1 (m_TT q.2.2.1 q.2.2.2).1 (m_TT q.2.2.1 q.2.2.2).2.1 (m_TT q.2.2.1 q.2.2.2).2.2.1 RX8 ∈ lw_tbl :=
  m_fc (List.mem_of_getElem? (i := 322) (by decide +kernel)) (m_fc (List.mem_of_getElem? (i := 323) (by decide +kernel)) (m_fc (List.mem_of_getElem? (i := 196) (by decide +kernel)) (m_fc (List.mem_of_getElem? (i := 189) (by decide +kernel)) (m_fc (List.mem_of_getElem? (i := 193) (by decide +kernel)) (m_fc (List.mem_of_getElem? (i := 191) (by decide +kernel)) (m_fc (List.mem_of_getElem? (i := 246) (by decide +kernel)) (m_fc (List.mem_of_getElem? (i := 249) (by decide +kernel)) (m_fc (List.mem_of_getElem? (i := 252) (by decide +kernel)) (m_fc (List.mem_of_getElem? (i := 264) (by decide +kernel)) (m_fc (List.mem_of_getElem? (i := 267) (by decide +kernel)) (m_fc (List.mem_of_getElem? (i := 258) (by decide +kernel)) (m_fc (List.mem_of_getElem? (i := 278) (by decide +kernel)) (m_fc (List.mem_of_getElem? (i := 261) (by decide +kernel)) (m_fc (List.mem_of_getElem? (i := 232) (by decide +kernel)) (m_fc (List.mem_of_getElem? (i := 231) (by decide +kernel)) (m_fc (List.mem_of_getElem? (i := 226) (by decide +kernel)) (m_fc (List.mem_of_getElem? (i := 228) (by decide +kernel)) (m_fc (List.mem_of_getElem? (i := 224) (by decide +kernel)) (m_fc (List.mem_of_getElem? (i := 243) (by decide +kernel)) (m_fc (List.mem_of_getElem? (i := 256) (by decide +kernel)) (m_fc (List.mem_of_getElem? (i := 273) (by decide +kernel)) (m_fc (List.mem_of_getElem? (i := 270) (by decide +kernel)) (m_fc (List.mem_of_getElem? (i := 109) (by decide +kernel)) (m_fc (List.mem_of_getElem? (i := 230) (by decide +kernel)) (m_fc (List.mem_of_getElem? (i := 108) (by decide +kernel)) (m_fc (List.mem_of_getElem? (i := 342) (by decide +kernel)) (m_fc (List.mem_of_getElem? (i := 244) (by decide +kernel)) (m_fc (List.mem_of_getElem? (i := 254) (by decide +kernel)) (m_fc (List.mem_of_getElem? (i := 344) (by decide +kernel)) (m_fc (List.mem_of_getElem? (i := 245) (by decide +kernel)) (m_fc (List.mem_of_getElem? (i := 248) (by decide +kernel)) (m_fc (List.mem_of_getElem? (i := 257) (by decide +kernel)) (m_fc (List.mem_of_getElem? (i := 260) (by decide +kernel)) (m_fc (List.mem_of_getElem? (i := 263) (by decide +kernel)) (m_fc (List.mem_of_getElem? (i := 266) (by decide +kernel)) (m_fc (List.mem_of_getElem? (i := 251) (by decide +kernel)) (m_fc (List.mem_of_getElem? (i := 271) (by decide +kernel)) (m_fc (List.mem_of_getElem? (i := 274) (by decide +kernel)) (m_fc (List.mem_of_getElem? (i := 277) (by decide +kernel)) (m_fc (List.mem_of_getElem? (i := 405) (by decide +kernel)) (m_fc (List.mem_of_getElem? (i := 401) (by decide +kernel)) (m_fc (List.mem_of_getElem? (i := 398) (by decide +kernel)) (m_fc (List.mem_of_getElem? (i := 403) (by decide +kernel)) (m_fc (List.mem_of_getElem? (i := 381) (by decide +kernel)) (m_fc (List.mem_of_getElem? (i := 375) (by decide +kernel)) (m_fc (List.mem_of_getElem? (i := 377) (by decide +kernel)) (m_fc (List.mem_of_getElem? (i := 379) (by decide +kernel)) (m_fn))))))))))))))))))))))))))))))))))))))))))))))))
def m_lkC : List (Nat × Nat × Nat) := [(1, 9, 4), (7, 29, 0), (8, 9, 2), (8, 16, 6), (8, 23, 7), (8, 30, 1), (8, 39, 5), (8, 46, 3), (10, 7, 8), (10, 10, 9)]
theorem m_lkC_ok : ∀ q ∈ m_lkC, Cond.classLink (m_RR q.1) q.2.1 (m_RR q.2.2) ∈ m_ws ∧ Cond.instantiable (m_RR q.2.2) (m_NN q.2.2) ∈ m_ws ∧ Cond.initialized (m_RR q.2.2) ∈ m_ws :=
  m_fc (⟨m_in 314 (by decide +kernel) rfl, m_in 315 (by decide +kernel) rfl, m_in 88 (by decide +kernel) rfl⟩) (m_fc (⟨m_in 217 (by decide +kernel) rfl, m_in 218 (by decide +kernel) rfl, m_in 86 (by decide +kernel) rfl⟩) (m_fc (⟨m_in 100 (by decide +kernel) rfl, m_in 101 (by decide +kernel) rfl, m_in 79 (by decide +kernel) rfl⟩) (m_fc (⟨m_in 116 (by decide +kernel) rfl, m_in 117 (by decide +kernel) rfl, m_in 80 (by decide +kernel) rfl⟩) (m_fc (⟨m_in 211 (by decide +kernel) rfl, m_in 212 (by decide +kernel) rfl, m_in 85 (by decide +kernel) rfl⟩) (m_fc (⟨m_in 308 (by decide +kernel) rfl, m_in 309 (by decide +kernel) rfl, m_in 87 (by decide +kernel) rfl⟩) (m_fc (⟨m_in 368 (by decide +kernel) rfl, m_in 369 (by decide +kernel) rfl, m_in 89 (by decide +kernel) rfl⟩) (m_fc (⟨m_in 391 (by decide +kernel) rfl, m_in 392 (by decide +kernel) rfl, m_in 90 (by decide +kernel) rfl⟩) (m_fc (⟨m_in 92 (by decide +kernel) rfl, m_in 93 (by decide +kernel) rfl, m_in 78 (by decide +kernel) rfl⟩) (m_fc (⟨m_in 807 (by decide +kernel) rfl, m_in 808 (by decide +kernel) rfl, m_in 91 (by decide +kernel) rfl⟩) (m_fn))))))))))
def m_lkK : List (Nat × Nat × Int64) := [(2, 19, 255), (2, 25, (-1)), (5, 44, 4), (5, 46, 9), (5, 48, 3), (5, 50, 2), (6, 121, 10), (7, 62, 255), (9, 95, 213629677), (9, 97, 3983535845864), (9, 99, 31880592101), (9, 101, 3811208377074), (9, 103, 244939892), (9, 105, 209222117), (9, 107, 443302570456692), (9, 109, 1602148), (9, 111, 1782516), (9, 113, 1931749), (9, 115, 26547417323), (9, 117, 32702559844), (9, 119, 31358498807), (9, 121, 13542), (9, 123, 213596645), (9, 213, 255), (9, 360, 4), (9, 362, 9), (9, 364, 3), (9, 366, 5), (10, 13, 4294967295)]
theorem m_lkK_ok : ∀ q ∈ m_lkK, Cond.constantLong (m_RR q.1) q.2.1 q.2.2 ∈ m_ws :=
  m_fc (m_in 444 (by decide +kernel) rfl) (m_fc (m_in 729 (by decide +kernel) rfl) (m_fc (m_in 775 (by decide +kernel) rfl) (m_fc (m_in 776 (by decide +kernel) rfl) (m_fc (m_in 777 (by decide +kernel) rfl) (m_fc (m_in 778 (by decide +kernel) rfl) (m_fc (m_in 491 (by decide +kernel) rfl) (m_fc (m_in 605 (by decide +kernel) rfl) (m_fc (m_in 813 (by decide +kernel) rfl) (m_fc (m_in 814 (by decide +kernel) rfl) (m_fc (m_in 815 (by decide +kernel) rfl) (m_fc (m_in 816 (by decide +kernel) rfl) (m_fc (m_in 817 (by decide +kernel) rfl) (m_fc (m_in 818 (by decide +kernel) rfl) (m_fc (m_in 819 (by decide +kernel) rfl) (m_fc (m_in 820 (by decide +kernel) rfl) (m_fc (m_in 821 (by decide +kernel) rfl) (m_fc (m_in 822 (by decide +kernel) rfl) (m_fc (m_in 823 (by decide +kernel) rfl) (m_fc (m_in 824 (by decide +kernel) rfl) (m_fc (m_in 825 (by decide +kernel) rfl) (m_fc (m_in 826 (by decide +kernel) rfl) (m_fc (m_in 827 (by decide +kernel) rfl) (m_fc (m_in 1083 (by decide +kernel) rfl) (m_fc (m_in 1216 (by decide +kernel) rfl) (m_fc (m_in 1217 (by decide +kernel) rfl) (m_fc (m_in 1218 (by decide +kernel) rfl) (m_fc (m_in 1219 (by decide +kernel) rfl) (m_fc (m_in 1240 (by decide +kernel) rfl) (m_fn)))))))))))))))))))))))))))))
def m_strL : List Nat := [23, 29, 31, 33, 35, 37, 39, 41, 43, 45, 47, 49, 51, 53, 55]
def m_strT : List String := ["enum", "switch", "value", "number", "text", "case", "default", "add", "let", "use", "break", "yield", "throw", "if", "else"]
theorem m_str_ok : ∀ i, i < 15 → Cond.stringRef RX6 (m_strL.getD i 0) (m_strT.getD i "") ∈ lw_tbl := by
  intro i hi
  have h : ∀ j : Fin 15, lw_tbl[([122, 174, 175, 176, 177, 178, 179, 180, 181, 182, 183, 184, 185, 186, 187] : List Nat).getD j.val 0]? = some (Cond.stringRef RX6 (m_strL.getD j.val 0) (m_strT.getD j.val "")) := by decide +kernel
  exact List.mem_of_getElem? (h ⟨i, hi⟩)
theorem m_lay0 : ∀ w ∈ u_ws (m_RR 0) (m_TT 0) (m_NN 0), w ∈ m_ws :=
  m_fc (m_in 233 (by decide +kernel) rfl) (m_fc (m_in 235 (by decide +kernel) rfl) (m_fc (m_in 237 (by decide +kernel) rfl) (m_fc (m_in 239 (by decide +kernel) rfl) (m_fn))))
theorem m_lay1 : ∀ w ∈ u_ws (m_RR 1) (m_TT 1) (m_NN 1), w ∈ m_ws :=
  m_fc (m_in 345 (by decide +kernel) rfl) (m_fc (m_in 347 (by decide +kernel) rfl) (m_fc (m_in 349 (by decide +kernel) rfl) (m_fc (m_in 351 (by decide +kernel) rfl) (m_fc (m_in 353 (by decide +kernel) rfl) (m_fc (m_in 355 (by decide +kernel) rfl) (m_fc (m_in 357 (by decide +kernel) rfl) (m_fc (m_in 359 (by decide +kernel) rfl) (m_fc (m_in 361 (by decide +kernel) rfl) (m_fc (m_in 363 (by decide +kernel) rfl) (m_fc (m_in 365 (by decide +kernel) rfl) (m_fn)))))))))))
theorem m_lay2 : ∀ w ∈ u_ws (m_RR 2) (m_TT 2) (m_NN 2), w ∈ m_ws :=
  m_fc (m_in 110 (by decide +kernel) rfl) (m_fc (m_in 112 (by decide +kernel) rfl) (m_fn))
theorem m_lay3 : ∀ w ∈ u_ws (m_RR 3) (m_TT 3) (m_NN 3), w ∈ m_ws :=
  m_fc (m_in 406 (by decide +kernel) rfl) (m_fc (m_in 408 (by decide +kernel) rfl) (m_fc (m_in 410 (by decide +kernel) rfl) (m_fc (m_in 412 (by decide +kernel) rfl) (m_fc (m_in 414 (by decide +kernel) rfl) (m_fn)))))
theorem m_lay4 : ∀ w ∈ u_ws (m_RR 4) (m_TT 4) (m_NN 4), w ∈ m_ws :=
  m_fc (m_in 325 (by decide +kernel) rfl) (m_fc (m_in 327 (by decide +kernel) rfl) (m_fc (m_in 329 (by decide +kernel) rfl) (m_fn)))
theorem m_lay5 : ∀ w ∈ u_ws (m_RR 5) (m_TT 5) (m_NN 5), w ∈ m_ws :=
  m_fc (m_in 382 (by decide +kernel) rfl) (m_fc (m_in 384 (by decide +kernel) rfl) (m_fc (m_in 386 (by decide +kernel) rfl) (m_fc (m_in 388 (by decide +kernel) rfl) (m_fn))))
theorem m_lay6 : ∀ w ∈ u_ws (m_RR 6) (m_TT 6) (m_NN 6), w ∈ m_ws :=
  m_fc (m_in 197 (by decide +kernel) rfl) (m_fc (m_in 199 (by decide +kernel) rfl) (m_fc (m_in 201 (by decide +kernel) rfl) (m_fc (m_in 203 (by decide +kernel) rfl) (m_fc (m_in 205 (by decide +kernel) rfl) (m_fn)))))
theorem m_lay7 : ∀ w ∈ u_ws (m_RR 7) (m_TT 7) (m_NN 7), w ∈ m_ws :=
  m_fc (m_in 279 (by decide +kernel) rfl) (m_fc (m_in 281 (by decide +kernel) rfl) (m_fc (m_in 283 (by decide +kernel) rfl) (m_fc (m_in 285 (by decide +kernel) rfl) (m_fc (m_in 287 (by decide +kernel) rfl) (m_fc (m_in 289 (by decide +kernel) rfl) (m_fc (m_in 291 (by decide +kernel) rfl) (m_fc (m_in 293 (by decide +kernel) rfl) (m_fc (m_in 295 (by decide +kernel) rfl) (m_fc (m_in 297 (by decide +kernel) rfl) (m_fc (m_in 299 (by decide +kernel) rfl) (m_fc (m_in 301 (by decide +kernel) rfl) (m_fc (m_in 303 (by decide +kernel) rfl) (m_fc (m_in 305 (by decide +kernel) rfl) (m_fn))))))))))))))
theorem m_lay8 : ∀ w ∈ u_ws (m_RR 8) (m_TT 8) (m_NN 8), w ∈ m_ws :=
  m_fc (m_in 423 (by decide +kernel) rfl) (m_fc (m_in 425 (by decide +kernel) rfl) (m_fc (m_in 427 (by decide +kernel) rfl) (m_fc (m_in 429 (by decide +kernel) rfl) (m_fc (m_in 431 (by decide +kernel) rfl) (m_fc (m_in 433 (by decide +kernel) rfl) (m_fn))))))
theorem m_lay9 : ∀ w ∈ u_ws (m_RR 9) (m_TT 9) (m_NN 9), w ∈ m_ws :=
  m_fc (m_in 884 (by decide +kernel) rfl) (m_fc (m_in 886 (by decide +kernel) rfl) (m_fc (m_in 888 (by decide +kernel) rfl) (m_fc (m_in 890 (by decide +kernel) rfl) (m_fc (m_in 892 (by decide +kernel) rfl) (m_fc (m_in 894 (by decide +kernel) rfl) (m_fc (m_in 896 (by decide +kernel) rfl) (m_fc (m_in 898 (by decide +kernel) rfl) (m_fc (m_in 900 (by decide +kernel) rfl) (m_fc (m_in 902 (by decide +kernel) rfl) (m_fc (m_in 904 (by decide +kernel) rfl) (m_fc (m_in 906 (by decide +kernel) rfl) (m_fc (m_in 908 (by decide +kernel) rfl) (m_fc (m_in 910 (by decide +kernel) rfl) (m_fc (m_in 912 (by decide +kernel) rfl) (m_fc (m_in 914 (by decide +kernel) rfl) (m_fc (m_in 916 (by decide +kernel) rfl) (m_fc (m_in 918 (by decide +kernel) rfl) (m_fc (m_in 920 (by decide +kernel) rfl) (m_fc (m_in 922 (by decide +kernel) rfl) (m_fc (m_in 924 (by decide +kernel) rfl) (m_fc (m_in 926 (by decide +kernel) rfl) (m_fc (m_in 928 (by decide +kernel) rfl) (m_fc (m_in 930 (by decide +kernel) rfl) (m_fc (m_in 932 (by decide +kernel) rfl) (m_fc (m_in 934 (by decide +kernel) rfl) (m_fc (m_in 936 (by decide +kernel) rfl) (m_fc (m_in 938 (by decide +kernel) rfl) (m_fc (m_in 940 (by decide +kernel) rfl) (m_fc (m_in 942 (by decide +kernel) rfl) (m_fc (m_in 944 (by decide +kernel) rfl) (m_fc (m_in 946 (by decide +kernel) rfl) (m_fc (m_in 948 (by decide +kernel) rfl) (m_fc (m_in 950 (by decide +kernel) rfl) (m_fc (m_in 952 (by decide +kernel) rfl) (m_fc (m_in 954 (by decide +kernel) rfl) (m_fc (m_in 956 (by decide +kernel) rfl) (m_fc (m_in 958 (by decide +kernel) rfl) (m_fc (m_in 960 (by decide +kernel) rfl) (m_fc (m_in 962 (by decide +kernel) rfl) (m_fc (m_in 964 (by decide +kernel) rfl) (m_fc (m_in 966 (by decide +kernel) rfl) (m_fc (m_in 968 (by decide +kernel) rfl) (m_fc (m_in 970 (by decide +kernel) rfl) (m_fc (m_in 972 (by decide +kernel) rfl) (m_fc (m_in 974 (by decide +kernel) rfl) (m_fc (m_in 976 (by decide +kernel) rfl) (m_fc (m_in 978 (by decide +kernel) rfl) (m_fc (m_in 980 (by decide +kernel) rfl) (m_fc (m_in 982 (by decide +kernel) rfl) (m_fc (m_in 984 (by decide +kernel) rfl) (m_fc (m_in 986 (by decide +kernel) rfl) (m_fc (m_in 988 (by decide +kernel) rfl) (m_fc (m_in 990 (by decide +kernel) rfl) (m_fc (m_in 992 (by decide +kernel) rfl) (m_fc (m_in 994 (by decide +kernel) rfl) (m_fn))))))))))))))))))))))))))))))))))))))))))))))))))))))))
theorem m_ac_byte : Cond.arrayClass .byte ∈ m_ws := m_in 208 (by decide +kernel) rfl
theorem m_ac_char : Cond.arrayClass .char ∈ m_ws := m_in 115 (by decide +kernel) rfl
theorem m_ac_int : Cond.arrayClass .int ∈ m_ws := m_in 242 (by decide +kernel) rfl
theorem m_ac_long : Cond.arrayClass .long ∈ m_ws := m_in 210 (by decide +kernel) rfl
theorem m_ac_short : Cond.arrayClass .short ∈ m_ws := m_in 209 (by decide +kernel) rfl
theorem m_ac_boolean : Cond.arrayClass .boolean ∈ m_ws := m_in 997 (by decide +kernel) rfl
theorem m_obj : Cond.instanceMethod objectInit ∈ m_ws ∧ Cond.code objectInit ⟨#[0xb1]⟩ 1 none ∈ m_ws := ⟨m_in 98 (by decide +kernel) rfl, m_in 99 (by decide +kernel) rfl⟩

def m_lkM : List (Nat × Nat × Nat × Nat) := [(0, 3, 999, 1), (1, 3, 999, 1), (1, 41, 76, 113), (1, 78, 5, 17), (1, 82, 7, 19), (1, 86, 10, 17), (1, 89, 6, 17), (1, 93, 13, 18), (1, 97, 8, 18), (1, 101, 11, 18), (1, 104, 12, 18), (1, 107, 14, 18), (1, 111, 15, 19), (1, 122, 17, 17), (1, 127, 19, 18), (1, 133, 77, 113), (1, 136, 20, 17), (1, 142, 23, 18), (1, 145, 22, 17), (1, 148, 21, 17), (1, 151, 81, 114), (1, 157, 79, 114), (1, 161, 25, 18), (1, 164, 33, 17), (1, 167, 26, 18), (1, 170, 55, 65), (1, 178, 1, 4), (1, 184, 24, 17), (1, 188, 50, 66), (1, 193, 27, 18), (1, 196, 28, 18), (1, 199, 29, 17), (1, 202, 31, 17), (1, 205, 52, 66), (1, 211, 2, 2), (1, 214, 51, 66), (1, 217, 35, 17), (1, 220, 30, 19), (1, 223, 54, 66), (1, 226, 32, 17), (1, 229, 34, 19), (1, 232, 53, 66), (1, 235, 84, 113), (2, 3, 999, 1), (2, 21, 38, 34), (2, 27, 40, 35), (3, 3, 999, 1), (3, 18, 45, 49), (3, 47, 48, 50), (3, 51, 47, 49), (4, 3, 999, 1), (5, 3, 999, 1), (5, 40, 58, 83), (6, 3, 999, 1), (6, 25, 62, 97), (6, 74, 64, 98), (6, 78, 38, 34), (6, 86, 74, 100), (6, 90, 65, 100), (6, 94, 70, 97), (6, 98, 66, 99), (6, 101, 71, 97), (6, 104, 68, 99), (6, 107, 69, 99), (6, 110, 73, 97), (6, 113, 40, 35), (6, 117, 67, 98), (6, 123, 72, 97), (7, 3, 999, 1), (7, 58, 80, 113), (7, 64, 82, 114), (8, 3, 999, 1), (8, 18, 61, 97), (8, 32, 3, 19), (8, 57, 39, 35), (8, 61, 63, 98), (8, 65, 44, 49), (8, 68, 4, 17), (8, 71, 9, 17), (8, 74, 16, 17), (8, 77, 18, 17), (8, 80, 36, 17), (8, 90, 57, 82), (8, 127, 41, 33), (8, 131, 83, 114), (8, 135, 45, 49), (8, 140, 78, 114), (8, 144, 46, 52), (8, 160, 60, 81), (8, 167, 59, 82), (8, 180, 42, 33), (9, 1, 999, 1), (9, 131, 104, 146), (9, 141, 105, 145), (9, 145, 108, 145), (9, 148, 106, 145), (9, 151, 109, 145), (9, 154, 110, 145), (9, 170, 111, 146), (9, 174, 114, 146), (9, 177, 107, 145), (9, 180, 113, 145), (9, 183, 117, 145), (9, 190, 116, 146), (9, 193, 120, 147), (9, 197, 115, 146), (9, 215, 118, 145), (9, 218, 123, 146), (9, 222, 122, 148), (9, 226, 112, 147), (9, 248, 125, 148), (9, 252, 128, 145), (9, 255, 130, 145), (9, 262, 126, 146), (9, 266, 131, 145), (9, 269, 129, 146), (9, 273, 134, 145), (9, 276, 132, 145), (9, 279, 127, 146), (9, 282, 135, 145), (9, 285, 136, 145), (9, 288, 137, 145), (9, 291, 133, 145), (9, 294, 139, 145), (9, 297, 138, 145), (9, 300, 140, 146), (9, 309, 124, 145), (9, 318, 141, 145), (9, 321, 142, 145), (9, 333, 119, 145), (9, 336, 121, 145), (9, 339, 143, 145), (9, 342, 145, 145), (9, 345, 156, 145), (9, 348, 150, 146), (9, 354, 149, 146), (10, 9, 85, 129), (10, 12, 102, 145), (10, 15, 86, 131), (10, 19, 103, 147), (10, 20, 87, 129), (10, 24, 144, 145), (10, 25, 88, 129), (10, 28, 146, 145), (10, 29, 89, 130), (10, 33, 147, 146), (10, 34, 90, 131), (10, 38, 148, 147), (10, 39, 91, 131), (10, 42, 151, 147), (10, 43, 92, 129), (10, 46, 152, 145), (10, 47, 93, 129), (10, 50, 153, 145), (10, 51, 94, 130), (10, 54, 154, 146), (10, 55, 95, 129), (10, 58, 155, 145), (10, 59, 96, 129), (10, 62, 157, 145), (10, 63, 97, 129), (10, 66, 158, 145), (10, 67, 98, 130), (10, 70, 159, 146), (10, 71, 99, 130), (10, 74, 160, 146), (10, 75, 100, 130), (10, 78, 161, 146), (10, 79, 101, 129), (10, 82, 162, 145)]
def m_lkMN : List (Nat × Nat × Nat × Nat) := [(1, 11, 49, 65), (7, 31, 0, 1), (8, 11, 37, 33), (8, 25, 75, 113), (8, 41, 56, 81), (8, 48, 43, 49)]
def m_Y : Nat → MethodName := fun id => (([yX0_init, yX0_step, yX0_leadHere, yX1_init, yX1_begin, yX1_kind, yX1_tokenValue, yX1_fail, yX1_expect, yX1_enumerations, yX1_enumeration, yX1_constants, yX1_constant, yX1_findEnumeration, yX1_constantCount, yX1_findConstant, yX1_selector, yX1_chooseEnumeration, yX1_arms, yX1_arm, yX1_labels, yX1_oneLabel, yX1_body, yX1_stmts, yX1_beginsStmt, yX1_openStmt, yX1_stmt, yX1_block, yX1_branches, yX1_let, yX1_setName, yX1_simple, yX1_useName, yX1_yieldNumber, yX1_leave, yX1_number, yX1_end, yX2_init, yX2_at, yX2_append, yX2_packed, yX2_whole, yX2_wholeHash, yX3_init, yX3_forget, yX3_begin, yX3_go, yX3_isName, yX3_addToTrace, yX4_init, yX4_find, yX4_add, yX4_shrink, yX4_isSet, yX4_makeSet, yX4_isReached, yX5_init, yX5_make, yX5_put, yX5_has, yX5_isDense, yX6_init, yX6_packedWord, yX6_cut, yX6_behindBlanks, yX6_cutOne, yX6_cutName, yX6_nameKind, yX6_cutNumber, yX6_cutText, yX6_isSmall, yX6_isFigure, yX6_isTextSign, yX6_signKind, yX6_keep, yX7_init, yX7_clear, yX7_addArm, yX7_startOf, yX7_addLabel, yX7_packedHash, yX7_hasLabel, yX7_labelWith, yX7_armFor, yX7_isExhaustive, yX8_init, yX8_type, yX8_read, yX8_place, yX8_told, yX8_label, yX8_run, yX8_runNone, yX8_traced, yX8_trace, yX8_value, yX8_form, yX8_keys, yX8_key, yX8_target, yX8_alike, yX8_hash, yX9_init, yX9_type, yX9_octet, yX9_isSmall, yX9_isFigure, yX9_next, yX9_nextName, yX9_nextNumber, yX9_nextText, yX9_wrong, yX9_wrongAt, yX9_cannot, yX9_isSign, yX9_isWord, yX9_wantsSign, yX9_number, yX9_signed, yX9_readEnum, yX9_constantOf, yX9_readHead, yX9_isOther, yX9_hashOf, yX9_readLabel, yX9_emit, yX9_inScope, yX9_push, yX9_pop, yX9_through, yX9_isList, yX9_begin, yX9_dead, yX9_simple, yX9_use, yX9_let, yX9_yieldStmt, yX9_isSimple, yX9_stmt, yX9_endBlock, yX9_readStmts, yX9_readOld, yX9_readBody, yX9_readArm, yX9_read, yX9_emitEnd, yX9_place, yX9_told, yX9_label, yX9_armFor, yX9_isTextAt, yX9_run, yX9_runNone, yX9_traced, yX9_trace, yX9_value, yX9_findKeys, yX9_form, yX9_keys, yX9_key, yX9_target, yX9_alike, yX9_hash] : List MethodName)[id]?).getD objectInit
theorem m_lkM_ok : ∀ q ∈ m_lkM, Cond.methodLink (m_RR q.1) q.2.1 (m_Y q.2.2.1) ∈ m_ws :=
  m_fc (m_in 222 (by decide +kernel) rfl) (m_fc (m_in 313 (by decide +kernel) rfl) (m_fc (m_in 514 (by decide +kernel) rfl) (m_fc (m_in 522 (by decide +kernel) rfl) (m_fc (m_in 530 (by decide +kernel) rfl) (m_fc (m_in 526 (by decide +kernel) rfl) (m_fc (m_in 534 (by decide +kernel) rfl) (m_fc (m_in 538 (by decide +kernel) rfl) (m_fc (m_in 542 (by decide +kernel) rfl) (m_fc (m_in 546 (by decide +kernel) rfl) (m_fc (m_in 550 (by decide +kernel) rfl) (m_fc (m_in 554 (by decide +kernel) rfl) (m_fc (m_in 558 (by decide +kernel) rfl) (m_fc (m_in 566 (by decide +kernel) rfl) (m_fc (m_in 574 (by decide +kernel) rfl) (m_fc (m_in 578 (by decide +kernel) rfl) (m_fc (m_in 582 (by decide +kernel) rfl) (m_fc (m_in 606 (by decide +kernel) rfl) (m_fc (m_in 689 (by decide +kernel) rfl) (m_fc (m_in 586 (by decide +kernel) rfl) (m_fc (m_in 590 (by decide +kernel) rfl) (m_fc (m_in 598 (by decide +kernel) rfl) (m_fc (m_in 617 (by decide +kernel) rfl) (m_fc (m_in 669 (by decide +kernel) rfl) (m_fc (m_in 613 (by decide +kernel) rfl) (m_fc (m_in 625 (by decide +kernel) rfl) (m_fc (m_in 641 (by decide +kernel) rfl) (m_fc (m_in 610 (by decide +kernel) rfl) (m_fc (m_in 621 (by decide +kernel) rfl) (m_fc (m_in 629 (by decide +kernel) rfl) (m_fc (m_in 637 (by decide +kernel) rfl) (m_fc (m_in 649 (by decide +kernel) rfl) (m_fc (m_in 677 (by decide +kernel) rfl) (m_fc (m_in 633 (by decide +kernel) rfl) (m_fc (m_in 645 (by decide +kernel) rfl) (m_fc (m_in 653 (by decide +kernel) rfl) (m_fc (m_in 657 (by decide +kernel) rfl) (m_fc (m_in 661 (by decide +kernel) rfl) (m_fc (m_in 665 (by decide +kernel) rfl) (m_fc (m_in 681 (by decide +kernel) rfl) (m_fc (m_in 673 (by decide +kernel) rfl) (m_fc (m_in 685 (by decide +kernel) rfl) (m_fc (m_in 697 (by decide +kernel) rfl) (m_fc (m_in 105 (by decide +kernel) rfl) (m_fc (m_in 482 (by decide +kernel) rfl) (m_fc (m_in 730 (by decide +kernel) rfl) (m_fc (m_in 396 (by decide +kernel) rfl) (m_fc (m_in 506 (by decide +kernel) rfl) (m_fc (m_in 744 (by decide +kernel) rfl) (m_fc (m_in 748 (by decide +kernel) rfl) (m_fc (m_in 319 (by decide +kernel) rfl) (m_fc (m_in 373 (by decide +kernel) rfl) (m_fc (m_in 705 (by decide +kernel) rfl) (m_fc (m_in 121 (by decide +kernel) rfl) (m_fc (m_in 123 (by decide +kernel) rfl) (m_fc (m_in 453 (by decide +kernel) rfl) (m_fc (m_in 456 (by decide +kernel) rfl) (m_fc (m_in 460 (by decide +kernel) rfl) (m_fc (m_in 464 (by decide +kernel) rfl) (m_fc (m_in 468 (by decide +kernel) rfl) (m_fc (m_in 471 (by decide +kernel) rfl) (m_fc (m_in 475 (by decide +kernel) rfl) (m_fc (m_in 487 (by decide +kernel) rfl) (m_fc (m_in 492 (by decide +kernel) rfl) (m_fc (m_in 499 (by decide +kernel) rfl) (m_fc (m_in 478 (by decide +kernel) rfl) (m_fc (m_in 483 (by decide +kernel) rfl) (m_fc (m_in 496 (by decide +kernel) rfl) (m_fc (m_in 216 (by decide +kernel) rfl) (m_fc (m_in 602 (by decide +kernel) rfl) (m_fc (m_in 594 (by decide +kernel) rfl) (m_fc (m_in 97 (by decide +kernel) rfl) (m_fc (m_in 118 (by decide +kernel) rfl) (m_fc (m_in 310 (by decide +kernel) rfl) (m_fc (m_in 440 (by decide +kernel) rfl) (m_fc (m_in 449 (by decide +kernel) rfl) (m_fc (m_in 502 (by decide +kernel) rfl) (m_fc (m_in 510 (by decide +kernel) rfl) (m_fc (m_in 518 (by decide +kernel) rfl) (m_fc (m_in 562 (by decide +kernel) rfl) (m_fc (m_in 570 (by decide +kernel) rfl) (m_fc (m_in 693 (by decide +kernel) rfl) (m_fc (m_in 701 (by decide +kernel) rfl) (m_fc (m_in 725 (by decide +kernel) rfl) (m_fc (m_in 731 (by decide +kernel) rfl) (m_fc (m_in 735 (by decide +kernel) rfl) (m_fc (m_in 736 (by decide +kernel) rfl) (m_fc (m_in 740 (by decide +kernel) rfl) (m_fc (m_in 771 (by decide +kernel) rfl) (m_fc (m_in 787 (by decide +kernel) rfl) (m_fc (m_in 803 (by decide +kernel) rfl) (m_fc (m_in 812 (by decide +kernel) rfl) (m_fc (m_in 1010 (by decide +kernel) rfl) (m_fc (m_in 1014 (by decide +kernel) rfl) (m_fc (m_in 1017 (by decide +kernel) rfl) (m_fc (m_in 1021 (by decide +kernel) rfl) (m_fc (m_in 1024 (by decide +kernel) rfl) (m_fc (m_in 1028 (by decide +kernel) rfl) (m_fc (m_in 1044 (by decide +kernel) rfl) (m_fc (m_in 1052 (by decide +kernel) rfl) (m_fc (m_in 1006 (by decide +kernel) rfl) (m_fc (m_in 1040 (by decide +kernel) rfl) (m_fc (m_in 1076 (by decide +kernel) rfl) (m_fc (m_in 1048 (by decide +kernel) rfl) (m_fc (m_in 1056 (by decide +kernel) rfl) (m_fc (m_in 1032 (by decide +kernel) rfl) (m_fc (m_in 1072 (by decide +kernel) rfl) (m_fc (m_in 1080 (by decide +kernel) rfl) (m_fc (m_in 1084 (by decide +kernel) rfl) (m_fc (m_in 1088 (by decide +kernel) rfl) (m_fc (m_in 1116 (by decide +kernel) rfl) (m_fc (m_in 1108 (by decide +kernel) rfl) (m_fc (m_in 1128 (by decide +kernel) rfl) (m_fc (m_in 1136 (by decide +kernel) rfl) (m_fc (m_in 1124 (by decide +kernel) rfl) (m_fc (m_in 1112 (by decide +kernel) rfl) (m_fc (m_in 1156 (by decide +kernel) rfl) (m_fc (m_in 1144 (by decide +kernel) rfl) (m_fc (m_in 1096 (by decide +kernel) rfl) (m_fc (m_in 1132 (by decide +kernel) rfl) (m_fc (m_in 1140 (by decide +kernel) rfl) (m_fc (m_in 1148 (by decide +kernel) rfl) (m_fc (m_in 1152 (by decide +kernel) rfl) (m_fc (m_in 1104 (by decide +kernel) rfl) (m_fc (m_in 1120 (by decide +kernel) rfl) (m_fc (m_in 1100 (by decide +kernel) rfl) (m_fc (m_in 1068 (by decide +kernel) rfl) (m_fc (m_in 1092 (by decide +kernel) rfl) (m_fc (m_in 1160 (by decide +kernel) rfl) (m_fc (m_in 1036 (by decide +kernel) rfl) (m_fc (m_in 1060 (by decide +kernel) rfl) (m_fc (m_in 1064 (by decide +kernel) rfl) (m_fc (m_in 1164 (by decide +kernel) rfl) (m_fc (m_in 1168 (by decide +kernel) rfl) (m_fc (m_in 1192 (by decide +kernel) rfl) (m_fc (m_in 1188 (by decide +kernel) rfl) (m_fc (m_in 94 (by decide +kernel) rfl) (m_fc (m_in 809 (by decide +kernel) rfl) (m_fc (m_in 436 (by decide +kernel) rfl) (m_fc (m_in 998 (by decide +kernel) rfl) (m_fc (m_in 445 (by decide +kernel) rfl) (m_fc (m_in 1002 (by decide +kernel) rfl) (m_fc (m_in 709 (by decide +kernel) rfl) (m_fc (m_in 1172 (by decide +kernel) rfl) (m_fc (m_in 713 (by decide +kernel) rfl) (m_fc (m_in 1176 (by decide +kernel) rfl) (m_fc (m_in 717 (by decide +kernel) rfl) (m_fc (m_in 1180 (by decide +kernel) rfl) (m_fc (m_in 721 (by decide +kernel) rfl) (m_fc (m_in 1184 (by decide +kernel) rfl) (m_fc (m_in 751 (by decide +kernel) rfl) (m_fc (m_in 1196 (by decide +kernel) rfl) (m_fc (m_in 755 (by decide +kernel) rfl) (m_fc (m_in 1200 (by decide +kernel) rfl) (m_fc (m_in 759 (by decide +kernel) rfl) (m_fc (m_in 1204 (by decide +kernel) rfl) (m_fc (m_in 763 (by decide +kernel) rfl) (m_fc (m_in 1208 (by decide +kernel) rfl) (m_fc (m_in 767 (by decide +kernel) rfl) (m_fc (m_in 1212 (by decide +kernel) rfl) (m_fc (m_in 779 (by decide +kernel) rfl) (m_fc (m_in 1220 (by decide +kernel) rfl) (m_fc (m_in 783 (by decide +kernel) rfl) (m_fc (m_in 1224 (by decide +kernel) rfl) (m_fc (m_in 791 (by decide +kernel) rfl) (m_fc (m_in 1228 (by decide +kernel) rfl) (m_fc (m_in 795 (by decide +kernel) rfl) (m_fc (m_in 1232 (by decide +kernel) rfl) (m_fc (m_in 799 (by decide +kernel) rfl) (m_fc (m_in 1236 (by decide +kernel) rfl) (m_fn))))))))))))))))))))))))))))))))))))))))))))))))))))))))))))))))))))))))))))))))))))))))))))))))))))))))))))))))))))))))))))))))))))))))))))))))))))))))))))))))))))))))))
theorem m_lkMN_ok : ∀ q ∈ m_lkMN, Cond.methodLinkNest (m_RR q.1) q.2.1 (m_Y q.2.2.1) RX8 ∈ lw_tbl :=
  m_fc (List.mem_of_getElem? (i := 316) (by decide +kernel)) (m_fc (List.mem_of_getElem? (i := 219) (by decide +kernel)) (m_fc (List.mem_of_getElem? (i := 102) (by decide +kernel)) (m_fc (List.mem_of_getElem? (i := 213) (by decide +kernel)) (m_fc (List.mem_of_getElem? (i := 370) (by decide +kernel)) (m_fc (List.mem_of_getElem? (i := 393) (by decide +kernel)) (m_fn))))))
def m_len : Instr → Nat → Nat
  | .bipush _, _ => 2 | .sipush _, _ => 3 | .ldc _, _ => 2 | .ldc2_w _, _ => 3
  | .iload _, _ => 2 | .lload _, _ => 2 | .aload _, _ => 2 | .istore _, _ => 2 | .lstore _, _ => 2 | .astore _, _ => 2
  | .iinc _ _, _ => 3 | .ifCond _ _, _ => 3 | .if_icmp _ _, _ => 3 | .goto _, _ => 3
  | .getfield _, _ => 3 | .putfield _, _ => 3 | .invokevirtual _, _ => 3 | .invokespecial _, _ => 3 | .invokestatic _, _ => 3
  | .new _, _ => 3 | .newarray _, _ => 2 | .lookupswitch _ _, n => n | .tableswitch _ _ _ _, n => n
  | _, _ => 1
def m_tsw (pc : Nat) : Int → List Int → List (Int32 × Nat)
  | _, [] => []
  | k, o :: r => (Int32.ofInt k, ((pc : Int) + o).toNat) :: m_tsw pc (k + 1) r
def m_okX (oi : Nat) (q : mI) : Bool := match q with
  | (pc, i, _, a, b, v, sw) => match i with
    | .iconst n => decide (v = .int (Int32.ofInt n))
    | .bipush n => decide (v = .int (Int8.ofInt n).toInt32)
    | .sipush n => decide (v = .int (Int16.ofInt n).toInt32)
    | .lconst n => decide (v = .long (Int64.ofNat n))
    | .ldc n => (match v with | .ref k => Nat.ble 1000000 k && (Nat.blt k 1000015 && (decide (m_strL.getD (k - 1000000) 0 = n) && Nat.beq oi 6)) | _ => false)
    | .ldc2_w n => (match v with | .long x => decide ((oi, n, x) ∈ m_lkK) | _ => false)
    | .iload_n n => Nat.beq a n.val
    | .iload n => Nat.beq a n
    | .lload_n n => Nat.beq a n.val
    | .lload n => Nat.beq a n
    | .aload_n n => Nat.beq a n.val
    | .aload n => Nat.beq a n
    | .istore_n n => Nat.beq a n.val
    | .istore n => Nat.beq a n
    | .lstore_n n => Nat.beq a n.val
    | .lstore n => Nat.beq a n
    | .astore_n n => Nat.beq a n.val
    | .astore n => Nat.beq a n
    | .iinc n d => Nat.beq a n && decide (v = .int (Int32.ofInt d))
    | .ifCond _ off => decide ((pc : Int) + off = (a : Int))
    | .if_icmp _ off => decide ((pc : Int) + off = (a : Int))
    | .goto off => decide ((pc : Int) + off = (a : Int))
    | .lookupswitch d ps => decide ((pc : Int) + d = (a : Int)) && (decide (ps.toList.map (fun z => (Int32.ofInt z.1, ((pc : Int) + z.2).toNat)) = sw) && (ps.toList.all (fun z => decide (0 ≤ (pc : Int) + z.2) && decide ((Int32.ofInt z.1).toInt = z.1)) && ((ps.toList.zip (ps.toList.drop 1)).all (fun (a, next) => a.1 < next.1))))
    | .tableswitch d lo hi offs => decide ((pc : Int) + d = (a : Int)) && (decide (m_tsw pc lo offs.toList = sw) && (offs.toList.all (fun z => decide (0 ≤ (pc : Int) + z)) && (decide (lo = 0) && (decide (hi + 1 = (offs.size : Int)) && decide (offs.size < 1000)))))
    | .getfield n => decide ((oi, n, a, b) ∈ m_lkF) || decide ((oi, n, a, b) ∈ m_lkN)
    | .putfield n => decide ((oi, n, a, b) ∈ m_lkF) || decide ((oi, n, a, b) ∈ m_lkN)
    | .invokevirtual n => decide ((oi, n, a, b) ∈ m_lkM)
    | .invokestatic n => decide ((oi, n, a, b) ∈ m_lkM)
    | .invokespecial n => decide ((oi, n, a, b) ∈ m_lkM) || decide ((oi, n, a, b) ∈ m_lkMN)
    | .new n => decide ((oi, n, a) ∈ m_lkC)
    | _ => true
def m_okI (oi : Nat) (cc : ByteArray) (q : mI) : Bool := decide (decode cc q.1 = .ok (q.2.1, m_len q.2.1 (q.2.2.1 - q.1))) && (Nat.beq q.2.2.1 (q.1 + m_len q.2.1 (q.2.2.1 - q.1)) && m_okX oi q)
def m_okC (oi : Nat) (cc : ByteArray) (cd : mL) : Bool := cd.all (fun x => x.2.all (m_okI oi cc))
end
section
def kX0_init : mL := [(26, [(0, .aload_n 0, 1, 0, 0, .null, []), (1, .invokespecial 3, 4, 999, 1, .null, []), (4, .aload_n 0, 5, 0, 0, .null, []), (5, .sipush 260, 8, 0, 0, .int 260, []), (8, .newarray .byte, 10, 260, 0, .null, []), (10, .putfield 9, 13, 0, 0, .null, []), (13, .aload_n 0, 14, 0, 0, .null, []), (14, .sipush 260, 17, 0, 0, .int 260, []), (17, .newarray .int, 19, 260, 0, .null, []), (19, .putfield 15, 22, 0, 1, .null, []), (22, .aload_n 0, 23, 0, 0, .null, []), (23, .sipush 260, 26, 0, 0, .int 260, [])]),
  (32, [(26, .newarray .int, 28, 260, 0, .null, []), (28, .putfield 19, 31, 0, 2, .null, []), (31, .return_, 32, 0, 0, .null, [])])]
theorem kX0_init_ok : m_okC 0 cX0_init kX0_init = true := by decide +kernel
def kX0_step : mL := [(22, [(0, .aload_n 0, 1, 0, 0, .null, []), (1, .getfield 22, 4, 0, 3, .null, []), (4, .sipush 260, 7, 0, 0, .int 260, []), (7, .if_icmp .lt 4, 10, 11, 0, .null, []), (10, .return_, 11, 0, 0, .null, []), (11, .aload_n 0, 12, 0, 0, .null, []), (12, .getfield 9, 15, 0, 0, .null, []), (15, .aload_n 0, 16, 0, 0, .null, []), (16, .getfield 22, 19, 0, 3, .null, []), (19, .iload_n 1, 20, 1, 0, .null, []), (20, .i2b, 21, 0, 0, .null, []), (21, .bastore, 22, 0, 0, .null, [])]),
  (42, [(22, .aload_n 0, 23, 0, 0, .null, []), (23, .getfield 15, 26, 0, 1, .null, []), (26, .aload_n 0, 27, 0, 0, .null, []), (27, .getfield 22, 30, 0, 3, .null, []), (30, .iload_n 2, 31, 2, 0, .null, []), (31, .iastore, 32, 0, 0, .null, []), (32, .aload_n 0, 33, 0, 0, .null, []), (33, .getfield 19, 36, 0, 2, .null, []), (36, .aload_n 0, 37, 0, 0, .null, []), (37, .getfield 22, 40, 0, 3, .null, []), (40, .iload_n 3, 41, 3, 0, .null, []), (41, .iastore, 42, 0, 0, .null, [])]),
  (53, [(42, .aload_n 0, 43, 0, 0, .null, []), (43, .dup, 44, 0, 0, .null, []), (44, .getfield 22, 47, 0, 3, .null, []), (47, .iconst 1, 48, 0, 0, .int 1, []), (48, .iadd, 49, 0, 0, .null, []), (49, .putfield 22, 52, 0, 3, .null, []), (52, .return_, 53, 0, 0, .null, [])])]
theorem kX0_step_ok : m_okC 0 cX0_step kX0_step = true := by decide +kernel
def kX0_leadHere : mL := [(22, [(0, .iload_n 1, 1, 1, 0, .null, []), (1, .ifCond .lt 21, 4, 22, 0, .null, []), (4, .iload_n 1, 5, 1, 0, .null, []), (5, .aload_n 0, 6, 0, 0, .null, []), (6, .getfield 22, 9, 0, 3, .null, []), (9, .if_icmp .ge 13, 12, 22, 0, .null, []), (12, .aload_n 0, 13, 0, 0, .null, []), (13, .getfield 15, 16, 0, 1, .null, []), (16, .iload_n 1, 17, 1, 0, .null, []), (17, .aload_n 0, 18, 0, 0, .null, []), (18, .getfield 22, 21, 0, 3, .null, []), (21, .iastore, 22, 0, 0, .null, [])]),
  (23, [(22, .return_, 23, 0, 0, .null, [])])]
theorem kX0_leadHere_ok : m_okC 0 cX0_leadHere kX0_leadHere = true := by decide +kernel
def kX2_init : mL := [(14, [(0, .aload_n 0, 1, 0, 0, .null, []), (1, .invokespecial 3, 4, 999, 1, .null, []), (4, .aload_n 0, 5, 0, 0, .null, []), (5, .sipush 3000, 8, 0, 0, .int 3000, []), (8, .newarray .char, 10, 3000, 0, .null, []), (10, .putfield 9, 13, 2, 0, .null, []), (13, .return_, 14, 0, 0, .null, [])])]
theorem kX2_init_ok : m_okC 2 cX2_init kX2_init = true := by decide +kernel
def kX2_at : mL := [(22, [(0, .iload_n 1, 1, 1, 0, .null, []), (1, .ifCond .lt 29, 4, 30, 0, .null, []), (4, .iload_n 1, 5, 1, 0, .null, []), (5, .aload_n 0, 6, 0, 0, .null, []), (6, .getfield 15, 9, 2, 1, .null, []), (9, .if_icmp .ge 21, 12, 30, 0, .null, []), (12, .iload_n 1, 13, 1, 0, .null, []), (13, .aload_n 0, 14, 0, 0, .null, []), (14, .getfield 9, 17, 2, 0, .null, []), (17, .arraylength, 18, 0, 0, .null, []), (18, .if_icmp .ge 12, 21, 30, 0, .null, []), (21, .aload_n 0, 22, 0, 0, .null, [])]),
  (32, [(22, .getfield 9, 25, 2, 0, .null, []), (25, .iload_n 1, 26, 1, 0, .null, []), (26, .caload, 27, 0, 0, .null, []), (27, .goto 4, 30, 31, 0, .null, []), (30, .iconst (-1), 31, 0, 0, .int (-1), []), (31, .ireturn, 32, 0, 0, .null, [])])]
theorem kX2_at_ok : m_okC 2 cX2_at kX2_at = true := by decide +kernel
def kX2_append : mL := [(18, [(0, .iload_n 3, 1, 3, 0, .null, []), (1, .aload_n 0, 2, 0, 0, .null, []), (2, .getfield 9, 5, 2, 0, .null, []), (5, .arraylength, 6, 0, 0, .null, []), (6, .aload_n 0, 7, 0, 0, .null, []), (7, .getfield 15, 10, 2, 1, .null, []), (10, .isub, 11, 0, 0, .null, []), (11, .if_icmp .le 5, 14, 16, 0, .null, []), (14, .iconst 0, 15, 0, 0, .int 0, []), (15, .ireturn, 16, 0, 0, .null, []), (16, .iload_n 3, 17, 3, 0, .null, []), (17, .iconst 1, 18, 0, 0, .int 1, [])]),
  (40, [(18, .isub, 19, 0, 0, .null, []), (19, .istore 4, 21, 4, 0, .null, []), (21, .iload 4, 23, 4, 0, .null, []), (23, .ifCond .lt 41, 26, 64, 0, .null, []), (26, .aload_n 0, 27, 0, 0, .null, []), (27, .getfield 9, 30, 2, 0, .null, []), (30, .aload_n 0, 31, 0, 0, .null, []), (31, .getfield 15, 34, 2, 1, .null, []), (34, .lload_n 1, 35, 1, 0, .null, []), (35, .bipush 8, 37, 0, 0, .int 8, []), (37, .iload 4, 39, 4, 0, .null, []), (39, .imul, 40, 0, 0, .null, [])]),
  (58, [(40, .lushr, 41, 0, 0, .null, []), (41, .ldc2_w 19, 44, 0, 0, .long 255, []), (44, .land, 45, 0, 0, .null, []), (45, .l2i, 46, 0, 0, .null, []), (46, .i2c, 47, 0, 0, .null, []), (47, .castore, 48, 0, 0, .null, []), (48, .aload_n 0, 49, 0, 0, .null, []), (49, .dup, 50, 0, 0, .null, []), (50, .getfield 15, 53, 2, 1, .null, []), (53, .iconst 1, 54, 0, 0, .int 1, []), (54, .iadd, 55, 0, 0, .null, []), (55, .putfield 15, 58, 2, 1, .null, [])]),
  (66, [(58, .iinc 4 (-1), 61, 4, 0, .int (-1), []), (61, .goto (-40), 64, 21, 0, .null, []), (64, .iconst 1, 65, 0, 0, .int 1, []), (65, .ireturn, 66, 0, 0, .null, [])])]
theorem kX2_append_ok : m_okC 2 cX2_append kX2_append = true := by decide +kernel
def kX2_packed : mL := [(18, [(0, .lconst 0, 1, 0, 0, .long 0, []), (1, .lstore_n 3, 2, 3, 0, .null, []), (2, .iload_n 1, 3, 1, 0, .null, []), (3, .istore 5, 5, 5, 0, .null, []), (5, .iload 5, 7, 5, 0, .null, []), (7, .iload_n 2, 8, 2, 0, .null, []), (8, .if_icmp .ge 22, 11, 30, 0, .null, []), (11, .lload_n 3, 12, 3, 0, .null, []), (12, .bipush 8, 14, 0, 0, .int 8, []), (14, .lshl, 15, 0, 0, .null, []), (15, .aload_n 0, 16, 0, 0, .null, []), (16, .iload 5, 18, 5, 0, .null, [])]),
  (32, [(18, .invokevirtual 21, 21, 38, 34, .null, []), (21, .i2l, 22, 0, 0, .null, []), (22, .lor, 23, 0, 0, .null, []), (23, .lstore_n 3, 24, 3, 0, .null, []), (24, .iinc 5 1, 27, 5, 0, .int 1, []), (27, .goto (-22), 30, 5, 0, .null, []), (30, .lload_n 3, 31, 3, 0, .null, []), (31, .lreturn, 32, 0, 0, .null, [])])]
theorem kX2_packed_ok : m_okC 2 cX2_packed kX2_packed = true := by decide +kernel
def kX2_whole : mL := [(23, [(0, .aload_n 0, 1, 0, 0, .null, []), (1, .getfield 15, 4, 2, 1, .null, []), (4, .bipush 8, 6, 0, 0, .int 8, []), (6, .if_icmp .le 7, 9, 13, 0, .null, []), (9, .ldc2_w 25, 12, 0, 0, .long (-1), []), (12, .lreturn, 13, 0, 0, .null, []), (13, .iconst 0, 14, 0, 0, .int 0, []), (14, .istore_n 1, 15, 1, 0, .null, []), (15, .iload_n 1, 16, 1, 0, .null, []), (16, .aload_n 0, 17, 0, 0, .null, []), (17, .getfield 15, 20, 2, 1, .null, []), (20, .if_icmp .ge 21, 23, 41, 0, .null, [])]),
  (47, [(23, .aload_n 0, 24, 0, 0, .null, []), (24, .iload_n 1, 25, 1, 0, .null, []), (25, .invokevirtual 21, 28, 38, 34, .null, []), (28, .ifCond .ne 7, 31, 35, 0, .null, []), (31, .ldc2_w 25, 34, 0, 0, .long (-1), []), (34, .lreturn, 35, 0, 0, .null, []), (35, .iinc 1 1, 38, 1, 0, .int 1, []), (38, .goto (-23), 41, 15, 0, .null, []), (41, .aload_n 0, 42, 0, 0, .null, []), (42, .iconst 0, 43, 0, 0, .int 0, []), (43, .aload_n 0, 44, 0, 0, .null, []), (44, .getfield 15, 47, 2, 1, .null, [])]),
  (51, [(47, .invokevirtual 27, 50, 40, 35, .null, []), (50, .lreturn, 51, 0, 0, .null, [])])]
theorem kX2_whole_ok : m_okC 2 cX2_whole kX2_whole = true := by decide +kernel
def kX2_wholeHash : mL := [(17, [(0, .iconst 0, 1, 0, 0, .int 0, []), (1, .istore_n 1, 2, 1, 0, .null, []), (2, .iconst 0, 3, 0, 0, .int 0, []), (3, .istore_n 2, 4, 2, 0, .null, []), (4, .iload_n 2, 5, 2, 0, .null, []), (5, .aload_n 0, 6, 0, 0, .null, []), (6, .getfield 15, 9, 2, 1, .null, []), (9, .if_icmp .ge 20, 12, 29, 0, .null, []), (12, .bipush 31, 14, 0, 0, .int 31, []), (14, .iload_n 1, 15, 1, 0, .null, []), (15, .imul, 16, 0, 0, .null, []), (16, .aload_n 0, 17, 0, 0, .null, [])]),
  (31, [(17, .iload_n 2, 18, 2, 0, .null, []), (18, .invokevirtual 21, 21, 38, 34, .null, []), (21, .iadd, 22, 0, 0, .null, []), (22, .istore_n 1, 23, 1, 0, .null, []), (23, .iinc 2 1, 26, 2, 0, .int 1, []), (26, .goto (-22), 29, 4, 0, .null, []), (29, .iload_n 1, 30, 1, 0, .null, []), (30, .ireturn, 31, 0, 0, .null, [])])]
theorem kX2_wholeHash_ok : m_okC 2 cX2_wholeHash kX2_wholeHash = true := by decide +kernel
def kX3_init : mL := [(21, [(0, .aload_n 0, 1, 0, 0, .null, []), (1, .invokespecial 3, 4, 999, 1, .null, []), (4, .aload_n 0, 5, 0, 0, .null, []), (5, .bipush 120, 7, 0, 0, .int 120, []), (7, .newarray .int, 9, 120, 0, .null, []), (9, .putfield 9, 12, 3, 0, .null, []), (12, .aload_n 0, 13, 0, 0, .null, []), (13, .bipush 20, 15, 0, 0, .int 20, []), (15, .newarray .int, 17, 20, 0, .null, []), (17, .putfield 15, 20, 3, 1, .null, []), (20, .return_, 21, 0, 0, .null, [])])]
theorem kX3_init_ok : m_okC 3 cX3_init kX3_init = true := by decide +kernel
def kX3_forget : mL := [(10, [(0, .aload_n 0, 1, 0, 0, .null, []), (1, .invokevirtual 18, 4, 45, 49, .null, []), (4, .aload_n 0, 5, 0, 0, .null, []), (5, .iconst 0, 6, 0, 0, .int 0, []), (6, .putfield 21, 9, 3, 4, .null, []), (9, .return_, 10, 0, 0, .null, [])])]
theorem kX3_forget_ok : m_okC 3 cX3_forget kX3_forget = true := by decide +kernel
def kX3_begin : mL := [(16, [(0, .aload_n 0, 1, 0, 0, .null, []), (1, .iconst 0, 2, 0, 0, .int 0, []), (2, .putfield 25, 5, 3, 2, .null, []), (5, .aload_n 0, 6, 0, 0, .null, []), (6, .iconst 0, 7, 0, 0, .int 0, []), (7, .putfield 29, 10, 3, 3, .null, []), (10, .aload_n 0, 11, 0, 0, .null, []), (11, .iconst 1, 12, 0, 0, .int 1, []), (12, .putfield 21, 15, 3, 4, .null, []), (15, .return_, 16, 0, 0, .null, [])])]
theorem kX3_begin_ok : m_okC 3 cX3_begin kX3_begin = true := by decide +kernel
def kX3_go : mL := [(24, [(0, .iload_n 2, 1, 2, 0, .null, []), (1, .istore 4, 3, 4, 0, .null, []), (3, .iload_n 3, 4, 3, 0, .null, []), (4, .istore 5, 6, 5, 0, .null, []), (6, .iconst 0, 7, 0, 0, .int 0, []), (7, .istore 6, 9, 6, 0, .null, []), (9, .iload 6, 11, 6, 0, .null, []), (11, .sipush 260, 14, 0, 0, .int 260, []), (14, .if_icmp .ge 189, 17, 203, 0, .null, []), (17, .iload 4, 19, 4, 0, .null, []), (19, .ifCond .lt 184, 22, 203, 0, .null, []), (22, .iload 4, 24, 4, 0, .null, [])]),
  (49, [(24, .aload_n 1, 25, 1, 0, .null, []), (25, .getfield 32, 28, 0, 3, .null, []), (28, .if_icmp .ge 175, 31, 203, 0, .null, []), (31, .iload 4, 33, 4, 0, .null, []), (33, .sipush 260, 36, 0, 0, .int 260, []), (36, .if_icmp .ge 167, 39, 203, 0, .null, []), (39, .aload_n 1, 40, 1, 0, .null, []), (40, .getfield 37, 43, 0, 1, .null, []), (43, .iload 4, 45, 4, 0, .null, []), (45, .iaload, 46, 0, 0, .null, []), (46, .istore 7, 48, 7, 0, .null, []), (48, .aload_n 1, 49, 1, 0, .null, [])]),
  (74, [(49, .getfield 40, 52, 0, 2, .null, []), (52, .iload 4, 54, 4, 0, .null, []), (54, .iaload, 55, 0, 0, .null, []), (55, .istore 8, 57, 8, 0, .null, []), (57, .aload_n 1, 58, 1, 0, .null, []), (58, .getfield 43, 61, 0, 0, .null, []), (61, .iload 4, 63, 4, 0, .null, []), (63, .baload, 64, 0, 0, .null, []), (64, .istore 9, 66, 9, 0, .null, []), (66, .iinc 4 1, 69, 4, 0, .int 1, []), (69, .iload 9, 71, 9, 0, .null, []), (71, .ifCond .ne 12, 74, 83, 0, .null, [])]),
  (99, [(74, .aload_n 0, 75, 0, 0, .null, []), (75, .iload 7, 77, 7, 0, .null, []), (77, .invokevirtual 47, 80, 48, 50, .null, []), (80, .goto 117, 83, 197, 0, .null, []), (83, .iload 9, 85, 9, 0, .null, []), (85, .iconst 1, 86, 0, 0, .int 1, []), (86, .if_icmp .ne 25, 89, 111, 0, .null, []), (89, .iload 7, 91, 7, 0, .null, []), (91, .invokestatic 51, 94, 47, 49, .null, []), (94, .ifCond .eq 17, 97, 111, 0, .null, []), (97, .aload_n 0, 98, 0, 0, .null, []), (98, .aload_n 0, 99, 0, 0, .null, [])]),
  (126, [(99, .getfield 15, 102, 3, 1, .null, []), (102, .iload 7, 104, 7, 0, .null, []), (104, .iaload, 105, 0, 0, .null, []), (105, .invokevirtual 47, 108, 48, 50, .null, []), (108, .goto 89, 111, 197, 0, .null, []), (111, .iload 9, 113, 9, 0, .null, []), (113, .iconst 2, 114, 0, 0, .int 2, []), (114, .if_icmp .ne 23, 117, 137, 0, .null, []), (117, .iload 7, 119, 7, 0, .null, []), (119, .invokestatic 51, 122, 47, 49, .null, []), (122, .ifCond .eq 15, 125, 137, 0, .null, []), (125, .aload_n 0, 126, 0, 0, .null, [])]),
  (148, [(126, .getfield 15, 129, 3, 1, .null, []), (129, .iload 7, 131, 7, 0, .null, []), (131, .iload 8, 133, 8, 0, .null, []), (133, .iastore, 134, 0, 0, .null, []), (134, .goto 63, 137, 197, 0, .null, []), (137, .iload 9, 139, 9, 0, .null, []), (139, .iconst 3, 140, 0, 0, .int 3, []), (140, .if_icmp .ne 29, 143, 169, 0, .null, []), (143, .iload 5, 145, 5, 0, .null, []), (145, .iconst 1, 146, 0, 0, .int 1, []), (146, .iand, 147, 0, 0, .null, []), (147, .iconst 1, 148, 0, 0, .int 1, [])]),
  (172, [(148, .if_icmp .ne 8, 151, 156, 0, .null, []), (151, .iload 4, 153, 4, 0, .null, []), (153, .goto 5, 156, 158, 0, .null, []), (156, .iload 7, 158, 7, 0, .null, []), (158, .istore 4, 160, 4, 0, .null, []), (160, .iload 5, 162, 5, 0, .null, []), (162, .iconst 1, 163, 0, 0, .int 1, []), (163, .iushr, 164, 0, 0, .null, []), (164, .istore 5, 166, 5, 0, .null, []), (166, .goto 31, 169, 197, 0, .null, []), (169, .iload 9, 171, 9, 0, .null, []), (171, .iconst 4, 172, 0, 0, .int 4, [])]),
  (197, [(172, .if_icmp .ne 10, 175, 182, 0, .null, []), (175, .iload 7, 177, 7, 0, .null, []), (177, .istore 4, 179, 4, 0, .null, []), (179, .goto 18, 182, 197, 0, .null, []), (182, .iload 9, 184, 9, 0, .null, []), (184, .iconst 5, 185, 0, 0, .int 5, []), (185, .if_icmp .ne 12, 188, 197, 0, .null, []), (188, .aload_n 0, 189, 0, 0, .null, []), (189, .iload 8, 191, 8, 0, .null, []), (191, .putfield 29, 194, 3, 3, .null, []), (194, .iload 7, 196, 7, 0, .null, []), (196, .ireturn, 197, 0, 0, .null, [])]),
  (205, [(197, .iinc 6 1, 200, 6, 0, .int 1, []), (200, .goto (-191), 203, 9, 0, .null, []), (203, .iconst 1, 204, 0, 0, .int 1, []), (204, .ireturn, 205, 0, 0, .null, [])])]
theorem kX3_go_ok : m_okC 3 cX3_go kX3_go = true := by decide +kernel
def kX3_isName : mL := [(16, [(0, .iload_n 0, 1, 0, 0, .null, []), (1, .ifCond .lt 13, 4, 14, 0, .null, []), (4, .iload_n 0, 5, 0, 0, .null, []), (5, .bipush 20, 7, 0, 0, .int 20, []), (7, .if_icmp .ge 7, 10, 14, 0, .null, []), (10, .iconst 1, 11, 0, 0, .int 1, []), (11, .goto 4, 14, 15, 0, .null, []), (14, .iconst 0, 15, 0, 0, .int 0, []), (15, .ireturn, 16, 0, 0, .null, [])])]
theorem kX3_isName_ok : m_okC 3 cX3_isName kX3_isName = true := by decide +kernel
def kX3_addToTrace : mL := [(21, [(0, .aload_n 0, 1, 0, 0, .null, []), (1, .getfield 25, 4, 3, 2, .null, []), (4, .bipush 120, 6, 0, 0, .int 120, []), (6, .if_icmp .ge 23, 9, 29, 0, .null, []), (9, .aload_n 0, 10, 0, 0, .null, []), (10, .getfield 9, 13, 3, 0, .null, []), (13, .aload_n 0, 14, 0, 0, .null, []), (14, .getfield 25, 17, 3, 2, .null, []), (17, .iload_n 1, 18, 1, 0, .null, []), (18, .iastore, 19, 0, 0, .null, []), (19, .aload_n 0, 20, 0, 0, .null, []), (20, .dup, 21, 0, 0, .null, [])]),
  (30, [(21, .getfield 25, 24, 3, 2, .null, []), (24, .iconst 1, 25, 0, 0, .int 1, []), (25, .iadd, 26, 0, 0, .null, []), (26, .putfield 25, 29, 3, 2, .null, []), (29, .return_, 30, 0, 0, .null, [])])]
theorem kX3_addToTrace_ok : m_okC 3 cX3_addToTrace kX3_addToTrace = true := by decide +kernel
def kX4_init : mL := [(13, [(0, .aload_n 0, 1, 0, 0, .null, []), (1, .invokespecial 3, 4, 999, 1, .null, []), (4, .aload_n 0, 5, 0, 0, .null, []), (5, .bipush 20, 7, 0, 0, .int 20, []), (7, .newarray .long, 9, 20, 0, .null, []), (9, .putfield 9, 12, 4, 0, .null, []), (12, .return_, 13, 0, 0, .null, [])])]
theorem kX4_init_ok : m_okC 4 cX4_init kX4_init = true := by decide +kernel
def kX4_find : mL := [(21, [(0, .iconst 0, 1, 0, 0, .int 0, []), (1, .istore_n 3, 2, 3, 0, .null, []), (2, .iload_n 3, 3, 3, 0, .null, []), (3, .aload_n 0, 4, 0, 0, .null, []), (4, .getfield 15, 7, 4, 1, .null, []), (7, .if_icmp .ge 28, 10, 35, 0, .null, []), (10, .iload_n 3, 11, 3, 0, .null, []), (11, .bipush 20, 13, 0, 0, .int 20, []), (13, .if_icmp .ge 22, 16, 35, 0, .null, []), (16, .aload_n 0, 17, 0, 0, .null, []), (17, .getfield 9, 20, 4, 0, .null, []), (20, .iload_n 3, 21, 3, 0, .null, [])]),
  (37, [(21, .laload, 22, 0, 0, .null, []), (22, .lload_n 1, 23, 1, 0, .null, []), (23, .lcmp, 24, 0, 0, .null, []), (24, .ifCond .ne 5, 27, 29, 0, .null, []), (27, .iload_n 3, 28, 3, 0, .null, []), (28, .ireturn, 29, 0, 0, .null, []), (29, .iinc 3 1, 32, 3, 0, .int 1, []), (32, .goto (-30), 35, 2, 0, .null, []), (35, .iconst (-1), 36, 0, 0, .int (-1), []), (36, .ireturn, 37, 0, 0, .null, [])])]
theorem kX4_find_ok : m_okC 4 cX4_find kX4_find = true := by decide +kernel
def kX4_add : mL := [(21, [(0, .aload_n 0, 1, 0, 0, .null, []), (1, .getfield 15, 4, 4, 1, .null, []), (4, .bipush 20, 6, 0, 0, .int 20, []), (6, .if_icmp .lt 5, 9, 11, 0, .null, []), (9, .iconst (-1), 10, 0, 0, .int (-1), []), (10, .ireturn, 11, 0, 0, .null, []), (11, .aload_n 0, 12, 0, 0, .null, []), (12, .getfield 9, 15, 4, 0, .null, []), (15, .aload_n 0, 16, 0, 0, .null, []), (16, .getfield 15, 19, 4, 1, .null, []), (19, .lload_n 1, 20, 1, 0, .null, []), (20, .lastore, 21, 0, 0, .null, [])]),
  (38, [(21, .aload_n 0, 22, 0, 0, .null, []), (22, .dup, 23, 0, 0, .null, []), (23, .getfield 15, 26, 4, 1, .null, []), (26, .iconst 1, 27, 0, 0, .int 1, []), (27, .iadd, 28, 0, 0, .null, []), (28, .putfield 15, 31, 4, 1, .null, []), (31, .aload_n 0, 32, 0, 0, .null, []), (32, .getfield 15, 35, 4, 1, .null, []), (35, .iconst 1, 36, 0, 0, .int 1, []), (36, .isub, 37, 0, 0, .null, []), (37, .ireturn, 38, 0, 0, .null, [])])]
theorem kX4_add_ok : m_okC 4 cX4_add kX4_add = true := by decide +kernel
def kX4_shrink : mL := [(20, [(0, .aload_n 0, 1, 0, 0, .null, []), (1, .iload_n 1, 2, 1, 0, .null, []), (2, .putfield 15, 5, 4, 1, .null, []), (5, .aload_n 0, 6, 0, 0, .null, []), (6, .getfield 19, 9, 4, 2, .null, []), (9, .iconst (-1), 10, 0, 0, .int (-1), []), (10, .if_icmp .eq 17, 13, 27, 0, .null, []), (13, .aload_n 0, 14, 0, 0, .null, []), (14, .dup, 15, 0, 0, .null, []), (15, .getfield 19, 18, 4, 2, .null, []), (18, .iconst 1, 19, 0, 0, .int 1, []), (19, .iload_n 1, 20, 1, 0, .null, [])]),
  (28, [(20, .ishl, 21, 0, 0, .null, []), (21, .iconst 1, 22, 0, 0, .int 1, []), (22, .isub, 23, 0, 0, .null, []), (23, .iand, 24, 0, 0, .null, []), (24, .putfield 19, 27, 4, 2, .null, []), (27, .return_, 28, 0, 0, .null, [])])]
theorem kX4_shrink_ok : m_okC 4 cX4_shrink kX4_shrink = true := by decide +kernel
def kX4_isSet : mL := [(20, [(0, .iload_n 1, 1, 1, 0, .null, []), (1, .ifCond .lt 19, 4, 20, 0, .null, []), (4, .aload_n 0, 5, 0, 0, .null, []), (5, .getfield 19, 8, 4, 2, .null, []), (8, .iload_n 1, 9, 1, 0, .null, []), (9, .iushr, 10, 0, 0, .null, []), (10, .iconst 1, 11, 0, 0, .int 1, []), (11, .iand, 12, 0, 0, .null, []), (12, .iconst 1, 13, 0, 0, .int 1, []), (13, .if_icmp .ne 7, 16, 20, 0, .null, []), (16, .iconst 1, 17, 0, 0, .int 1, []), (17, .goto 4, 20, 21, 0, .null, [])]),
  (22, [(20, .iconst 0, 21, 0, 0, .int 0, []), (21, .ireturn, 22, 0, 0, .null, [])])]
theorem kX4_isSet_ok : m_okC 4 cX4_isSet kX4_isSet = true := by decide +kernel
def kX4_makeSet : mL := [(17, [(0, .iload_n 1, 1, 1, 0, .null, []), (1, .ifCond .lt 15, 4, 16, 0, .null, []), (4, .aload_n 0, 5, 0, 0, .null, []), (5, .dup, 6, 0, 0, .null, []), (6, .getfield 19, 9, 4, 2, .null, []), (9, .iconst 1, 10, 0, 0, .int 1, []), (10, .iload_n 1, 11, 1, 0, .null, []), (11, .ishl, 12, 0, 0, .null, []), (12, .ior, 13, 0, 0, .null, []), (13, .putfield 19, 16, 4, 2, .null, []), (16, .return_, 17, 0, 0, .null, [])])]
theorem kX4_makeSet_ok : m_okC 4 cX4_makeSet kX4_makeSet = true := by decide +kernel
def kX4_isReached : mL := [(14, [(0, .aload_n 0, 1, 0, 0, .null, []), (1, .getfield 19, 4, 4, 2, .null, []), (4, .iconst (-1), 5, 0, 0, .int (-1), []), (5, .if_icmp .eq 7, 8, 12, 0, .null, []), (8, .iconst 1, 9, 0, 0, .int 1, []), (9, .goto 4, 12, 13, 0, .null, []), (12, .iconst 0, 13, 0, 0, .int 0, []), (13, .ireturn, 14, 0, 0, .null, [])])]
theorem kX4_isReached_ok : m_okC 4 cX4_isReached kX4_isReached = true := by decide +kernel
def kX5_init : mL := [(23, [(0, .aload_n 0, 1, 0, 0, .null, []), (1, .invokespecial 3, 4, 999, 1, .null, []), (4, .aload_n 0, 5, 0, 0, .null, []), (5, .bipush 32, 7, 0, 0, .int 32, []), (7, .newarray .int, 9, 32, 0, .null, []), (9, .putfield 9, 12, 5, 0, .null, []), (12, .aload_n 0, 13, 0, 0, .null, []), (13, .bipush 32, 15, 0, 0, .int 32, []), (15, .newarray .int, 17, 32, 0, .null, []), (17, .putfield 15, 20, 5, 1, .null, []), (20, .aload_n 0, 21, 0, 0, .null, []), (21, .bipush 32, 23, 0, 0, .int 32, [])]),
  (29, [(23, .newarray .int, 25, 32, 0, .null, []), (25, .putfield 18, 28, 5, 2, .null, []), (28, .return_, 29, 0, 0, .null, [])])]
theorem kX5_init_ok : m_okC 5 cX5_init kX5_init = true := by decide +kernel
def kX5_make : mL := [(20, [(0, .aload_n 0, 1, 0, 0, .null, []), (1, .iconst 0, 2, 0, 0, .int 0, []), (2, .putfield 21, 5, 5, 3, .null, []), (5, .aload_n 1, 6, 1, 0, .null, []), (6, .getfield 25, 9, 7, 0, .null, []), (9, .ifCond .ne 4, 12, 13, 0, .null, []), (12, .return_, 13, 0, 0, .null, []), (13, .iconst 0, 14, 0, 0, .int 0, []), (14, .istore_n 2, 15, 2, 0, .null, []), (15, .iload_n 2, 16, 2, 0, .null, []), (16, .aload_n 1, 17, 1, 0, .null, []), (17, .getfield 31, 20, 7, 5, .null, [])]),
  (41, [(20, .if_icmp .ge 31, 23, 51, 0, .null, []), (23, .iload_n 2, 24, 2, 0, .null, []), (24, .bipush 32, 26, 0, 0, .int 32, []), (26, .if_icmp .ge 25, 29, 51, 0, .null, []), (29, .aload_n 0, 30, 0, 0, .null, []), (30, .aload_n 1, 31, 1, 0, .null, []), (31, .getfield 34, 34, 7, 11, .null, []), (34, .iload_n 2, 35, 2, 0, .null, []), (35, .iaload, 36, 0, 0, .null, []), (36, .aload_n 1, 37, 1, 0, .null, []), (37, .getfield 37, 40, 7, 10, .null, []), (40, .iload_n 2, 41, 2, 0, .null, [])]),
  (52, [(41, .iaload, 42, 0, 0, .null, []), (42, .invokevirtual 40, 45, 58, 83, .null, []), (45, .iinc 2 1, 48, 2, 0, .int 1, []), (48, .goto (-33), 51, 15, 0, .null, []), (51, .return_, 52, 0, 0, .null, [])])]
theorem kX5_make_ok : m_okC 5 cX5_make kX5_make = true := by decide +kernel
def kX5_put : mL := [(20, [(0, .iconst 0, 1, 0, 0, .int 0, []), (1, .istore_n 3, 2, 3, 0, .null, []), (2, .iload_n 3, 3, 3, 0, .null, []), (3, .aload_n 0, 4, 0, 0, .null, []), (4, .getfield 21, 7, 5, 3, .null, []), (7, .if_icmp .ge 19, 10, 26, 0, .null, []), (10, .aload_n 0, 11, 0, 0, .null, []), (11, .getfield 9, 14, 5, 0, .null, []), (14, .iload_n 3, 15, 3, 0, .null, []), (15, .iaload, 16, 0, 0, .null, []), (16, .iload_n 1, 17, 1, 0, .null, []), (17, .if_icmp .ge 9, 20, 26, 0, .null, [])]),
  (44, [(20, .iinc 3 1, 23, 3, 0, .int 1, []), (23, .goto (-21), 26, 2, 0, .null, []), (26, .iload_n 3, 27, 3, 0, .null, []), (27, .aload_n 0, 28, 0, 0, .null, []), (28, .getfield 21, 31, 5, 3, .null, []), (31, .if_icmp .ge 26, 34, 57, 0, .null, []), (34, .aload_n 0, 35, 0, 0, .null, []), (35, .getfield 9, 38, 5, 0, .null, []), (38, .iload_n 3, 39, 3, 0, .null, []), (39, .iaload, 40, 0, 0, .null, []), (40, .iload_n 1, 41, 1, 0, .null, []), (41, .if_icmp .ne 16, 44, 57, 0, .null, [])]),
  (63, [(44, .aload_n 0, 45, 0, 0, .null, []), (45, .getfield 18, 48, 5, 2, .null, []), (48, .iload_n 3, 49, 3, 0, .null, []), (49, .dup2, 50, 0, 0, .null, []), (50, .iaload, 51, 0, 0, .null, []), (51, .iconst 1, 52, 0, 0, .int 1, []), (52, .iadd, 53, 0, 0, .null, []), (53, .iastore, 54, 0, 0, .null, []), (54, .goto 109, 57, 163, 0, .null, []), (57, .aload_n 0, 58, 0, 0, .null, []), (58, .getfield 21, 61, 5, 3, .null, []), (61, .bipush 32, 63, 0, 0, .int 32, [])]),
  (88, [(63, .if_icmp .ge 100, 66, 163, 0, .null, []), (66, .aload_n 0, 67, 0, 0, .null, []), (67, .getfield 21, 70, 5, 3, .null, []), (70, .istore 4, 72, 4, 0, .null, []), (72, .iload 4, 74, 4, 0, .null, []), (74, .iload_n 3, 75, 3, 0, .null, []), (75, .if_icmp .le 57, 78, 132, 0, .null, []), (78, .aload_n 0, 79, 0, 0, .null, []), (79, .getfield 9, 82, 5, 0, .null, []), (82, .iload 4, 84, 4, 0, .null, []), (84, .aload_n 0, 85, 0, 0, .null, []), (85, .getfield 9, 88, 5, 0, .null, [])]),
  (107, [(88, .iload 4, 90, 4, 0, .null, []), (90, .iconst 1, 91, 0, 0, .int 1, []), (91, .isub, 92, 0, 0, .null, []), (92, .iaload, 93, 0, 0, .null, []), (93, .iastore, 94, 0, 0, .null, []), (94, .aload_n 0, 95, 0, 0, .null, []), (95, .getfield 15, 98, 5, 1, .null, []), (98, .iload 4, 100, 4, 0, .null, []), (100, .aload_n 0, 101, 0, 0, .null, []), (101, .getfield 15, 104, 5, 1, .null, []), (104, .iload 4, 106, 4, 0, .null, []), (106, .iconst 1, 107, 0, 0, .int 1, [])]),
  (125, [(107, .isub, 108, 0, 0, .null, []), (108, .iaload, 109, 0, 0, .null, []), (109, .iastore, 110, 0, 0, .null, []), (110, .aload_n 0, 111, 0, 0, .null, []), (111, .getfield 18, 114, 5, 2, .null, []), (114, .iload 4, 116, 4, 0, .null, []), (116, .aload_n 0, 117, 0, 0, .null, []), (117, .getfield 18, 120, 5, 2, .null, []), (120, .iload 4, 122, 4, 0, .null, []), (122, .iconst 1, 123, 0, 0, .int 1, []), (123, .isub, 124, 0, 0, .null, []), (124, .iaload, 125, 0, 0, .null, [])]),
  (145, [(125, .iastore, 126, 0, 0, .null, []), (126, .iinc 4 (-1), 129, 4, 0, .int (-1), []), (129, .goto (-57), 132, 72, 0, .null, []), (132, .aload_n 0, 133, 0, 0, .null, []), (133, .getfield 9, 136, 5, 0, .null, []), (136, .iload_n 3, 137, 3, 0, .null, []), (137, .iload_n 1, 138, 1, 0, .null, []), (138, .iastore, 139, 0, 0, .null, []), (139, .aload_n 0, 140, 0, 0, .null, []), (140, .getfield 15, 143, 5, 1, .null, []), (143, .iload_n 3, 144, 3, 0, .null, []), (144, .iload_n 2, 145, 2, 0, .null, [])]),
  (163, [(145, .iastore, 146, 0, 0, .null, []), (146, .aload_n 0, 147, 0, 0, .null, []), (147, .getfield 18, 150, 5, 2, .null, []), (150, .iload_n 3, 151, 3, 0, .null, []), (151, .iconst 1, 152, 0, 0, .int 1, []), (152, .iastore, 153, 0, 0, .null, []), (153, .aload_n 0, 154, 0, 0, .null, []), (154, .dup, 155, 0, 0, .null, []), (155, .getfield 21, 158, 5, 3, .null, []), (158, .iconst 1, 159, 0, 0, .int 1, []), (159, .iadd, 160, 0, 0, .null, []), (160, .putfield 21, 163, 5, 3, .null, [])]),
  (164, [(163, .return_, 164, 0, 0, .null, [])])]
theorem kX5_put_ok : m_okC 5 cX5_put kX5_put = true := by decide +kernel
def kX5_has : mL := [(23, [(0, .iload_n 1, 1, 1, 0, .null, []), (1, .ifCond .lt 21, 4, 22, 0, .null, []), (4, .iload_n 1, 5, 1, 0, .null, []), (5, .aload_n 0, 6, 0, 0, .null, []), (6, .getfield 21, 9, 5, 3, .null, []), (9, .if_icmp .ge 13, 12, 22, 0, .null, []), (12, .iload_n 1, 13, 1, 0, .null, []), (13, .bipush 32, 15, 0, 0, .int 32, []), (15, .if_icmp .ge 7, 18, 22, 0, .null, []), (18, .iconst 1, 19, 0, 0, .int 1, []), (19, .goto 4, 22, 23, 0, .null, []), (22, .iconst 0, 23, 0, 0, .int 0, [])]),
  (24, [(23, .ireturn, 24, 0, 0, .null, [])])]
theorem kX5_has_ok : m_okC 5 cX5_has kX5_has = true := by decide +kernel
def kX5_isDense : mL := [(23, [(0, .aload_n 0, 1, 0, 0, .null, []), (1, .getfield 21, 4, 5, 3, .null, []), (4, .ifCond .le 12, 7, 16, 0, .null, []), (7, .aload_n 0, 8, 0, 0, .null, []), (8, .getfield 21, 11, 5, 3, .null, []), (11, .bipush 32, 13, 0, 0, .int 32, []), (13, .if_icmp .le 5, 16, 18, 0, .null, []), (16, .iconst 0, 17, 0, 0, .int 0, []), (17, .ireturn, 18, 0, 0, .null, []), (18, .aload_n 0, 19, 0, 0, .null, []), (19, .getfield 9, 22, 5, 0, .null, []), (22, .aload_n 0, 23, 0, 0, .null, [])]),
  (39, [(23, .getfield 21, 26, 5, 3, .null, []), (26, .iconst 1, 27, 0, 0, .int 1, []), (27, .isub, 28, 0, 0, .null, []), (28, .iaload, 29, 0, 0, .null, []), (29, .i2l, 30, 0, 0, .null, []), (30, .aload_n 0, 31, 0, 0, .null, []), (31, .getfield 9, 34, 5, 0, .null, []), (34, .iconst 0, 35, 0, 0, .int 0, []), (35, .iaload, 36, 0, 0, .null, []), (36, .i2l, 37, 0, 0, .null, []), (37, .lsub, 38, 0, 0, .null, []), (38, .lconst 1, 39, 0, 0, .long 1, [])]),
  (61, [(39, .ladd, 40, 0, 0, .null, []), (40, .lstore_n 1, 41, 1, 0, .null, []), (41, .ldc2_w 44, 44, 0, 0, .long 4, []), (44, .lload_n 1, 45, 1, 0, .null, []), (45, .ladd, 46, 0, 0, .null, []), (46, .ldc2_w 46, 49, 0, 0, .long 9, []), (49, .ladd, 50, 0, 0, .null, []), (50, .ldc2_w 48, 53, 0, 0, .long 3, []), (53, .ldc2_w 50, 56, 0, 0, .long 2, []), (56, .aload_n 0, 57, 0, 0, .null, []), (57, .getfield 21, 60, 5, 3, .null, []), (60, .i2l, 61, 0, 0, .null, [])]),
  (81, [(61, .lmul, 62, 0, 0, .null, []), (62, .ladd, 63, 0, 0, .null, []), (63, .ldc2_w 48, 66, 0, 0, .long 3, []), (66, .aload_n 0, 67, 0, 0, .null, []), (67, .getfield 21, 70, 5, 3, .null, []), (70, .i2l, 71, 0, 0, .null, []), (71, .lmul, 72, 0, 0, .null, []), (72, .ladd, 73, 0, 0, .null, []), (73, .lcmp, 74, 0, 0, .null, []), (74, .ifCond .gt 7, 77, 81, 0, .null, []), (77, .iconst 1, 78, 0, 0, .int 1, []), (78, .goto 4, 81, 82, 0, .null, [])]),
  (83, [(81, .iconst 0, 82, 0, 0, .int 0, []), (82, .ireturn, 83, 0, 0, .null, [])])]
theorem kX5_isDense_ok : m_okC 5 cX5_isDense kX5_isDense = true := by decide +kernel
def kX7_init : mL := [(22, [(0, .aload_n 0, 1, 0, 0, .null, []), (1, .invokespecial 3, 4, 999, 1, .null, []), (4, .aload_n 0, 5, 0, 0, .null, []), (5, .iconst (-1), 6, 0, 0, .int (-1), []), (6, .putfield 9, 9, 7, 7, .null, []), (9, .aload_n 0, 10, 0, 0, .null, []), (10, .bipush 20, 12, 0, 0, .int 20, []), (12, .newarray .int, 14, 20, 0, .null, []), (14, .putfield 15, 17, 7, 9, .null, []), (17, .aload_n 0, 18, 0, 0, .null, []), (18, .bipush 32, 20, 0, 0, .int 32, []), (20, .newarray .int, 22, 32, 0, .null, [])]),
  (46, [(22, .putfield 19, 25, 7, 10, .null, []), (25, .aload_n 0, 26, 0, 0, .null, []), (26, .bipush 32, 28, 0, 0, .int 32, []), (28, .newarray .int, 30, 32, 0, .null, []), (30, .putfield 22, 33, 7, 11, .null, []), (33, .aload_n 0, 34, 0, 0, .null, []), (34, .bipush 32, 36, 0, 0, .int 32, []), (36, .newarray .long, 38, 32, 0, .null, []), (38, .putfield 25, 41, 7, 12, .null, []), (41, .aload_n 0, 42, 0, 0, .null, []), (42, .new 29, 45, 0, 0, .null, []), (45, .dup, 46, 0, 0, .null, [])]),
  (53, [(46, .invokespecial 31, 49, 0, 1, .null, []), (49, .putfield 32, 52, 7, 13, .null, []), (52, .return_, 53, 0, 0, .null, [])])]
theorem kX7_init_ok : m_okC 7 cX7_init kX7_init = true := by decide +kernel
def kX7_clear : mL := [(20, [(0, .aload_n 0, 1, 0, 0, .null, []), (1, .iconst 0, 2, 0, 0, .int 0, []), (2, .putfield 36, 5, 7, 3, .null, []), (5, .aload_n 0, 6, 0, 0, .null, []), (6, .iconst 0, 7, 0, 0, .int 0, []), (7, .putfield 39, 10, 7, 4, .null, []), (10, .aload_n 0, 11, 0, 0, .null, []), (11, .iconst 0, 12, 0, 0, .int 0, []), (12, .putfield 42, 15, 7, 5, .null, []), (15, .aload_n 0, 16, 0, 0, .null, []), (16, .iconst 0, 17, 0, 0, .int 0, []), (17, .putfield 45, 20, 7, 6, .null, [])]),
  (39, [(20, .aload_n 0, 21, 0, 0, .null, []), (21, .iconst (-1), 22, 0, 0, .int (-1), []), (22, .putfield 9, 25, 7, 7, .null, []), (25, .aload_n 0, 26, 0, 0, .null, []), (26, .iconst 0, 27, 0, 0, .int 0, []), (27, .putfield 48, 30, 7, 8, .null, []), (30, .aload_n 0, 31, 0, 0, .null, []), (31, .getfield 32, 34, 7, 13, .null, []), (34, .iconst 0, 35, 0, 0, .int 0, []), (35, .putfield 52, 38, 0, 3, .null, []), (38, .return_, 39, 0, 0, .null, [])])]
theorem kX7_clear_ok : m_okC 7 cX7_clear kX7_clear = true := by decide +kernel
def kX7_addArm : mL := [(25, [(0, .aload_n 0, 1, 0, 0, .null, []), (1, .getfield 39, 4, 7, 4, .null, []), (4, .bipush 20, 6, 0, 0, .int 20, []), (6, .if_icmp .ge 29, 9, 35, 0, .null, []), (9, .aload_n 0, 10, 0, 0, .null, []), (10, .getfield 15, 13, 7, 9, .null, []), (13, .aload_n 0, 14, 0, 0, .null, []), (14, .getfield 39, 17, 7, 4, .null, []), (17, .aload_n 0, 18, 0, 0, .null, []), (18, .getfield 32, 21, 7, 13, .null, []), (21, .getfield 52, 24, 0, 3, .null, []), (24, .iastore, 25, 0, 0, .null, [])]),
  (36, [(25, .aload_n 0, 26, 0, 0, .null, []), (26, .dup, 27, 0, 0, .null, []), (27, .getfield 39, 30, 7, 4, .null, []), (30, .iconst 1, 31, 0, 0, .int 1, []), (31, .iadd, 32, 0, 0, .null, []), (32, .putfield 39, 35, 7, 4, .null, []), (35, .return_, 36, 0, 0, .null, [])])]
theorem kX7_addArm_ok : m_okC 7 cX7_addArm kX7_addArm = true := by decide +kernel
def kX7_startOf : mL := [(23, [(0, .iload_n 1, 1, 1, 0, .null, []), (1, .ifCond .lt 18, 4, 19, 0, .null, []), (4, .iload_n 1, 5, 1, 0, .null, []), (5, .bipush 20, 7, 0, 0, .int 20, []), (7, .if_icmp .ge 12, 10, 19, 0, .null, []), (10, .aload_n 0, 11, 0, 0, .null, []), (11, .getfield 15, 14, 7, 9, .null, []), (14, .iload_n 1, 15, 1, 0, .null, []), (15, .iaload, 16, 0, 0, .null, []), (16, .goto 10, 19, 26, 0, .null, []), (19, .aload_n 0, 20, 0, 0, .null, []), (20, .getfield 32, 23, 7, 13, .null, [])]),
  (27, [(23, .getfield 52, 26, 0, 3, .null, []), (26, .ireturn, 27, 0, 0, .null, [])])]
theorem kX7_startOf_ok : m_okC 7 cX7_startOf kX7_startOf = true := by decide +kernel
def kX7_addLabel : mL := [(23, [(0, .aload_n 0, 1, 0, 0, .null, []), (1, .getfield 42, 4, 7, 5, .null, []), (4, .bipush 32, 6, 0, 0, .int 32, []), (6, .if_icmp .ge 64, 9, 70, 0, .null, []), (9, .aload_n 0, 10, 0, 0, .null, []), (10, .getfield 19, 13, 7, 10, .null, []), (13, .aload_n 0, 14, 0, 0, .null, []), (14, .getfield 42, 17, 7, 5, .null, []), (17, .aload_n 0, 18, 0, 0, .null, []), (18, .getfield 39, 21, 7, 4, .null, []), (21, .iconst 1, 22, 0, 0, .int 1, []), (22, .isub, 23, 0, 0, .null, [])]),
  (43, [(23, .iastore, 24, 0, 0, .null, []), (24, .aload_n 0, 25, 0, 0, .null, []), (25, .getfield 25, 28, 7, 12, .null, []), (28, .aload_n 0, 29, 0, 0, .null, []), (29, .getfield 42, 32, 7, 5, .null, []), (32, .lload_n 1, 33, 1, 0, .null, []), (33, .lastore, 34, 0, 0, .null, []), (34, .aload_n 0, 35, 0, 0, .null, []), (35, .getfield 22, 38, 7, 11, .null, []), (38, .aload_n 0, 39, 0, 0, .null, []), (39, .getfield 42, 42, 7, 5, .null, []), (42, .aload_n 0, 43, 0, 0, .null, [])]),
  (65, [(43, .getfield 55, 46, 7, 2, .null, []), (46, .iconst 1, 47, 0, 0, .int 1, []), (47, .if_icmp .ne 10, 50, 57, 0, .null, []), (50, .lload_n 1, 51, 1, 0, .null, []), (51, .invokestatic 58, 54, 80, 113, .null, []), (54, .goto 5, 57, 59, 0, .null, []), (57, .lload_n 1, 58, 1, 0, .null, []), (58, .l2i, 59, 0, 0, .null, []), (59, .iastore, 60, 0, 0, .null, []), (60, .aload_n 0, 61, 0, 0, .null, []), (61, .dup, 62, 0, 0, .null, []), (62, .getfield 42, 65, 7, 5, .null, [])]),
  (71, [(65, .iconst 1, 66, 0, 0, .int 1, []), (66, .iadd, 67, 0, 0, .null, []), (67, .putfield 42, 70, 7, 5, .null, []), (70, .return_, 71, 0, 0, .null, [])])]
theorem kX7_addLabel_ok : m_okC 7 cX7_addLabel kX7_addLabel = true := by decide +kernel
def kX7_packedHash : mL := [(17, [(0, .iconst 0, 1, 0, 0, .int 0, []), (1, .istore_n 2, 2, 2, 0, .null, []), (2, .bipush 7, 4, 0, 0, .int 7, []), (4, .istore_n 3, 5, 3, 0, .null, []), (5, .iload_n 3, 6, 3, 0, .null, []), (6, .ifCond .lt 26, 9, 32, 0, .null, []), (9, .bipush 31, 11, 0, 0, .int 31, []), (11, .iload_n 2, 12, 2, 0, .null, []), (12, .imul, 13, 0, 0, .null, []), (13, .lload_n 0, 14, 0, 0, .null, []), (14, .bipush 8, 16, 0, 0, .int 8, []), (16, .iload_n 3, 17, 3, 0, .null, [])]),
  (34, [(17, .imul, 18, 0, 0, .null, []), (18, .lushr, 19, 0, 0, .null, []), (19, .ldc2_w 62, 22, 0, 0, .long 255, []), (22, .land, 23, 0, 0, .null, []), (23, .l2i, 24, 0, 0, .null, []), (24, .iadd, 25, 0, 0, .null, []), (25, .istore_n 2, 26, 2, 0, .null, []), (26, .iinc 3 (-1), 29, 3, 0, .int (-1), []), (29, .goto (-24), 32, 5, 0, .null, []), (32, .iload_n 2, 33, 2, 0, .null, []), (33, .ireturn, 34, 0, 0, .null, [])])]
theorem kX7_packedHash_ok : m_okC 7 cX7_packedHash kX7_packedHash = true := by decide +kernel
def kX7_hasLabel : mL := [(14, [(0, .aload_n 0, 1, 0, 0, .null, []), (1, .lload_n 1, 2, 1, 0, .null, []), (2, .invokevirtual 64, 5, 82, 114, .null, []), (5, .ifCond .lt 7, 8, 12, 0, .null, []), (8, .iconst 1, 9, 0, 0, .int 1, []), (9, .goto 4, 12, 13, 0, .null, []), (12, .iconst 0, 13, 0, 0, .int 0, []), (13, .ireturn, 14, 0, 0, .null, [])])]
theorem kX7_hasLabel_ok : m_okC 7 cX7_hasLabel kX7_hasLabel = true := by decide +kernel
def kX7_labelWith : mL := [(21, [(0, .iconst 0, 1, 0, 0, .int 0, []), (1, .istore_n 3, 2, 3, 0, .null, []), (2, .iload_n 3, 3, 3, 0, .null, []), (3, .aload_n 0, 4, 0, 0, .null, []), (4, .getfield 42, 7, 7, 5, .null, []), (7, .if_icmp .ge 28, 10, 35, 0, .null, []), (10, .iload_n 3, 11, 3, 0, .null, []), (11, .bipush 32, 13, 0, 0, .int 32, []), (13, .if_icmp .ge 22, 16, 35, 0, .null, []), (16, .aload_n 0, 17, 0, 0, .null, []), (17, .getfield 25, 20, 7, 12, .null, []), (20, .iload_n 3, 21, 3, 0, .null, [])]),
  (37, [(21, .laload, 22, 0, 0, .null, []), (22, .lload_n 1, 23, 1, 0, .null, []), (23, .lcmp, 24, 0, 0, .null, []), (24, .ifCond .ne 5, 27, 29, 0, .null, []), (27, .iload_n 3, 28, 3, 0, .null, []), (28, .ireturn, 29, 0, 0, .null, []), (29, .iinc 3 1, 32, 3, 0, .int 1, []), (32, .goto (-30), 35, 2, 0, .null, []), (35, .iconst (-1), 36, 0, 0, .int (-1), []), (36, .ireturn, 37, 0, 0, .null, [])])]
theorem kX7_labelWith_ok : m_okC 7 cX7_labelWith kX7_labelWith = true := by decide +kernel
def kX7_armFor : mL := [(20, [(0, .aload_n 0, 1, 0, 0, .null, []), (1, .lload_n 1, 2, 1, 0, .null, []), (2, .invokevirtual 64, 5, 82, 114, .null, []), (5, .istore_n 3, 6, 3, 0, .null, []), (6, .iload_n 3, 7, 3, 0, .null, []), (7, .ifCond .lt 12, 10, 19, 0, .null, []), (10, .aload_n 0, 11, 0, 0, .null, []), (11, .getfield 19, 14, 7, 10, .null, []), (14, .iload_n 3, 15, 3, 0, .null, []), (15, .iaload, 16, 0, 0, .null, []), (16, .goto 7, 19, 23, 0, .null, []), (19, .aload_n 0, 20, 0, 0, .null, [])]),
  (24, [(20, .getfield 9, 23, 7, 7, .null, []), (23, .ireturn, 24, 0, 0, .null, [])])]
theorem kX7_armFor_ok : m_okC 7 cX7_armFor kX7_armFor = true := by decide +kernel
def kX7_isExhaustive : mL := [(26, [(0, .aload_n 0, 1, 0, 0, .null, []), (1, .getfield 9, 4, 7, 7, .null, []), (4, .ifCond .ge 22, 7, 26, 0, .null, []), (7, .aload_n 0, 8, 0, 0, .null, []), (8, .getfield 55, 11, 7, 2, .null, []), (11, .iconst 2, 12, 0, 0, .int 2, []), (12, .if_icmp .ne 18, 15, 30, 0, .null, []), (15, .aload_n 0, 16, 0, 0, .null, []), (16, .getfield 42, 19, 7, 5, .null, []), (19, .aload_n 0, 20, 0, 0, .null, []), (20, .getfield 36, 23, 7, 3, .null, []), (23, .if_icmp .ne 7, 26, 30, 0, .null, [])]),
  (32, [(26, .iconst 1, 27, 0, 0, .int 1, []), (27, .goto 4, 30, 31, 0, .null, []), (30, .iconst 0, 31, 0, 0, .int 0, []), (31, .ireturn, 32, 0, 0, .null, [])])]
theorem kX7_isExhaustive_ok : m_okC 7 cX7_isExhaustive kX7_isExhaustive = true := by decide +kernel
end
section
def kX1_init : mL := [(23, [(0, .aload_n 0, 1, 0, 0, .null, []), (1, .invokespecial 3, 4, 999, 1, .null, []), (4, .aload_n 0, 5, 0, 0, .null, []), (5, .new 9, 8, 4, 0, .null, []), (8, .dup, 9, 0, 0, .null, []), (9, .invokespecial 11, 12, 49, 65, .null, []), (12, .putfield 12, 15, 1, 2, .null, []), (15, .aload_n 0, 16, 0, 0, .null, []), (16, .iconst 4, 17, 0, 0, .int 4, []), (17, .newarray .long, 19, 4, 0, .null, []), (19, .putfield 18, 22, 1, 3, .null, []), (22, .aload_n 0, 23, 0, 0, .null, [])]),
  (44, [(23, .iconst 4, 24, 0, 0, .int 4, []), (24, .newarray .int, 26, 4, 0, .null, []), (26, .putfield 22, 29, 1, 4, .null, []), (29, .aload_n 0, 30, 0, 0, .null, []), (30, .bipush 64, 32, 0, 0, .int 64, []), (32, .newarray .long, 34, 64, 0, .null, []), (34, .putfield 26, 37, 1, 5, .null, []), (37, .aload_n 0, 38, 0, 0, .null, []), (38, .iconst (-1), 39, 0, 0, .int (-1), []), (39, .putfield 29, 42, 1, 10, .null, []), (42, .aload_n 0, 43, 0, 0, .null, []), (43, .aload_n 1, 44, 1, 0, .null, [])]),
  (53, [(44, .putfield 33, 47, 1, 0, .null, []), (47, .aload_n 0, 48, 0, 0, .null, []), (48, .aload_n 2, 49, 2, 0, .null, []), (49, .putfield 37, 52, 1, 1, .null, []), (52, .return_, 53, 0, 0, .null, [])])]
theorem kX1_init_ok : m_okC 1 cX1_init kX1_init = true := by decide +kernel
def kX1_begin : mL := [(24, [(0, .aload_n 0, 1, 0, 0, .null, []), (1, .getfield 37, 4, 1, 1, .null, []), (4, .invokevirtual 41, 7, 76, 113, .null, []), (7, .aload_n 0, 8, 0, 0, .null, []), (8, .getfield 12, 11, 1, 2, .null, []), (11, .iconst 0, 12, 0, 0, .int 0, []), (12, .putfield 46, 15, 4, 1, .null, []), (15, .aload_n 0, 16, 0, 0, .null, []), (16, .getfield 12, 19, 1, 2, .null, []), (19, .iconst 0, 20, 0, 0, .int 0, []), (20, .putfield 49, 23, 4, 2, .null, []), (23, .aload_n 0, 24, 0, 0, .null, [])]),
  (44, [(24, .iconst 0, 25, 0, 0, .int 0, []), (25, .putfield 52, 28, 1, 6, .null, []), (28, .aload_n 0, 29, 0, 0, .null, []), (29, .iconst (-1), 30, 0, 0, .int (-1), []), (30, .putfield 55, 33, 1, 7, .null, []), (33, .aload_n 0, 34, 0, 0, .null, []), (34, .iconst 0, 35, 0, 0, .int 0, []), (35, .putfield 58, 38, 1, 8, .null, []), (38, .aload_n 0, 39, 0, 0, .null, []), (39, .iconst 0, 40, 0, 0, .int 0, []), (40, .putfield 61, 43, 1, 9, .null, []), (43, .aload_n 0, 44, 0, 0, .null, [])]),
  (49, [(44, .iconst (-1), 45, 0, 0, .int (-1), []), (45, .putfield 29, 48, 1, 10, .null, []), (48, .return_, 49, 0, 0, .null, [])])]
theorem kX1_begin_ok : m_okC 1 cX1_begin kX1_begin = true := by decide +kernel
def kX1_kind : mL := [(28, [(0, .aload_n 0, 1, 0, 0, .null, []), (1, .getfield 61, 4, 1, 9, .null, []), (4, .ifCond .ne 49, 7, 53, 0, .null, []), (7, .aload_n 0, 8, 0, 0, .null, []), (8, .getfield 58, 11, 1, 8, .null, []), (11, .ifCond .lt 42, 14, 53, 0, .null, []), (14, .aload_n 0, 15, 0, 0, .null, []), (15, .getfield 58, 18, 1, 8, .null, []), (18, .aload_n 0, 19, 0, 0, .null, []), (19, .getfield 33, 22, 1, 0, .null, []), (22, .getfield 64, 25, 6, 4, .null, []), (25, .if_icmp .ge 28, 28, 53, 0, .null, [])]),
  (54, [(28, .aload_n 0, 29, 0, 0, .null, []), (29, .getfield 58, 32, 1, 8, .null, []), (32, .sipush 3001, 35, 0, 0, .int 3001, []), (35, .if_icmp .ge 18, 38, 53, 0, .null, []), (38, .aload_n 0, 39, 0, 0, .null, []), (39, .getfield 33, 42, 1, 0, .null, []), (42, .getfield 67, 45, 6, 0, .null, []), (45, .aload_n 0, 46, 0, 0, .null, []), (46, .getfield 58, 49, 1, 8, .null, []), (49, .baload, 50, 0, 0, .null, []), (50, .goto 4, 53, 54, 0, .null, []), (53, .iconst 0, 54, 0, 0, .int 0, [])]),
  (55, [(54, .ireturn, 55, 0, 0, .null, [])])]
theorem kX1_kind_ok : m_okC 1 cX1_kind kX1_kind = true := by decide +kernel
def kX1_tokenValue : mL := [(28, [(0, .aload_n 0, 1, 0, 0, .null, []), (1, .getfield 58, 4, 1, 8, .null, []), (4, .ifCond .lt 28, 7, 32, 0, .null, []), (7, .aload_n 0, 8, 0, 0, .null, []), (8, .getfield 58, 11, 1, 8, .null, []), (11, .sipush 3001, 14, 0, 0, .int 3001, []), (14, .if_icmp .ge 18, 17, 32, 0, .null, []), (17, .aload_n 0, 18, 0, 0, .null, []), (18, .getfield 33, 21, 1, 0, .null, []), (21, .getfield 71, 24, 6, 2, .null, []), (24, .aload_n 0, 25, 0, 0, .null, []), (25, .getfield 58, 28, 1, 8, .null, [])]),
  (34, [(28, .laload, 29, 0, 0, .null, []), (29, .goto 4, 32, 33, 0, .null, []), (32, .lconst 0, 33, 0, 0, .long 0, []), (33, .lreturn, 34, 0, 0, .null, [])])]
theorem kX1_tokenValue_ok : m_okC 1 cX1_tokenValue kX1_tokenValue = true := by decide +kernel
def kX1_fail : mL := [(22, [(0, .aload_n 0, 1, 0, 0, .null, []), (1, .getfield 61, 4, 1, 9, .null, []), (4, .ifCond .ne 14, 7, 18, 0, .null, []), (7, .iload_n 2, 8, 2, 0, .null, []), (8, .ifCond .lt 10, 11, 18, 0, .null, []), (11, .iload_n 2, 12, 2, 0, .null, []), (12, .sipush 3001, 15, 0, 0, .int 3001, []), (15, .if_icmp .lt 4, 18, 19, 0, .null, []), (18, .return_, 19, 0, 0, .null, []), (19, .aload_n 0, 20, 0, 0, .null, []), (20, .iload_n 1, 21, 1, 0, .null, []), (21, .iconst 2, 22, 0, 0, .int 2, [])]),
  (47, [(22, .if_icmp .ne 21, 25, 43, 0, .null, []), (25, .aload_n 0, 26, 0, 0, .null, []), (26, .getfield 33, 29, 1, 0, .null, []), (29, .getfield 67, 32, 6, 0, .null, []), (32, .iload_n 2, 33, 2, 0, .null, []), (33, .baload, 34, 0, 0, .null, []), (34, .bipush 28, 36, 0, 0, .int 28, []), (36, .if_icmp .ne 7, 39, 43, 0, .null, []), (39, .iconst 1, 40, 0, 0, .int 1, []), (40, .goto 4, 43, 44, 0, .null, []), (43, .iload_n 1, 44, 1, 0, .null, []), (44, .putfield 61, 47, 1, 9, .null, [])]),
  (61, [(47, .aload_n 0, 48, 0, 0, .null, []), (48, .aload_n 0, 49, 0, 0, .null, []), (49, .getfield 33, 52, 1, 0, .null, []), (52, .getfield 74, 55, 6, 1, .null, []), (55, .iload_n 2, 56, 2, 0, .null, []), (56, .saload, 57, 0, 0, .null, []), (57, .putfield 29, 60, 1, 10, .null, []), (60, .return_, 61, 0, 0, .null, [])])]
theorem kX1_fail_ok : m_okC 1 cX1_fail kX1_fail = true := by decide +kernel
def kX1_expect : mL := [(22, [(0, .aload_n 0, 1, 0, 0, .null, []), (1, .invokevirtual 78, 4, 5, 17, .null, []), (4, .iload_n 1, 5, 1, 0, .null, []), (5, .if_icmp .ne 16, 8, 21, 0, .null, []), (8, .aload_n 0, 9, 0, 0, .null, []), (9, .dup, 10, 0, 0, .null, []), (10, .getfield 58, 13, 1, 8, .null, []), (13, .iconst 1, 14, 0, 0, .int 1, []), (14, .iadd, 15, 0, 0, .null, []), (15, .putfield 58, 18, 1, 8, .null, []), (18, .goto 12, 21, 30, 0, .null, []), (21, .aload_n 0, 22, 0, 0, .null, [])]),
  (31, [(22, .iconst 2, 23, 0, 0, .int 2, []), (23, .aload_n 0, 24, 0, 0, .null, []), (24, .getfield 58, 27, 1, 8, .null, []), (27, .invokevirtual 82, 30, 7, 19, .null, []), (30, .return_, 31, 0, 0, .null, [])])]
theorem kX1_expect_ok : m_okC 1 cX1_expect kX1_expect = true := by decide +kernel
def kX1_enumerations : mL := [(20, [(0, .iconst 0, 1, 0, 0, .int 0, []), (1, .istore_n 1, 2, 1, 0, .null, []), (2, .iload_n 1, 3, 1, 0, .null, []), (3, .iconst 4, 4, 0, 0, .int 4, []), (4, .if_icmp .gt 31, 7, 35, 0, .null, []), (7, .aload_n 0, 8, 0, 0, .null, []), (8, .invokevirtual 78, 11, 5, 17, .null, []), (11, .iconst 1, 12, 0, 0, .int 1, []), (12, .if_icmp .ne 23, 15, 35, 0, .null, []), (15, .aload_n 0, 16, 0, 0, .null, []), (16, .dup, 17, 0, 0, .null, []), (17, .getfield 58, 20, 1, 8, .null, [])]),
  (36, [(20, .iconst 1, 21, 0, 0, .int 1, []), (21, .iadd, 22, 0, 0, .null, []), (22, .putfield 58, 25, 1, 8, .null, []), (25, .aload_n 0, 26, 0, 0, .null, []), (26, .invokevirtual 86, 29, 10, 17, .null, []), (29, .iinc 1 1, 32, 1, 0, .int 1, []), (32, .goto (-30), 35, 2, 0, .null, []), (35, .return_, 36, 0, 0, .null, [])])]
theorem kX1_enumerations_ok : m_okC 1 cX1_enumerations kX1_enumerations = true := by decide +kernel
def kX1_enumeration : mL := [(23, [(0, .aload_n 0, 1, 0, 0, .null, []), (1, .invokevirtual 78, 4, 5, 17, .null, []), (4, .bipush 16, 6, 0, 0, .int 16, []), (6, .if_icmp .eq 15, 9, 21, 0, .null, []), (9, .aload_n 0, 10, 0, 0, .null, []), (10, .iconst 2, 11, 0, 0, .int 2, []), (11, .aload_n 0, 12, 0, 0, .null, []), (12, .getfield 58, 15, 1, 8, .null, []), (15, .invokevirtual 82, 18, 7, 19, .null, []), (18, .goto 112, 21, 130, 0, .null, []), (21, .aload_n 0, 22, 0, 0, .null, []), (22, .aload_n 0, 23, 0, 0, .null, [])]),
  (49, [(23, .invokevirtual 89, 26, 6, 17, .null, []), (26, .invokevirtual 93, 29, 13, 18, .null, []), (29, .ifCond .lt 15, 32, 44, 0, .null, []), (32, .aload_n 0, 33, 0, 0, .null, []), (33, .iconst 3, 34, 0, 0, .int 3, []), (34, .aload_n 0, 35, 0, 0, .null, []), (35, .getfield 58, 38, 1, 8, .null, []), (38, .invokevirtual 82, 41, 7, 19, .null, []), (41, .goto 89, 44, 130, 0, .null, []), (44, .aload_n 0, 45, 0, 0, .null, []), (45, .getfield 52, 48, 1, 6, .null, []), (48, .iconst 4, 49, 0, 0, .int 4, [])]),
  (74, [(49, .if_icmp .lt 16, 52, 65, 0, .null, []), (52, .aload_n 0, 53, 0, 0, .null, []), (53, .bipush 12, 55, 0, 0, .int 12, []), (55, .aload_n 0, 56, 0, 0, .null, []), (56, .getfield 58, 59, 1, 8, .null, []), (59, .invokevirtual 82, 62, 7, 19, .null, []), (62, .goto 68, 65, 130, 0, .null, []), (65, .aload_n 0, 66, 0, 0, .null, []), (66, .getfield 18, 69, 1, 3, .null, []), (69, .aload_n 0, 70, 0, 0, .null, []), (70, .getfield 52, 73, 1, 6, .null, []), (73, .aload_n 0, 74, 0, 0, .null, [])]),
  (94, [(74, .invokevirtual 89, 77, 6, 17, .null, []), (77, .lastore, 78, 0, 0, .null, []), (78, .aload_n 0, 79, 0, 0, .null, []), (79, .getfield 22, 82, 1, 4, .null, []), (82, .aload_n 0, 83, 0, 0, .null, []), (83, .getfield 52, 86, 1, 6, .null, []), (86, .iconst 0, 87, 0, 0, .int 0, []), (87, .iastore, 88, 0, 0, .null, []), (88, .aload_n 0, 89, 0, 0, .null, []), (89, .dup, 90, 0, 0, .null, []), (90, .getfield 52, 93, 1, 6, .null, []), (93, .iconst 1, 94, 0, 0, .int 1, [])]),
  (115, [(94, .iadd, 95, 0, 0, .null, []), (95, .putfield 52, 98, 1, 6, .null, []), (98, .aload_n 0, 99, 0, 0, .null, []), (99, .dup, 100, 0, 0, .null, []), (100, .getfield 58, 103, 1, 8, .null, []), (103, .iconst 1, 104, 0, 0, .int 1, []), (104, .iadd, 105, 0, 0, .null, []), (105, .putfield 58, 108, 1, 8, .null, []), (108, .aload_n 0, 109, 0, 0, .null, []), (109, .bipush 19, 111, 0, 0, .int 19, []), (111, .invokevirtual 97, 114, 8, 18, .null, []), (114, .aload_n 0, 115, 0, 0, .null, [])]),
  (131, [(115, .aload_n 0, 116, 0, 0, .null, []), (116, .getfield 52, 119, 1, 6, .null, []), (119, .iconst 1, 120, 0, 0, .int 1, []), (120, .isub, 121, 0, 0, .null, []), (121, .invokevirtual 101, 124, 11, 18, .null, []), (124, .aload_n 0, 125, 0, 0, .null, []), (125, .bipush 20, 127, 0, 0, .int 20, []), (127, .invokevirtual 97, 130, 8, 18, .null, []), (130, .return_, 131, 0, 0, .null, [])])]
theorem kX1_enumeration_ok : m_okC 1 cX1_enumeration kX1_enumeration = true := by decide +kernel
def kX1_constants : mL := [(22, [(0, .aload_n 0, 1, 0, 0, .null, []), (1, .iload_n 1, 2, 1, 0, .null, []), (2, .invokevirtual 104, 5, 12, 18, .null, []), (5, .iconst 0, 6, 0, 0, .int 0, []), (6, .istore_n 2, 7, 2, 0, .null, []), (7, .iload_n 2, 8, 2, 0, .null, []), (8, .bipush 16, 10, 0, 0, .int 16, []), (10, .if_icmp .ge 33, 13, 43, 0, .null, []), (13, .aload_n 0, 14, 0, 0, .null, []), (14, .invokevirtual 78, 17, 5, 17, .null, []), (17, .bipush 23, 19, 0, 0, .int 23, []), (19, .if_icmp .ne 24, 22, 43, 0, .null, [])]),
  (44, [(22, .aload_n 0, 23, 0, 0, .null, []), (23, .dup, 24, 0, 0, .null, []), (24, .getfield 58, 27, 1, 8, .null, []), (27, .iconst 1, 28, 0, 0, .int 1, []), (28, .iadd, 29, 0, 0, .null, []), (29, .putfield 58, 32, 1, 8, .null, []), (32, .aload_n 0, 33, 0, 0, .null, []), (33, .iload_n 1, 34, 1, 0, .null, []), (34, .invokevirtual 104, 37, 12, 18, .null, []), (37, .iinc 2 1, 40, 2, 0, .int 1, []), (40, .goto (-33), 43, 7, 0, .null, []), (43, .return_, 44, 0, 0, .null, [])])]
theorem kX1_constants_ok : m_okC 1 cX1_constants kX1_constants = true := by decide +kernel
def kX1_constant : mL := [(21, [(0, .aload_n 0, 1, 0, 0, .null, []), (1, .iload_n 1, 2, 1, 0, .null, []), (2, .invokevirtual 107, 5, 14, 18, .null, []), (5, .istore_n 2, 6, 2, 0, .null, []), (6, .aload_n 0, 7, 0, 0, .null, []), (7, .invokevirtual 78, 10, 5, 17, .null, []), (10, .bipush 16, 12, 0, 0, .int 16, []), (12, .if_icmp .eq 15, 15, 27, 0, .null, []), (15, .aload_n 0, 16, 0, 0, .null, []), (16, .iconst 2, 17, 0, 0, .int 2, []), (17, .aload_n 0, 18, 0, 0, .null, []), (18, .getfield 58, 21, 1, 8, .null, [])]),
  (45, [(21, .invokevirtual 82, 24, 7, 19, .null, []), (24, .goto 89, 27, 113, 0, .null, []), (27, .aload_n 0, 28, 0, 0, .null, []), (28, .iload_n 1, 29, 1, 0, .null, []), (29, .aload_n 0, 30, 0, 0, .null, []), (30, .invokevirtual 89, 33, 6, 17, .null, []), (33, .invokevirtual 111, 36, 15, 19, .null, []), (36, .ifCond .lt 15, 39, 51, 0, .null, []), (39, .aload_n 0, 40, 0, 0, .null, []), (40, .iconst 3, 41, 0, 0, .int 3, []), (41, .aload_n 0, 42, 0, 0, .null, []), (42, .getfield 58, 45, 1, 8, .null, [])]),
  (69, [(45, .invokevirtual 82, 48, 7, 19, .null, []), (48, .goto 65, 51, 113, 0, .null, []), (51, .iload_n 1, 52, 1, 0, .null, []), (52, .ifCond .lt 14, 55, 66, 0, .null, []), (55, .iload_n 1, 56, 1, 0, .null, []), (56, .iconst 4, 57, 0, 0, .int 4, []), (57, .if_icmp .ge 9, 60, 66, 0, .null, []), (60, .iload_n 2, 61, 2, 0, .null, []), (61, .bipush 16, 63, 0, 0, .int 16, []), (63, .if_icmp .lt 16, 66, 79, 0, .null, []), (66, .aload_n 0, 67, 0, 0, .null, []), (67, .bipush 12, 69, 0, 0, .int 12, [])]),
  (90, [(69, .aload_n 0, 70, 0, 0, .null, []), (70, .getfield 58, 73, 1, 8, .null, []), (73, .invokevirtual 82, 76, 7, 19, .null, []), (76, .goto 37, 79, 113, 0, .null, []), (79, .aload_n 0, 80, 0, 0, .null, []), (80, .getfield 26, 83, 1, 5, .null, []), (83, .iload_n 1, 84, 1, 0, .null, []), (84, .bipush 16, 86, 0, 0, .int 16, []), (86, .imul, 87, 0, 0, .null, []), (87, .iload_n 2, 88, 2, 0, .null, []), (88, .iadd, 89, 0, 0, .null, []), (89, .aload_n 0, 90, 0, 0, .null, [])]),
  (108, [(90, .invokevirtual 89, 93, 6, 17, .null, []), (93, .lastore, 94, 0, 0, .null, []), (94, .aload_n 0, 95, 0, 0, .null, []), (95, .getfield 22, 98, 1, 4, .null, []), (98, .iload_n 1, 99, 1, 0, .null, []), (99, .iload_n 2, 100, 2, 0, .null, []), (100, .iconst 1, 101, 0, 0, .int 1, []), (101, .iadd, 102, 0, 0, .null, []), (102, .iastore, 103, 0, 0, .null, []), (103, .aload_n 0, 104, 0, 0, .null, []), (104, .dup, 105, 0, 0, .null, []), (105, .getfield 58, 108, 1, 8, .null, [])]),
  (114, [(108, .iconst 1, 109, 0, 0, .int 1, []), (109, .iadd, 110, 0, 0, .null, []), (110, .putfield 58, 113, 1, 8, .null, []), (113, .return_, 114, 0, 0, .null, [])])]
theorem kX1_constant_ok : m_okC 1 cX1_constant kX1_constant = true := by decide +kernel
def kX1_findEnumeration : mL := [(20, [(0, .iconst 0, 1, 0, 0, .int 0, []), (1, .istore_n 3, 2, 3, 0, .null, []), (2, .iload_n 3, 3, 3, 0, .null, []), (3, .aload_n 0, 4, 0, 0, .null, []), (4, .getfield 52, 7, 1, 6, .null, []), (7, .if_icmp .ge 27, 10, 34, 0, .null, []), (10, .iload_n 3, 11, 3, 0, .null, []), (11, .iconst 4, 12, 0, 0, .int 4, []), (12, .if_icmp .ge 22, 15, 34, 0, .null, []), (15, .aload_n 0, 16, 0, 0, .null, []), (16, .getfield 18, 19, 1, 3, .null, []), (19, .iload_n 3, 20, 3, 0, .null, [])]),
  (36, [(20, .laload, 21, 0, 0, .null, []), (21, .lload_n 1, 22, 1, 0, .null, []), (22, .lcmp, 23, 0, 0, .null, []), (23, .ifCond .ne 5, 26, 28, 0, .null, []), (26, .iload_n 3, 27, 3, 0, .null, []), (27, .ireturn, 28, 0, 0, .null, []), (28, .iinc 3 1, 31, 3, 0, .int 1, []), (31, .goto (-29), 34, 2, 0, .null, []), (34, .iconst (-1), 35, 0, 0, .int (-1), []), (35, .ireturn, 36, 0, 0, .null, [])])]
theorem kX1_findEnumeration_ok : m_okC 1 cX1_findEnumeration kX1_findEnumeration = true := by decide +kernel
def kX1_constantCount : mL := [(20, [(0, .iload_n 1, 1, 1, 0, .null, []), (1, .ifCond .lt 17, 4, 18, 0, .null, []), (4, .iload_n 1, 5, 1, 0, .null, []), (5, .iconst 4, 6, 0, 0, .int 4, []), (6, .if_icmp .ge 12, 9, 18, 0, .null, []), (9, .aload_n 0, 10, 0, 0, .null, []), (10, .getfield 22, 13, 1, 4, .null, []), (13, .iload_n 1, 14, 1, 0, .null, []), (14, .iaload, 15, 0, 0, .null, []), (15, .goto 4, 18, 19, 0, .null, []), (18, .iconst 0, 19, 0, 0, .int 0, []), (19, .ireturn, 20, 0, 0, .null, [])])]
theorem kX1_constantCount_ok : m_okC 1 cX1_constantCount kX1_constantCount = true := by decide +kernel
def kX1_findConstant : mL := [(24, [(0, .aload_n 0, 1, 0, 0, .null, []), (1, .iload_n 1, 2, 1, 0, .null, []), (2, .invokevirtual 107, 5, 14, 18, .null, []), (5, .istore 4, 7, 4, 0, .null, []), (7, .iconst 0, 8, 0, 0, .int 0, []), (8, .istore 5, 10, 5, 0, .null, []), (10, .iload 5, 12, 5, 0, .null, []), (12, .iload 4, 14, 4, 0, .null, []), (14, .if_icmp .ge 36, 17, 50, 0, .null, []), (17, .iload 5, 19, 5, 0, .null, []), (19, .bipush 16, 21, 0, 0, .int 16, []), (21, .if_icmp .ge 29, 24, 50, 0, .null, [])]),
  (43, [(24, .aload_n 0, 25, 0, 0, .null, []), (25, .getfield 26, 28, 1, 5, .null, []), (28, .iload_n 1, 29, 1, 0, .null, []), (29, .bipush 16, 31, 0, 0, .int 16, []), (31, .imul, 32, 0, 0, .null, []), (32, .iload 5, 34, 5, 0, .null, []), (34, .iadd, 35, 0, 0, .null, []), (35, .laload, 36, 0, 0, .null, []), (36, .lload_n 2, 37, 2, 0, .null, []), (37, .lcmp, 38, 0, 0, .null, []), (38, .ifCond .ne 6, 41, 44, 0, .null, []), (41, .iload 5, 43, 5, 0, .null, [])]),
  (52, [(43, .ireturn, 44, 0, 0, .null, []), (44, .iinc 5 1, 47, 5, 0, .int 1, []), (47, .goto (-37), 50, 10, 0, .null, []), (50, .iconst (-1), 51, 0, 0, .int (-1), []), (51, .ireturn, 52, 0, 0, .null, [])])]
theorem kX1_findConstant_ok : m_okC 1 cX1_findConstant kX1_findConstant = true := by decide +kernel
def kX1_selector : mL := [(22, [(0, .aload_n 0, 1, 0, 0, .null, []), (1, .invokevirtual 78, 4, 5, 17, .null, []), (4, .iconst 2, 5, 0, 0, .int 2, []), (5, .if_icmp .eq 21, 8, 26, 0, .null, []), (8, .aload_n 0, 9, 0, 0, .null, []), (9, .invokevirtual 78, 12, 5, 17, .null, []), (12, .iconst 3, 13, 0, 0, .int 3, []), (13, .if_icmp .eq 13, 16, 26, 0, .null, []), (16, .aload_n 0, 17, 0, 0, .null, []), (17, .iconst 2, 18, 0, 0, .int 2, []), (18, .aload_n 0, 19, 0, 0, .null, []), (19, .getfield 58, 22, 1, 8, .null, [])]),
  (46, [(22, .invokevirtual 82, 25, 7, 19, .null, []), (25, .return_, 26, 0, 0, .null, []), (26, .aload_n 0, 27, 0, 0, .null, []), (27, .getfield 37, 30, 1, 1, .null, []), (30, .aload_n 0, 31, 0, 0, .null, []), (31, .invokevirtual 78, 34, 5, 17, .null, []), (34, .iconst 3, 35, 0, 0, .int 3, []), (35, .if_icmp .ne 7, 38, 42, 0, .null, []), (38, .iconst 1, 39, 0, 0, .int 1, []), (39, .goto 4, 42, 43, 0, .null, []), (42, .iconst 0, 43, 0, 0, .int 0, []), (43, .putfield 115, 46, 7, 1, .null, [])]),
  (68, [(46, .aload_n 0, 47, 0, 0, .null, []), (47, .dup, 48, 0, 0, .null, []), (48, .getfield 58, 51, 1, 8, .null, []), (51, .iconst 1, 52, 0, 0, .int 1, []), (52, .iadd, 53, 0, 0, .null, []), (53, .putfield 58, 56, 1, 8, .null, []), (56, .aload_n 0, 57, 0, 0, .null, []), (57, .invokevirtual 78, 60, 5, 17, .null, []), (60, .iconst 4, 61, 0, 0, .int 4, []), (61, .if_icmp .ne 14, 64, 75, 0, .null, []), (64, .aload_n 0, 65, 0, 0, .null, []), (65, .getfield 37, 68, 1, 1, .null, [])]),
  (94, [(68, .iconst 0, 69, 0, 0, .int 0, []), (69, .putfield 119, 72, 7, 2, .null, []), (72, .goto 47, 75, 119, 0, .null, []), (75, .aload_n 0, 76, 0, 0, .null, []), (76, .invokevirtual 78, 79, 5, 17, .null, []), (79, .iconst 5, 80, 0, 0, .int 5, []), (80, .if_icmp .ne 14, 83, 94, 0, .null, []), (83, .aload_n 0, 84, 0, 0, .null, []), (84, .getfield 37, 87, 1, 1, .null, []), (87, .iconst 1, 88, 0, 0, .int 1, []), (88, .putfield 119, 91, 7, 2, .null, []), (91, .goto 28, 94, 119, 0, .null, [])]),
  (119, [(94, .aload_n 0, 95, 0, 0, .null, []), (95, .invokevirtual 78, 98, 5, 17, .null, []), (98, .bipush 16, 100, 0, 0, .int 16, []), (100, .if_icmp .ne 10, 103, 110, 0, .null, []), (103, .aload_n 0, 104, 0, 0, .null, []), (104, .invokevirtual 122, 107, 17, 17, .null, []), (107, .goto 12, 110, 119, 0, .null, []), (110, .aload_n 0, 111, 0, 0, .null, []), (111, .iconst 2, 112, 0, 0, .int 2, []), (112, .aload_n 0, 113, 0, 0, .null, []), (113, .getfield 58, 116, 1, 8, .null, []), (116, .invokevirtual 82, 119, 7, 19, .null, [])]),
  (136, [(119, .aload_n 0, 120, 0, 0, .null, []), (120, .dup, 121, 0, 0, .null, []), (121, .getfield 58, 124, 1, 8, .null, []), (124, .iconst 1, 125, 0, 0, .int 1, []), (125, .iadd, 126, 0, 0, .null, []), (126, .putfield 58, 129, 1, 8, .null, []), (129, .aload_n 0, 130, 0, 0, .null, []), (130, .bipush 19, 132, 0, 0, .int 19, []), (132, .invokevirtual 97, 135, 8, 18, .null, []), (135, .return_, 136, 0, 0, .null, [])])]
theorem kX1_selector_ok : m_okC 1 cX1_selector kX1_selector = true := by decide +kernel
def kX1_chooseEnumeration : mL := [(22, [(0, .aload_n 0, 1, 0, 0, .null, []), (1, .aload_n 0, 2, 0, 0, .null, []), (2, .aload_n 0, 3, 0, 0, .null, []), (3, .invokevirtual 89, 6, 6, 17, .null, []), (6, .invokevirtual 93, 9, 13, 18, .null, []), (9, .putfield 55, 12, 1, 7, .null, []), (12, .aload_n 0, 13, 0, 0, .null, []), (13, .getfield 55, 16, 1, 7, .null, []), (16, .ifCond .ge 12, 19, 28, 0, .null, []), (19, .aload_n 0, 20, 0, 0, .null, []), (20, .iconst 5, 21, 0, 0, .int 5, []), (21, .aload_n 0, 22, 0, 0, .null, [])]),
  (48, [(22, .getfield 58, 25, 1, 8, .null, []), (25, .invokevirtual 82, 28, 7, 19, .null, []), (28, .aload_n 0, 29, 0, 0, .null, []), (29, .getfield 37, 32, 1, 1, .null, []), (32, .iconst 2, 33, 0, 0, .int 2, []), (33, .putfield 119, 36, 7, 2, .null, []), (36, .aload_n 0, 37, 0, 0, .null, []), (37, .getfield 37, 40, 1, 1, .null, []), (40, .aload_n 0, 41, 0, 0, .null, []), (41, .aload_n 0, 42, 0, 0, .null, []), (42, .getfield 55, 45, 1, 7, .null, []), (45, .invokevirtual 107, 48, 14, 18, .null, [])]),
  (52, [(48, .putfield 125, 51, 7, 3, .null, []), (51, .return_, 52, 0, 0, .null, [])])]
theorem kX1_chooseEnumeration_ok : m_okC 1 cX1_chooseEnumeration kX1_chooseEnumeration = true := by decide +kernel
def kX1_arms : mL := [(23, [(0, .iconst 0, 1, 0, 0, .int 0, []), (1, .istore_n 1, 2, 1, 0, .null, []), (2, .iload_n 1, 3, 1, 0, .null, []), (3, .bipush 20, 5, 0, 0, .int 20, []), (5, .if_icmp .gt 32, 8, 37, 0, .null, []), (8, .aload_n 0, 9, 0, 0, .null, []), (9, .invokevirtual 78, 12, 5, 17, .null, []), (12, .bipush 6, 14, 0, 0, .int 6, []), (14, .if_icmp .eq 12, 17, 26, 0, .null, []), (17, .aload_n 0, 18, 0, 0, .null, []), (18, .invokevirtual 78, 21, 5, 17, .null, []), (21, .bipush 7, 23, 0, 0, .int 7, [])]),
  (38, [(23, .if_icmp .ne 14, 26, 37, 0, .null, []), (26, .aload_n 0, 27, 0, 0, .null, []), (27, .iload_n 1, 28, 1, 0, .null, []), (28, .invokevirtual 127, 31, 19, 18, .null, []), (31, .iinc 1 1, 34, 1, 0, .int 1, []), (34, .goto (-32), 37, 2, 0, .null, []), (37, .return_, 38, 0, 0, .null, [])])]
theorem kX1_arms_ok : m_okC 1 cX1_arms kX1_arms = true := by decide +kernel
def kX1_arm : mL := [(23, [(0, .aload_n 0, 1, 0, 0, .null, []), (1, .invokevirtual 78, 4, 5, 17, .null, []), (4, .bipush 7, 6, 0, 0, .int 7, []), (6, .if_icmp .ne 7, 9, 13, 0, .null, []), (9, .iconst 1, 10, 0, 0, .int 1, []), (10, .goto 4, 13, 14, 0, .null, []), (13, .iconst 0, 14, 0, 0, .int 0, []), (14, .istore_n 2, 15, 2, 0, .null, []), (15, .iload_n 2, 16, 2, 0, .null, []), (16, .ifCond .eq 25, 19, 41, 0, .null, []), (19, .aload_n 0, 20, 0, 0, .null, []), (20, .getfield 37, 23, 1, 1, .null, [])]),
  (48, [(23, .getfield 130, 26, 7, 7, .null, []), (26, .ifCond .lt 15, 29, 41, 0, .null, []), (29, .aload_n 0, 30, 0, 0, .null, []), (30, .iconst 3, 31, 0, 0, .int 3, []), (31, .aload_n 0, 32, 0, 0, .null, []), (32, .getfield 58, 35, 1, 8, .null, []), (35, .invokevirtual 82, 38, 7, 19, .null, []), (38, .goto 19, 41, 57, 0, .null, []), (41, .iload_n 1, 42, 1, 0, .null, []), (42, .bipush 20, 44, 0, 0, .int 20, []), (44, .if_icmp .lt 13, 47, 57, 0, .null, []), (47, .aload_n 0, 48, 0, 0, .null, [])]),
  (73, [(48, .bipush 12, 50, 0, 0, .int 12, []), (50, .aload_n 0, 51, 0, 0, .null, []), (51, .getfield 58, 54, 1, 8, .null, []), (54, .invokevirtual 82, 57, 7, 19, .null, []), (57, .aload_n 0, 58, 0, 0, .null, []), (58, .getfield 61, 61, 1, 9, .null, []), (61, .ifCond .eq 4, 64, 65, 0, .null, []), (64, .return_, 65, 0, 0, .null, []), (65, .aload_n 0, 66, 0, 0, .null, []), (66, .getfield 37, 69, 1, 1, .null, []), (69, .invokevirtual 133, 72, 77, 113, .null, []), (72, .aload_n 0, 73, 0, 0, .null, [])]),
  (97, [(73, .dup, 74, 0, 0, .null, []), (74, .getfield 58, 77, 1, 8, .null, []), (77, .iconst 1, 78, 0, 0, .int 1, []), (78, .iadd, 79, 0, 0, .null, []), (79, .putfield 58, 82, 1, 8, .null, []), (82, .iload_n 2, 83, 2, 0, .null, []), (83, .ifCond .eq 14, 86, 97, 0, .null, []), (86, .aload_n 0, 87, 0, 0, .null, []), (87, .getfield 37, 90, 1, 1, .null, []), (90, .iload_n 1, 91, 1, 0, .null, []), (91, .putfield 130, 94, 7, 7, .null, []), (94, .goto 7, 97, 101, 0, .null, [])]),
  (121, [(97, .aload_n 0, 98, 0, 0, .null, []), (98, .invokevirtual 136, 101, 20, 17, .null, []), (101, .aload_n 0, 102, 0, 0, .null, []), (102, .invokevirtual 78, 105, 5, 17, .null, []), (105, .bipush 21, 107, 0, 0, .int 21, []), (107, .if_icmp .eq 22, 110, 129, 0, .null, []), (110, .aload_n 0, 111, 0, 0, .null, []), (111, .invokevirtual 78, 114, 5, 17, .null, []), (114, .bipush 26, 116, 0, 0, .int 26, []), (116, .if_icmp .eq 13, 119, 129, 0, .null, []), (119, .aload_n 0, 120, 0, 0, .null, []), (120, .iconst 2, 121, 0, 0, .int 2, [])]),
  (144, [(121, .aload_n 0, 122, 0, 0, .null, []), (122, .getfield 58, 125, 1, 8, .null, []), (125, .invokevirtual 82, 128, 7, 19, .null, []), (128, .return_, 129, 0, 0, .null, []), (129, .aload_n 0, 130, 0, 0, .null, []), (130, .invokevirtual 78, 133, 5, 17, .null, []), (133, .bipush 21, 135, 0, 0, .int 21, []), (135, .if_icmp .ne 7, 138, 142, 0, .null, []), (138, .iconst 1, 139, 0, 0, .int 1, []), (139, .goto 4, 142, 143, 0, .null, []), (142, .iconst 0, 143, 0, 0, .int 0, []), (143, .istore_n 3, 144, 3, 0, .null, [])]),
  (168, [(144, .iload_n 1, 145, 1, 0, .null, []), (145, .ifCond .le 23, 148, 168, 0, .null, []), (148, .iload_n 3, 149, 3, 0, .null, []), (149, .aload_n 0, 150, 0, 0, .null, []), (150, .getfield 37, 153, 1, 1, .null, []), (153, .getfield 139, 156, 7, 8, .null, []), (156, .if_icmp .eq 12, 159, 168, 0, .null, []), (159, .aload_n 0, 160, 0, 0, .null, []), (160, .iconst 4, 161, 0, 0, .int 4, []), (161, .aload_n 0, 162, 0, 0, .null, []), (162, .getfield 58, 165, 1, 8, .null, []), (165, .invokevirtual 82, 168, 7, 19, .null, [])]),
  (190, [(168, .aload_n 0, 169, 0, 0, .null, []), (169, .getfield 37, 172, 1, 1, .null, []), (172, .iload_n 3, 173, 3, 0, .null, []), (173, .putfield 139, 176, 7, 8, .null, []), (176, .aload_n 0, 177, 0, 0, .null, []), (177, .dup, 178, 0, 0, .null, []), (178, .getfield 58, 181, 1, 8, .null, []), (181, .iconst 1, 182, 0, 0, .int 1, []), (182, .iadd, 183, 0, 0, .null, []), (183, .putfield 58, 186, 1, 8, .null, []), (186, .aload_n 0, 187, 0, 0, .null, []), (187, .getfield 12, 190, 1, 2, .null, [])]),
  (211, [(190, .iconst 0, 191, 0, 0, .int 0, []), (191, .putfield 49, 194, 4, 2, .null, []), (194, .iload_n 3, 195, 3, 0, .null, []), (195, .ifCond .eq 11, 198, 206, 0, .null, []), (198, .aload_n 0, 199, 0, 0, .null, []), (199, .iconst 0, 200, 0, 0, .int 0, []), (200, .invokevirtual 142, 203, 23, 18, .null, []), (203, .goto 7, 206, 210, 0, .null, []), (206, .aload_n 0, 207, 0, 0, .null, []), (207, .invokevirtual 145, 210, 22, 17, .null, []), (210, .return_, 211, 0, 0, .null, [])])]
theorem kX1_arm_ok : m_okC 1 cX1_arm kX1_arm = true := by decide +kernel
def kX1_labels : mL := [(22, [(0, .aload_n 0, 1, 0, 0, .null, []), (1, .invokevirtual 148, 4, 21, 17, .null, []), (4, .iconst 0, 5, 0, 0, .int 0, []), (5, .istore_n 1, 6, 1, 0, .null, []), (6, .iload_n 1, 7, 1, 0, .null, []), (7, .bipush 32, 9, 0, 0, .int 32, []), (9, .if_icmp .ge 32, 12, 41, 0, .null, []), (12, .aload_n 0, 13, 0, 0, .null, []), (13, .invokevirtual 78, 16, 5, 17, .null, []), (16, .bipush 23, 18, 0, 0, .int 23, []), (18, .if_icmp .ne 23, 21, 41, 0, .null, []), (21, .aload_n 0, 22, 0, 0, .null, [])]),
  (42, [(22, .dup, 23, 0, 0, .null, []), (23, .getfield 58, 26, 1, 8, .null, []), (26, .iconst 1, 27, 0, 0, .int 1, []), (27, .iadd, 28, 0, 0, .null, []), (28, .putfield 58, 31, 1, 8, .null, []), (31, .aload_n 0, 32, 0, 0, .null, []), (32, .invokevirtual 148, 35, 21, 17, .null, []), (35, .iinc 1 1, 38, 1, 0, .int 1, []), (38, .goto (-32), 41, 6, 0, .null, []), (41, .return_, 42, 0, 0, .null, [])])]
theorem kX1_labels_ok : m_okC 1 cX1_labels kX1_labels = true := by decide +kernel
def kX1_oneLabel : mL := [(21, [(0, .aload_n 0, 1, 0, 0, .null, []), (1, .getfield 58, 4, 1, 8, .null, []), (4, .istore_n 1, 5, 1, 0, .null, []), (5, .aload_n 0, 6, 0, 0, .null, []), (6, .invokevirtual 78, 9, 5, 17, .null, []), (9, .bipush 25, 11, 0, 0, .int 25, []), (11, .if_icmp .ne 7, 14, 18, 0, .null, []), (14, .iconst 1, 15, 0, 0, .int 1, []), (15, .goto 4, 18, 19, 0, .null, []), (18, .iconst 0, 19, 0, 0, .int 0, []), (19, .istore_n 2, 20, 2, 0, .null, []), (20, .iload_n 2, 21, 2, 0, .null, [])]),
  (42, [(21, .ifCond .eq 13, 24, 34, 0, .null, []), (24, .aload_n 0, 25, 0, 0, .null, []), (25, .dup, 26, 0, 0, .null, []), (26, .getfield 58, 29, 1, 8, .null, []), (29, .iconst 1, 30, 0, 0, .int 1, []), (30, .iadd, 31, 0, 0, .null, []), (31, .putfield 58, 34, 1, 8, .null, []), (34, .aload_n 0, 35, 0, 0, .null, []), (35, .invokevirtual 78, 38, 5, 17, .null, []), (38, .istore_n 3, 39, 3, 0, .null, []), (39, .iload_n 3, 40, 3, 0, .null, []), (40, .bipush 17, 42, 0, 0, .int 17, [])]),
  (64, [(42, .if_icmp .eq 29, 45, 71, 0, .null, []), (45, .iload_n 2, 46, 2, 0, .null, []), (46, .ifCond .ne 15, 49, 61, 0, .null, []), (49, .iload_n 3, 50, 3, 0, .null, []), (50, .bipush 18, 52, 0, 0, .int 18, []), (52, .if_icmp .eq 19, 55, 71, 0, .null, []), (55, .iload_n 3, 56, 3, 0, .null, []), (56, .bipush 16, 58, 0, 0, .int 16, []), (58, .if_icmp .eq 13, 61, 71, 0, .null, []), (61, .aload_n 0, 62, 0, 0, .null, []), (62, .iconst 2, 63, 0, 0, .int 2, []), (63, .aload_n 0, 64, 0, 0, .null, [])]),
  (89, [(64, .getfield 58, 67, 1, 8, .null, []), (67, .invokevirtual 82, 70, 7, 19, .null, []), (70, .return_, 71, 0, 0, .null, []), (71, .iload_n 3, 72, 3, 0, .null, []), (72, .bipush 16, 74, 0, 0, .int 16, []), (74, .if_icmp .ne 19, 77, 93, 0, .null, []), (77, .aload_n 0, 78, 0, 0, .null, []), (78, .aload_n 0, 79, 0, 0, .null, []), (79, .getfield 55, 82, 1, 7, .null, []), (82, .aload_n 0, 83, 0, 0, .null, []), (83, .invokevirtual 89, 86, 6, 17, .null, []), (86, .invokevirtual 111, 89, 15, 19, .null, [])]),
  (111, [(89, .i2l, 90, 0, 0, .null, []), (90, .goto 7, 93, 97, 0, .null, []), (93, .aload_n 0, 94, 0, 0, .null, []), (94, .invokevirtual 89, 97, 6, 17, .null, []), (97, .lstore 4, 99, 4, 0, .null, []), (99, .iload_n 2, 100, 2, 0, .null, []), (100, .ifCond .eq 8, 103, 108, 0, .null, []), (103, .lload 4, 105, 4, 0, .null, []), (105, .lneg, 106, 0, 0, .null, []), (106, .lstore 4, 108, 4, 0, .null, []), (108, .iload_n 3, 109, 3, 0, .null, []), (109, .bipush 17, 111, 0, 0, .int 17, [])]),
  (138, [(111, .if_icmp .ne 13, 114, 124, 0, .null, []), (114, .aload_n 0, 115, 0, 0, .null, []), (115, .getfield 37, 118, 1, 1, .null, []), (118, .getfield 119, 121, 7, 2, .null, []), (121, .ifCond .eq 44, 124, 165, 0, .null, []), (124, .iload_n 3, 125, 3, 0, .null, []), (125, .bipush 18, 127, 0, 0, .int 18, []), (127, .if_icmp .ne 14, 130, 141, 0, .null, []), (130, .aload_n 0, 131, 0, 0, .null, []), (131, .getfield 37, 134, 1, 1, .null, []), (134, .getfield 119, 137, 7, 2, .null, []), (137, .iconst 1, 138, 0, 0, .int 1, [])]),
  (162, [(138, .if_icmp .eq 27, 141, 165, 0, .null, []), (141, .iload_n 3, 142, 3, 0, .null, []), (142, .bipush 16, 144, 0, 0, .int 16, []), (144, .if_icmp .ne 25, 147, 169, 0, .null, []), (147, .aload_n 0, 148, 0, 0, .null, []), (148, .getfield 37, 151, 1, 1, .null, []), (151, .getfield 119, 154, 7, 2, .null, []), (154, .iconst 2, 155, 0, 0, .int 2, []), (155, .if_icmp .ne 14, 158, 169, 0, .null, []), (158, .lload 4, 160, 4, 0, .null, []), (160, .lconst 0, 161, 0, 0, .long 0, []), (161, .lcmp, 162, 0, 0, .null, [])]),
  (189, [(162, .ifCond .lt 7, 165, 169, 0, .null, []), (165, .iconst 1, 166, 0, 0, .int 1, []), (166, .goto 4, 169, 170, 0, .null, []), (169, .iconst 0, 170, 0, 0, .int 0, []), (170, .istore 6, 172, 6, 0, .null, []), (172, .iload 6, 174, 6, 0, .null, []), (174, .ifCond .eq 24, 177, 198, 0, .null, []), (177, .aload_n 0, 178, 0, 0, .null, []), (178, .getfield 37, 181, 1, 1, .null, []), (181, .lload 4, 183, 4, 0, .null, []), (183, .invokevirtual 151, 186, 81, 114, .null, []), (186, .ifCond .eq 12, 189, 198, 0, .null, [])]),
  (212, [(189, .aload_n 0, 190, 0, 0, .null, []), (190, .iconst 3, 191, 0, 0, .int 3, []), (191, .iload_n 1, 192, 1, 0, .null, []), (192, .invokevirtual 82, 195, 7, 19, .null, []), (195, .goto 36, 198, 231, 0, .null, []), (198, .iload 6, 200, 6, 0, .null, []), (200, .ifCond .ne 12, 203, 212, 0, .null, []), (203, .aload_n 0, 204, 0, 0, .null, []), (204, .iconst 5, 205, 0, 0, .int 5, []), (205, .iload_n 1, 206, 1, 0, .null, []), (206, .invokevirtual 82, 209, 7, 19, .null, []), (209, .goto 22, 212, 231, 0, .null, [])]),
  (237, [(212, .aload_n 0, 213, 0, 0, .null, []), (213, .getfield 37, 216, 1, 1, .null, []), (216, .getfield 155, 219, 7, 5, .null, []), (219, .bipush 32, 221, 0, 0, .int 32, []), (221, .if_icmp .lt 10, 224, 231, 0, .null, []), (224, .aload_n 0, 225, 0, 0, .null, []), (225, .bipush 12, 227, 0, 0, .int 12, []), (227, .iload_n 1, 228, 1, 0, .null, []), (228, .invokevirtual 82, 231, 7, 19, .null, []), (231, .aload_n 0, 232, 0, 0, .null, []), (232, .getfield 37, 235, 1, 1, .null, []), (235, .lload 4, 237, 4, 0, .null, [])]),
  (251, [(237, .invokevirtual 157, 240, 79, 114, .null, []), (240, .aload_n 0, 241, 0, 0, .null, []), (241, .dup, 242, 0, 0, .null, []), (242, .getfield 58, 245, 1, 8, .null, []), (245, .iconst 1, 246, 0, 0, .int 1, []), (246, .iadd, 247, 0, 0, .null, []), (247, .putfield 58, 250, 1, 8, .null, []), (250, .return_, 251, 0, 0, .null, [])])]
theorem kX1_oneLabel_ok : m_okC 1 cX1_oneLabel kX1_oneLabel = true := by decide +kernel
def kX1_body : mL := [(24, [(0, .aload_n 0, 1, 0, 0, .null, []), (1, .invokevirtual 78, 4, 5, 17, .null, []), (4, .istore_n 1, 5, 1, 0, .null, []), (5, .aload_n 0, 6, 0, 0, .null, []), (6, .getfield 37, 9, 1, 1, .null, []), (9, .getfield 115, 12, 7, 1, .null, []), (12, .ifCond .eq 19, 15, 31, 0, .null, []), (15, .iload_n 1, 16, 1, 0, .null, []), (16, .bipush 25, 18, 0, 0, .int 25, []), (18, .if_icmp .eq 9, 21, 27, 0, .null, []), (21, .iload_n 1, 22, 1, 0, .null, []), (22, .bipush 17, 24, 0, 0, .int 17, [])]),
  (46, [(24, .if_icmp .ne 7, 27, 31, 0, .null, []), (27, .iconst 1, 28, 0, 0, .int 1, []), (28, .goto 4, 31, 32, 0, .null, []), (31, .iconst 0, 32, 0, 0, .int 0, []), (32, .istore_n 2, 33, 2, 0, .null, []), (33, .iload_n 1, 34, 1, 0, .null, []), (34, .bipush 8, 36, 0, 0, .int 8, []), (36, .if_icmp .eq 21, 39, 57, 0, .null, []), (39, .iload_n 1, 40, 1, 0, .null, []), (40, .bipush 10, 42, 0, 0, .int 10, []), (42, .if_icmp .eq 15, 45, 57, 0, .null, []), (45, .iload_n 1, 46, 1, 0, .null, [])]),
  (68, [(46, .bipush 16, 48, 0, 0, .int 16, []), (48, .if_icmp .eq 9, 51, 57, 0, .null, []), (51, .iload_n 1, 52, 1, 0, .null, []), (52, .bipush 11, 54, 0, 0, .int 11, []), (54, .if_icmp .ne 7, 57, 61, 0, .null, []), (57, .iconst 1, 58, 0, 0, .int 1, []), (58, .goto 4, 61, 62, 0, .null, []), (61, .iconst 0, 62, 0, 0, .int 0, []), (62, .istore_n 3, 63, 3, 0, .null, []), (63, .iload_n 2, 64, 2, 0, .null, []), (64, .ifCond .eq 21, 67, 85, 0, .null, []), (67, .aload_n 0, 68, 0, 0, .null, [])]),
  (92, [(68, .iconst 0, 69, 0, 0, .int 0, []), (69, .invokevirtual 161, 72, 25, 18, .null, []), (72, .aload_n 0, 73, 0, 0, .null, []), (73, .invokevirtual 164, 76, 33, 17, .null, []), (76, .aload_n 0, 77, 0, 0, .null, []), (77, .bipush 22, 79, 0, 0, .int 22, []), (79, .invokevirtual 97, 82, 8, 18, .null, []), (82, .goto 46, 85, 128, 0, .null, []), (85, .iload_n 1, 86, 1, 0, .null, []), (86, .bipush 19, 88, 0, 0, .int 19, []), (88, .if_icmp .eq 23, 91, 111, 0, .null, []), (91, .iload_n 1, 92, 1, 0, .null, [])]),
  (119, [(92, .bipush 13, 94, 0, 0, .int 13, []), (94, .if_icmp .eq 17, 97, 111, 0, .null, []), (97, .iload_n 3, 98, 3, 0, .null, []), (98, .ifCond .eq 21, 101, 119, 0, .null, []), (101, .aload_n 0, 102, 0, 0, .null, []), (102, .getfield 37, 105, 1, 1, .null, []), (105, .getfield 115, 108, 7, 1, .null, []), (108, .ifCond .ne 11, 111, 119, 0, .null, []), (111, .aload_n 0, 112, 0, 0, .null, []), (112, .iconst 0, 113, 0, 0, .int 0, []), (113, .invokevirtual 167, 116, 26, 18, .null, []), (116, .goto 12, 119, 128, 0, .null, [])]),
  (144, [(119, .aload_n 0, 120, 0, 0, .null, []), (120, .iconst 2, 121, 0, 0, .int 2, []), (121, .aload_n 0, 122, 0, 0, .null, []), (122, .getfield 58, 125, 1, 8, .null, []), (125, .invokevirtual 82, 128, 7, 19, .null, []), (128, .aload_n 0, 129, 0, 0, .null, []), (129, .getfield 37, 132, 1, 1, .null, []), (132, .getfield 115, 135, 7, 1, .null, []), (135, .ifCond .eq 31, 138, 166, 0, .null, []), (138, .iload_n 1, 139, 1, 0, .null, []), (139, .bipush 19, 141, 0, 0, .int 19, []), (141, .if_icmp .ne 25, 144, 166, 0, .null, [])]),
  (167, [(144, .aload_n 0, 145, 0, 0, .null, []), (145, .getfield 12, 148, 1, 2, .null, []), (148, .invokevirtual 170, 151, 55, 65, .null, []), (151, .ifCond .eq 15, 154, 166, 0, .null, []), (154, .aload_n 0, 155, 0, 0, .null, []), (155, .bipush 10, 157, 0, 0, .int 10, []), (157, .aload_n 0, 158, 0, 0, .null, []), (158, .getfield 58, 161, 1, 8, .null, []), (161, .iconst 1, 162, 0, 0, .int 1, []), (162, .isub, 163, 0, 0, .null, []), (163, .invokevirtual 82, 166, 7, 19, .null, []), (166, .aload_n 0, 167, 0, 0, .null, [])]),
  (180, [(167, .getfield 37, 170, 1, 1, .null, []), (170, .getfield 174, 173, 7, 13, .null, []), (173, .iconst 5, 174, 0, 0, .int 5, []), (174, .iconst 1, 175, 0, 0, .int 1, []), (175, .iconst 0, 176, 0, 0, .int 0, []), (176, .invokevirtual 178, 179, 1, 4, .null, []), (179, .return_, 180, 0, 0, .null, [])])]
theorem kX1_body_ok : m_okC 1 cX1_body kX1_body = true := by decide +kernel
def kX1_stmts : mL := [(23, [(0, .iconst 0, 1, 0, 0, .int 0, []), (1, .istore_n 2, 2, 2, 0, .null, []), (2, .iload_n 2, 3, 2, 0, .null, []), (3, .bipush 120, 5, 0, 0, .int 120, []), (5, .if_icmp .gt 24, 8, 29, 0, .null, []), (8, .aload_n 0, 9, 0, 0, .null, []), (9, .invokevirtual 78, 12, 5, 17, .null, []), (12, .invokestatic 184, 15, 24, 17, .null, []), (15, .ifCond .eq 14, 18, 29, 0, .null, []), (18, .aload_n 0, 19, 0, 0, .null, []), (19, .iload_n 1, 20, 1, 0, .null, []), (20, .invokevirtual 167, 23, 26, 18, .null, [])]),
  (30, [(23, .iinc 2 1, 26, 2, 0, .int 1, []), (26, .goto (-24), 29, 2, 0, .null, []), (29, .return_, 30, 0, 0, .null, [])])]
theorem kX1_stmts_ok : m_okC 1 cX1_stmts kX1_stmts = true := by decide +kernel
def kX1_beginsStmt : mL := [(24, [(0, .iload_n 0, 1, 0, 0, .null, []), (1, .bipush 19, 3, 0, 0, .int 19, []), (3, .if_icmp .eq 21, 6, 24, 0, .null, []), (6, .iload_n 0, 7, 0, 0, .null, []), (7, .bipush 16, 9, 0, 0, .int 16, []), (9, .if_icmp .eq 15, 12, 24, 0, .null, []), (12, .iload_n 0, 13, 0, 0, .null, []), (13, .bipush 8, 15, 0, 0, .int 8, []), (15, .if_icmp .lt 13, 18, 28, 0, .null, []), (18, .iload_n 0, 19, 0, 0, .null, []), (19, .bipush 14, 21, 0, 0, .int 14, []), (21, .if_icmp .gt 7, 24, 28, 0, .null, [])]),
  (30, [(24, .iconst 1, 25, 0, 0, .int 1, []), (25, .goto 4, 28, 29, 0, .null, []), (28, .iconst 0, 29, 0, 0, .int 0, []), (29, .ireturn, 30, 0, 0, .null, [])])]
theorem kX1_beginsStmt_ok : m_okC 1 cX1_beginsStmt kX1_beginsStmt = true := by decide +kernel
def kX1_openStmt : mL := [(27, [(0, .aload_n 0, 1, 0, 0, .null, []), (1, .getfield 37, 4, 1, 1, .null, []), (4, .getfield 115, 7, 7, 1, .null, []), (7, .ifCond .eq 20, 10, 27, 0, .null, []), (10, .aload_n 0, 11, 0, 0, .null, []), (11, .invokevirtual 78, 14, 5, 17, .null, []), (14, .bipush 11, 16, 0, 0, .int 11, []), (16, .if_icmp .ne 7, 19, 23, 0, .null, []), (19, .iconst 1, 20, 0, 0, .int 1, []), (20, .goto 21, 23, 41, 0, .null, []), (23, .iconst 0, 24, 0, 0, .int 0, []), (24, .goto 17, 27, 41, 0, .null, [])]),
  (51, [(27, .aload_n 0, 28, 0, 0, .null, []), (28, .invokevirtual 78, 31, 5, 17, .null, []), (31, .bipush 12, 33, 0, 0, .int 12, []), (33, .if_icmp .ne 7, 36, 40, 0, .null, []), (36, .iconst 1, 37, 0, 0, .int 1, []), (37, .goto 4, 40, 41, 0, .null, []), (40, .iconst 0, 41, 0, 0, .int 0, []), (41, .istore_n 2, 42, 2, 0, .null, []), (42, .aload_n 0, 43, 0, 0, .null, []), (43, .invokevirtual 78, 46, 5, 17, .null, []), (46, .bipush 16, 48, 0, 0, .int 16, []), (48, .if_icmp .ne 30, 51, 78, 0, .null, [])]),
  (78, [(51, .aload_n 0, 52, 0, 0, .null, []), (52, .getfield 12, 55, 1, 2, .null, []), (55, .aload_n 0, 56, 0, 0, .null, []), (56, .invokevirtual 89, 59, 6, 17, .null, []), (59, .invokevirtual 188, 62, 50, 66, .null, []), (62, .ifCond .ge 16, 65, 78, 0, .null, []), (65, .aload_n 0, 66, 0, 0, .null, []), (66, .bipush 7, 68, 0, 0, .int 7, []), (68, .aload_n 0, 69, 0, 0, .null, []), (69, .getfield 58, 72, 1, 8, .null, []), (72, .invokevirtual 82, 75, 7, 19, .null, []), (75, .goto 71, 78, 146, 0, .null, [])]),
  (105, [(78, .iload_n 2, 79, 2, 0, .null, []), (79, .ifCond .eq 16, 82, 95, 0, .null, []), (82, .aload_n 0, 83, 0, 0, .null, []), (83, .bipush 8, 85, 0, 0, .int 8, []), (85, .aload_n 0, 86, 0, 0, .null, []), (86, .getfield 58, 89, 1, 8, .null, []), (89, .invokevirtual 82, 92, 7, 19, .null, []), (92, .goto 54, 95, 146, 0, .null, []), (95, .aload_n 0, 96, 0, 0, .null, []), (96, .getfield 12, 99, 1, 2, .null, []), (99, .invokevirtual 170, 102, 55, 65, .null, []), (102, .ifCond .ne 16, 105, 118, 0, .null, [])]),
  (131, [(105, .aload_n 0, 106, 0, 0, .null, []), (106, .bipush 9, 108, 0, 0, .int 9, []), (108, .aload_n 0, 109, 0, 0, .null, []), (109, .getfield 58, 112, 1, 8, .null, []), (112, .invokevirtual 82, 115, 7, 19, .null, []), (115, .goto 31, 118, 146, 0, .null, []), (118, .aload_n 0, 119, 0, 0, .null, []), (119, .getfield 37, 122, 1, 1, .null, []), (122, .getfield 191, 125, 7, 6, .null, []), (125, .bipush 120, 127, 0, 0, .int 120, []), (127, .if_icmp .ge 9, 130, 136, 0, .null, []), (130, .iload_n 1, 131, 1, 0, .null, [])]),
  (155, [(131, .bipush 10, 133, 0, 0, .int 10, []), (133, .if_icmp .le 13, 136, 146, 0, .null, []), (136, .aload_n 0, 137, 0, 0, .null, []), (137, .bipush 12, 139, 0, 0, .int 12, []), (139, .aload_n 0, 140, 0, 0, .null, []), (140, .getfield 58, 143, 1, 8, .null, []), (143, .invokevirtual 82, 146, 7, 19, .null, []), (146, .aload_n 0, 147, 0, 0, .null, []), (147, .getfield 37, 150, 1, 1, .null, []), (150, .dup, 151, 0, 0, .null, []), (151, .getfield 191, 154, 7, 6, .null, []), (154, .iconst 1, 155, 0, 0, .int 1, [])]),
  (160, [(155, .iadd, 156, 0, 0, .null, []), (156, .putfield 191, 159, 7, 6, .null, []), (159, .return_, 160, 0, 0, .null, [])])]
theorem kX1_openStmt_ok : m_okC 1 cX1_openStmt kX1_openStmt = true := by decide +kernel
def kX1_stmt : mL := [(24, [(0, .aload_n 0, 1, 0, 0, .null, []), (1, .invokevirtual 78, 4, 5, 17, .null, []), (4, .invokestatic 184, 7, 24, 17, .null, []), (7, .ifCond .ne 12, 10, 19, 0, .null, []), (10, .aload_n 0, 11, 0, 0, .null, []), (11, .iconst 2, 12, 0, 0, .int 2, []), (12, .aload_n 0, 13, 0, 0, .null, []), (13, .getfield 58, 16, 1, 8, .null, []), (16, .invokevirtual 82, 19, 7, 19, .null, []), (19, .aload_n 0, 20, 0, 0, .null, []), (20, .iload_n 1, 21, 1, 0, .null, []), (21, .invokevirtual 161, 24, 25, 18, .null, [])]),
  (86, [(24, .aload_n 0, 25, 0, 0, .null, []), (25, .getfield 61, 28, 1, 9, .null, []), (28, .ifCond .ne 9, 31, 37, 0, .null, []), (31, .iload_n 1, 32, 1, 0, .null, []), (32, .bipush 10, 34, 0, 0, .int 10, []), (34, .if_icmp .le 4, 37, 38, 0, .null, []), (37, .return_, 38, 0, 0, .null, []), (38, .aload_n 0, 39, 0, 0, .null, []), (39, .invokevirtual 78, 42, 5, 17, .null, []), (42, .lookupswitch 104 #[(9, 58), (12, 81), (14, 50), (19, 42)], 84, 146, 0, .null, [(9, 100), (12, 123), (14, 92), (19, 84)]), (84, .aload_n 0, 85, 0, 0, .null, []), (85, .iload_n 1, 86, 1, 0, .null, [])]),
  (110, [(86, .invokevirtual 193, 89, 27, 18, .null, []), (89, .goto 67, 92, 156, 0, .null, []), (92, .aload_n 0, 93, 0, 0, .null, []), (93, .iload_n 1, 94, 1, 0, .null, []), (94, .invokevirtual 196, 97, 28, 18, .null, []), (97, .goto 59, 100, 156, 0, .null, []), (100, .aload_n 0, 101, 0, 0, .null, []), (101, .dup, 102, 0, 0, .null, []), (102, .getfield 58, 105, 1, 8, .null, []), (105, .iconst 1, 106, 0, 0, .int 1, []), (106, .iadd, 107, 0, 0, .null, []), (107, .putfield 58, 110, 1, 8, .null, [])]),
  (133, [(110, .aload_n 0, 111, 0, 0, .null, []), (111, .invokevirtual 199, 114, 29, 17, .null, []), (114, .aload_n 0, 115, 0, 0, .null, []), (115, .bipush 22, 117, 0, 0, .int 22, []), (117, .invokevirtual 97, 120, 8, 18, .null, []), (120, .goto 36, 123, 156, 0, .null, []), (123, .aload_n 0, 124, 0, 0, .null, []), (124, .dup, 125, 0, 0, .null, []), (125, .getfield 58, 128, 1, 8, .null, []), (128, .iconst 1, 129, 0, 0, .int 1, []), (129, .iadd, 130, 0, 0, .null, []), (130, .putfield 58, 133, 1, 8, .null, [])]),
  (157, [(133, .aload_n 0, 134, 0, 0, .null, []), (134, .invokevirtual 164, 137, 33, 17, .null, []), (137, .aload_n 0, 138, 0, 0, .null, []), (138, .bipush 22, 140, 0, 0, .int 22, []), (140, .invokevirtual 97, 143, 8, 18, .null, []), (143, .goto 13, 146, 156, 0, .null, []), (146, .aload_n 0, 147, 0, 0, .null, []), (147, .invokevirtual 202, 150, 31, 17, .null, []), (150, .aload_n 0, 151, 0, 0, .null, []), (151, .bipush 22, 153, 0, 0, .int 22, []), (153, .invokevirtual 97, 156, 8, 18, .null, []), (156, .return_, 157, 0, 0, .null, [])])]
theorem kX1_stmt_ok : m_okC 1 cX1_stmt kX1_stmt = true := by decide +kernel
def kX1_block : mL := [(20, [(0, .aload_n 0, 1, 0, 0, .null, []), (1, .getfield 12, 4, 1, 2, .null, []), (4, .getfield 46, 7, 4, 1, .null, []), (7, .istore_n 2, 8, 2, 0, .null, []), (8, .aload_n 0, 9, 0, 0, .null, []), (9, .dup, 10, 0, 0, .null, []), (10, .getfield 58, 13, 1, 8, .null, []), (13, .iconst 1, 14, 0, 0, .int 1, []), (14, .iadd, 15, 0, 0, .null, []), (15, .putfield 58, 18, 1, 8, .null, []), (18, .aload_n 0, 19, 0, 0, .null, []), (19, .iload_n 1, 20, 1, 0, .null, [])]),
  (40, [(20, .iconst 1, 21, 0, 0, .int 1, []), (21, .iadd, 22, 0, 0, .null, []), (22, .invokevirtual 142, 25, 23, 18, .null, []), (25, .aload_n 0, 26, 0, 0, .null, []), (26, .bipush 20, 28, 0, 0, .int 20, []), (28, .invokevirtual 97, 31, 8, 18, .null, []), (31, .aload_n 0, 32, 0, 0, .null, []), (32, .getfield 12, 35, 1, 2, .null, []), (35, .iload_n 2, 36, 2, 0, .null, []), (36, .invokevirtual 205, 39, 52, 66, .null, []), (39, .return_, 40, 0, 0, .null, [])])]
theorem kX1_block_ok : m_okC 1 cX1_block kX1_block = true := by decide +kernel
def kX1_branches : mL := [(26, [(0, .aload_n 0, 1, 0, 0, .null, []), (1, .getfield 12, 4, 1, 2, .null, []), (4, .getfield 49, 7, 4, 2, .null, []), (7, .istore_n 2, 8, 2, 0, .null, []), (8, .aload_n 0, 9, 0, 0, .null, []), (9, .getfield 37, 12, 1, 1, .null, []), (12, .getfield 174, 15, 7, 13, .null, []), (15, .getfield 208, 18, 0, 3, .null, []), (18, .istore_n 3, 19, 3, 0, .null, []), (19, .aload_n 0, 20, 0, 0, .null, []), (20, .getfield 37, 23, 1, 1, .null, []), (23, .getfield 174, 26, 7, 13, .null, [])]),
  (44, [(26, .iconst 3, 27, 0, 0, .int 3, []), (27, .iconst 0, 28, 0, 0, .int 0, []), (28, .iconst 0, 29, 0, 0, .int 0, []), (29, .invokevirtual 178, 32, 1, 4, .null, []), (32, .aload_n 0, 33, 0, 0, .null, []), (33, .dup, 34, 0, 0, .null, []), (34, .getfield 58, 37, 1, 8, .null, []), (37, .iconst 1, 38, 0, 0, .int 1, []), (38, .iadd, 39, 0, 0, .null, []), (39, .putfield 58, 42, 1, 8, .null, []), (42, .aload_n 0, 43, 0, 0, .null, []), (43, .iload_n 1, 44, 1, 0, .null, [])]),
  (67, [(44, .iconst 1, 45, 0, 0, .int 1, []), (45, .iadd, 46, 0, 0, .null, []), (46, .invokevirtual 167, 49, 26, 18, .null, []), (49, .aload_n 0, 50, 0, 0, .null, []), (50, .getfield 12, 53, 1, 2, .null, []), (53, .getfield 49, 56, 4, 2, .null, []), (56, .istore 4, 58, 4, 0, .null, []), (58, .aload_n 0, 59, 0, 0, .null, []), (59, .getfield 12, 62, 1, 2, .null, []), (62, .iload_n 2, 63, 2, 0, .null, []), (63, .putfield 49, 66, 4, 2, .null, []), (66, .aload_n 0, 67, 0, 0, .null, [])]),
  (95, [(67, .invokevirtual 78, 70, 5, 17, .null, []), (70, .bipush 15, 72, 0, 0, .int 15, []), (72, .if_icmp .ne 71, 75, 143, 0, .null, []), (75, .aload_n 0, 76, 0, 0, .null, []), (76, .getfield 37, 79, 1, 1, .null, []), (79, .getfield 174, 82, 7, 13, .null, []), (82, .getfield 208, 85, 0, 3, .null, []), (85, .istore 5, 87, 5, 0, .null, []), (87, .aload_n 0, 88, 0, 0, .null, []), (88, .getfield 37, 91, 1, 1, .null, []), (91, .getfield 174, 94, 7, 13, .null, []), (94, .iconst 4, 95, 0, 0, .int 4, [])]),
  (117, [(95, .iconst 0, 96, 0, 0, .int 0, []), (96, .iconst 0, 97, 0, 0, .int 0, []), (97, .invokevirtual 178, 100, 1, 4, .null, []), (100, .aload_n 0, 101, 0, 0, .null, []), (101, .getfield 37, 104, 1, 1, .null, []), (104, .getfield 174, 107, 7, 13, .null, []), (107, .iload_n 3, 108, 3, 0, .null, []), (108, .invokevirtual 211, 111, 2, 2, .null, []), (111, .aload_n 0, 112, 0, 0, .null, []), (112, .dup, 113, 0, 0, .null, []), (113, .getfield 58, 116, 1, 8, .null, []), (116, .iconst 1, 117, 0, 0, .int 1, [])]),
  (140, [(117, .iadd, 118, 0, 0, .null, []), (118, .putfield 58, 121, 1, 8, .null, []), (121, .aload_n 0, 122, 0, 0, .null, []), (122, .iload_n 1, 123, 1, 0, .null, []), (123, .iconst 1, 124, 0, 0, .int 1, []), (124, .iadd, 125, 0, 0, .null, []), (125, .invokevirtual 167, 128, 26, 18, .null, []), (128, .aload_n 0, 129, 0, 0, .null, []), (129, .getfield 37, 132, 1, 1, .null, []), (132, .getfield 174, 135, 7, 13, .null, []), (135, .iload 5, 137, 5, 0, .null, []), (137, .invokevirtual 211, 140, 2, 2, .null, [])]),
  (165, [(140, .goto 14, 143, 154, 0, .null, []), (143, .aload_n 0, 144, 0, 0, .null, []), (144, .getfield 37, 147, 1, 1, .null, []), (147, .getfield 174, 150, 7, 13, .null, []), (150, .iload_n 3, 151, 3, 0, .null, []), (151, .invokevirtual 211, 154, 2, 2, .null, []), (154, .aload_n 0, 155, 0, 0, .null, []), (155, .getfield 12, 158, 1, 2, .null, []), (158, .dup, 159, 0, 0, .null, []), (159, .getfield 49, 162, 4, 2, .null, []), (162, .iload 4, 164, 4, 0, .null, []), (164, .iand, 165, 0, 0, .null, [])]),
  (169, [(165, .putfield 49, 168, 4, 2, .null, []), (168, .return_, 169, 0, 0, .null, [])])]
theorem kX1_branches_ok : m_okC 1 cX1_branches kX1_branches = true := by decide +kernel
def kX1_let : mL := [(25, [(0, .aload_n 0, 1, 0, 0, .null, []), (1, .invokevirtual 78, 4, 5, 17, .null, []), (4, .bipush 16, 6, 0, 0, .int 16, []), (6, .if_icmp .eq 15, 9, 21, 0, .null, []), (9, .aload_n 0, 10, 0, 0, .null, []), (10, .iconst 2, 11, 0, 0, .int 2, []), (11, .aload_n 0, 12, 0, 0, .null, []), (12, .getfield 58, 15, 1, 8, .null, []), (15, .invokevirtual 82, 18, 7, 19, .null, []), (18, .goto 105, 21, 123, 0, .null, []), (21, .aload_n 0, 22, 0, 0, .null, []), (22, .getfield 12, 25, 1, 2, .null, [])]),
  (52, [(25, .aload_n 0, 26, 0, 0, .null, []), (26, .invokevirtual 89, 29, 6, 17, .null, []), (29, .invokevirtual 188, 32, 50, 66, .null, []), (32, .ifCond .lt 16, 35, 48, 0, .null, []), (35, .aload_n 0, 36, 0, 0, .null, []), (36, .bipush 6, 38, 0, 0, .int 6, []), (38, .aload_n 0, 39, 0, 0, .null, []), (39, .getfield 58, 42, 1, 8, .null, []), (42, .invokevirtual 82, 45, 7, 19, .null, []), (45, .goto 78, 48, 123, 0, .null, []), (48, .aload_n 0, 49, 0, 0, .null, []), (49, .getfield 12, 52, 1, 2, .null, [])]),
  (78, [(52, .getfield 46, 55, 4, 1, .null, []), (55, .bipush 20, 57, 0, 0, .int 20, []), (57, .if_icmp .lt 16, 60, 73, 0, .null, []), (60, .aload_n 0, 61, 0, 0, .null, []), (61, .bipush 12, 63, 0, 0, .int 12, []), (63, .aload_n 0, 64, 0, 0, .null, []), (64, .getfield 58, 67, 1, 8, .null, []), (67, .invokevirtual 82, 70, 7, 19, .null, []), (70, .goto 53, 73, 123, 0, .null, []), (73, .aload_n 0, 74, 0, 0, .null, []), (74, .getfield 12, 77, 1, 2, .null, []), (77, .aload_n 0, 78, 0, 0, .null, [])]),
  (101, [(78, .invokevirtual 89, 81, 6, 17, .null, []), (81, .invokevirtual 214, 84, 51, 66, .null, []), (84, .istore_n 1, 85, 1, 0, .null, []), (85, .aload_n 0, 86, 0, 0, .null, []), (86, .dup, 87, 0, 0, .null, []), (87, .getfield 58, 90, 1, 8, .null, []), (90, .iconst 1, 91, 0, 0, .int 1, []), (91, .iadd, 92, 0, 0, .null, []), (92, .putfield 58, 95, 1, 8, .null, []), (95, .aload_n 0, 96, 0, 0, .null, []), (96, .invokevirtual 78, 99, 5, 17, .null, []), (99, .bipush 24, 101, 0, 0, .int 24, [])]),
  (123, [(101, .if_icmp .ne 22, 104, 123, 0, .null, []), (104, .aload_n 0, 105, 0, 0, .null, []), (105, .dup, 106, 0, 0, .null, []), (106, .getfield 58, 109, 1, 8, .null, []), (109, .iconst 1, 110, 0, 0, .int 1, []), (110, .iadd, 111, 0, 0, .null, []), (111, .putfield 58, 114, 1, 8, .null, []), (114, .aload_n 0, 115, 0, 0, .null, []), (115, .iload_n 1, 116, 1, 0, .null, []), (116, .aload_n 0, 117, 0, 0, .null, []), (117, .invokevirtual 217, 120, 35, 17, .null, []), (120, .invokevirtual 220, 123, 30, 19, .null, [])]),
  (124, [(123, .return_, 124, 0, 0, .null, [])])]
theorem kX1_let_ok : m_okC 1 cX1_let kX1_let = true := by decide +kernel
def kX1_setName : mL := [(22, [(0, .aload_n 0, 1, 0, 0, .null, []), (1, .getfield 37, 4, 1, 1, .null, []), (4, .getfield 174, 7, 7, 13, .null, []), (7, .iconst 2, 8, 0, 0, .int 2, []), (8, .iload_n 1, 9, 1, 0, .null, []), (9, .iload_n 2, 10, 2, 0, .null, []), (10, .invokevirtual 178, 13, 1, 4, .null, []), (13, .aload_n 0, 14, 0, 0, .null, []), (14, .getfield 12, 17, 1, 2, .null, []), (17, .iload_n 1, 18, 1, 0, .null, []), (18, .invokevirtual 223, 21, 54, 66, .null, []), (21, .return_, 22, 0, 0, .null, [])])]
theorem kX1_setName_ok : m_okC 1 cX1_setName kX1_setName = true := by decide +kernel
def kX1_simple : mL := [(22, [(0, .aload_n 0, 1, 0, 0, .null, []), (1, .invokevirtual 78, 4, 5, 17, .null, []), (4, .istore_n 1, 5, 1, 0, .null, []), (5, .aload_n 0, 6, 0, 0, .null, []), (6, .getfield 12, 9, 1, 2, .null, []), (9, .aload_n 0, 10, 0, 0, .null, []), (10, .invokevirtual 89, 13, 6, 17, .null, []), (13, .invokevirtual 188, 16, 50, 66, .null, []), (16, .istore_n 2, 17, 2, 0, .null, []), (17, .aload_n 0, 18, 0, 0, .null, []), (18, .dup, 19, 0, 0, .null, []), (19, .getfield 58, 22, 1, 8, .null, [])]),
  (45, [(22, .iconst 1, 23, 0, 0, .int 1, []), (23, .iadd, 24, 0, 0, .null, []), (24, .putfield 58, 27, 1, 8, .null, []), (27, .iload_n 1, 28, 1, 0, .null, []), (28, .bipush 8, 30, 0, 0, .int 8, []), (30, .if_icmp .ne 22, 33, 52, 0, .null, []), (33, .aload_n 0, 34, 0, 0, .null, []), (34, .getfield 37, 37, 1, 1, .null, []), (37, .getfield 174, 40, 7, 13, .null, []), (40, .iconst 0, 41, 0, 0, .int 0, []), (41, .aload_n 0, 42, 0, 0, .null, []), (42, .invokevirtual 217, 45, 35, 17, .null, [])]),
  (71, [(45, .iconst 0, 46, 0, 0, .int 0, []), (46, .invokevirtual 178, 49, 1, 4, .null, []), (49, .goto 64, 52, 113, 0, .null, []), (52, .iload_n 1, 53, 1, 0, .null, []), (53, .bipush 10, 55, 0, 0, .int 10, []), (55, .if_icmp .ne 10, 58, 65, 0, .null, []), (58, .aload_n 0, 59, 0, 0, .null, []), (59, .invokevirtual 226, 62, 32, 17, .null, []), (62, .goto 51, 65, 113, 0, .null, []), (65, .iload_n 1, 66, 1, 0, .null, []), (66, .bipush 16, 68, 0, 0, .int 16, []), (68, .if_icmp .ne 21, 71, 89, 0, .null, [])]),
  (95, [(71, .aload_n 0, 72, 0, 0, .null, []), (72, .bipush 24, 74, 0, 0, .int 24, []), (74, .invokevirtual 97, 77, 8, 18, .null, []), (77, .aload_n 0, 78, 0, 0, .null, []), (78, .iload_n 2, 79, 2, 0, .null, []), (79, .aload_n 0, 80, 0, 0, .null, []), (80, .invokevirtual 217, 83, 35, 17, .null, []), (83, .invokevirtual 220, 86, 30, 19, .null, []), (86, .goto 27, 89, 113, 0, .null, []), (89, .iload_n 1, 90, 1, 0, .null, []), (90, .bipush 11, 92, 0, 0, .int 11, []), (92, .if_icmp .ne 12, 95, 104, 0, .null, [])]),
  (114, [(95, .aload_n 0, 96, 0, 0, .null, []), (96, .iconst 1, 97, 0, 0, .int 1, []), (97, .iconst 0, 98, 0, 0, .int 0, []), (98, .invokevirtual 229, 101, 34, 19, .null, []), (101, .goto 12, 104, 113, 0, .null, []), (104, .aload_n 0, 105, 0, 0, .null, []), (105, .iconst 3, 106, 0, 0, .int 3, []), (106, .aload_n 0, 107, 0, 0, .null, []), (107, .invokevirtual 217, 110, 35, 17, .null, []), (110, .invokevirtual 229, 113, 34, 19, .null, []), (113, .return_, 114, 0, 0, .null, [])])]
theorem kX1_simple_ok : m_okC 1 cX1_simple kX1_simple = true := by decide +kernel
def kX1_useName : mL := [(25, [(0, .aload_n 0, 1, 0, 0, .null, []), (1, .invokevirtual 78, 4, 5, 17, .null, []), (4, .bipush 16, 6, 0, 0, .int 16, []), (6, .if_icmp .ne 17, 9, 23, 0, .null, []), (9, .aload_n 0, 10, 0, 0, .null, []), (10, .getfield 12, 13, 1, 2, .null, []), (13, .aload_n 0, 14, 0, 0, .null, []), (14, .invokevirtual 89, 17, 6, 17, .null, []), (17, .invokevirtual 188, 20, 50, 66, .null, []), (20, .goto 4, 23, 24, 0, .null, []), (23, .iconst (-1), 24, 0, 0, .int (-1), []), (24, .istore_n 1, 25, 1, 0, .null, [])]),
  (50, [(25, .aload_n 0, 26, 0, 0, .null, []), (26, .invokevirtual 78, 29, 5, 17, .null, []), (29, .bipush 16, 31, 0, 0, .int 16, []), (31, .if_icmp .eq 15, 34, 46, 0, .null, []), (34, .aload_n 0, 35, 0, 0, .null, []), (35, .iconst 2, 36, 0, 0, .int 2, []), (36, .aload_n 0, 37, 0, 0, .null, []), (37, .getfield 58, 40, 1, 8, .null, []), (40, .invokevirtual 82, 43, 7, 19, .null, []), (43, .goto 24, 46, 67, 0, .null, []), (46, .aload_n 0, 47, 0, 0, .null, []), (47, .getfield 12, 50, 1, 2, .null, [])]),
  (75, [(50, .iload_n 1, 51, 1, 0, .null, []), (51, .invokevirtual 232, 54, 53, 66, .null, []), (54, .ifCond .ne 13, 57, 67, 0, .null, []), (57, .aload_n 0, 58, 0, 0, .null, []), (58, .bipush 7, 60, 0, 0, .int 7, []), (60, .aload_n 0, 61, 0, 0, .null, []), (61, .getfield 58, 64, 1, 8, .null, []), (64, .invokevirtual 82, 67, 7, 19, .null, []), (67, .aload_n 0, 68, 0, 0, .null, []), (68, .getfield 37, 71, 1, 1, .null, []), (71, .getfield 174, 74, 7, 13, .null, []), (74, .iconst 1, 75, 0, 0, .int 1, [])]),
  (91, [(75, .iload_n 1, 76, 1, 0, .null, []), (76, .iconst 0, 77, 0, 0, .int 0, []), (77, .invokevirtual 178, 80, 1, 4, .null, []), (80, .aload_n 0, 81, 0, 0, .null, []), (81, .dup, 82, 0, 0, .null, []), (82, .getfield 58, 85, 1, 8, .null, []), (85, .iconst 1, 86, 0, 0, .int 1, []), (86, .iadd, 87, 0, 0, .null, []), (87, .putfield 58, 90, 1, 8, .null, []), (90, .return_, 91, 0, 0, .null, [])])]
theorem kX1_useName_ok : m_okC 1 cX1_useName kX1_useName = true := by decide +kernel
def kX1_yieldNumber : mL := [(21, [(0, .aload_n 0, 1, 0, 0, .null, []), (1, .invokevirtual 78, 4, 5, 17, .null, []), (4, .bipush 25, 6, 0, 0, .int 25, []), (6, .if_icmp .ne 7, 9, 13, 0, .null, []), (9, .iconst 1, 10, 0, 0, .int 1, []), (10, .goto 4, 13, 14, 0, .null, []), (13, .iconst 0, 14, 0, 0, .int 0, []), (14, .istore_n 1, 15, 1, 0, .null, []), (15, .iload_n 1, 16, 1, 0, .null, []), (16, .ifCond .eq 13, 19, 29, 0, .null, []), (19, .aload_n 0, 20, 0, 0, .null, []), (20, .dup, 21, 0, 0, .null, [])]),
  (41, [(21, .getfield 58, 24, 1, 8, .null, []), (24, .iconst 1, 25, 0, 0, .int 1, []), (25, .iadd, 26, 0, 0, .null, []), (26, .putfield 58, 29, 1, 8, .null, []), (29, .aload_n 0, 30, 0, 0, .null, []), (30, .invokevirtual 217, 33, 35, 17, .null, []), (33, .istore_n 2, 34, 2, 0, .null, []), (34, .aload_n 0, 35, 0, 0, .null, []), (35, .iconst 2, 36, 0, 0, .int 2, []), (36, .iload_n 1, 37, 1, 0, .null, []), (37, .ifCond .eq 8, 40, 45, 0, .null, []), (40, .iload_n 2, 41, 2, 0, .null, [])]),
  (50, [(41, .ineg, 42, 0, 0, .null, []), (42, .goto 4, 45, 46, 0, .null, []), (45, .iload_n 2, 46, 2, 0, .null, []), (46, .invokevirtual 229, 49, 34, 19, .null, []), (49, .return_, 50, 0, 0, .null, [])])]
theorem kX1_yieldNumber_ok : m_okC 1 cX1_yieldNumber kX1_yieldNumber = true := by decide +kernel
def kX1_leave : mL := [(22, [(0, .aload_n 0, 1, 0, 0, .null, []), (1, .getfield 37, 4, 1, 1, .null, []), (4, .getfield 174, 7, 7, 13, .null, []), (7, .iconst 5, 8, 0, 0, .int 5, []), (8, .iload_n 1, 9, 1, 0, .null, []), (9, .iload_n 2, 10, 2, 0, .null, []), (10, .invokevirtual 178, 13, 1, 4, .null, []), (13, .aload_n 0, 14, 0, 0, .null, []), (14, .getfield 12, 17, 1, 2, .null, []), (17, .iconst (-1), 18, 0, 0, .int (-1), []), (18, .putfield 49, 21, 4, 2, .null, []), (21, .return_, 22, 0, 0, .null, [])])]
theorem kX1_leave_ok : m_okC 1 cX1_leave kX1_leave = true := by decide +kernel
def kX1_number : mL := [(21, [(0, .aload_n 0, 1, 0, 0, .null, []), (1, .invokevirtual 78, 4, 5, 17, .null, []), (4, .bipush 17, 6, 0, 0, .int 17, []), (6, .if_icmp .eq 14, 9, 20, 0, .null, []), (9, .aload_n 0, 10, 0, 0, .null, []), (10, .iconst 2, 11, 0, 0, .int 2, []), (11, .aload_n 0, 12, 0, 0, .null, []), (12, .getfield 58, 15, 1, 8, .null, []), (15, .invokevirtual 82, 18, 7, 19, .null, []), (18, .iconst 0, 19, 0, 0, .int 0, []), (19, .ireturn, 20, 0, 0, .null, []), (20, .aload_n 0, 21, 0, 0, .null, [])]),
  (38, [(21, .invokevirtual 89, 24, 6, 17, .null, []), (24, .l2i, 25, 0, 0, .null, []), (25, .istore_n 1, 26, 1, 0, .null, []), (26, .aload_n 0, 27, 0, 0, .null, []), (27, .dup, 28, 0, 0, .null, []), (28, .getfield 58, 31, 1, 8, .null, []), (31, .iconst 1, 32, 0, 0, .int 1, []), (32, .iadd, 33, 0, 0, .null, []), (33, .putfield 58, 36, 1, 8, .null, []), (36, .iload_n 1, 37, 1, 0, .null, []), (37, .ireturn, 38, 0, 0, .null, [])])]
theorem kX1_number_ok : m_okC 1 cX1_number kX1_number = true := by decide +kernel
def kX1_end : mL := [(29, [(0, .aload_n 0, 1, 0, 0, .null, []), (1, .invokevirtual 78, 4, 5, 17, .null, []), (4, .bipush 20, 6, 0, 0, .int 20, []), (6, .if_icmp .ne 66, 9, 72, 0, .null, []), (9, .aload_n 0, 10, 0, 0, .null, []), (10, .getfield 37, 13, 1, 1, .null, []), (13, .getfield 115, 16, 7, 1, .null, []), (16, .ifCond .eq 56, 19, 72, 0, .null, []), (19, .aload_n 0, 20, 0, 0, .null, []), (20, .getfield 37, 23, 1, 1, .null, []), (23, .getfield 139, 26, 7, 8, .null, []), (26, .ifCond .eq 26, 29, 52, 0, .null, [])]),
  (56, [(29, .aload_n 0, 30, 0, 0, .null, []), (30, .getfield 12, 33, 1, 2, .null, []), (33, .invokevirtual 170, 36, 55, 65, .null, []), (36, .ifCond .eq 16, 39, 52, 0, .null, []), (39, .aload_n 0, 40, 0, 0, .null, []), (40, .bipush 10, 42, 0, 0, .int 10, []), (42, .aload_n 0, 43, 0, 0, .null, []), (43, .getfield 58, 46, 1, 8, .null, []), (46, .invokevirtual 82, 49, 7, 19, .null, []), (49, .goto 23, 52, 72, 0, .null, []), (52, .aload_n 0, 53, 0, 0, .null, []), (53, .getfield 37, 56, 1, 1, .null, [])]),
  (81, [(56, .invokevirtual 235, 59, 84, 113, .null, []), (59, .ifCond .ne 13, 62, 72, 0, .null, []), (62, .aload_n 0, 63, 0, 0, .null, []), (63, .bipush 11, 65, 0, 0, .int 11, []), (65, .aload_n 0, 66, 0, 0, .null, []), (66, .getfield 58, 69, 1, 8, .null, []), (69, .invokevirtual 82, 72, 7, 19, .null, []), (72, .aload_n 0, 73, 0, 0, .null, []), (73, .bipush 20, 75, 0, 0, .int 20, []), (75, .invokevirtual 97, 78, 8, 18, .null, []), (78, .aload_n 0, 79, 0, 0, .null, []), (79, .bipush 27, 81, 0, 0, .int 27, [])]),
  (85, [(81, .invokevirtual 97, 84, 8, 18, .null, []), (84, .return_, 85, 0, 0, .null, [])])]
theorem kX1_end_ok : m_okC 1 cX1_end kX1_end = true := by decide +kernel
end
section
def kX6_init : mL := [(26, [(0, .aload_n 0, 1, 0, 0, .null, []), (1, .invokespecial 3, 4, 999, 1, .null, []), (4, .aload_n 0, 5, 0, 0, .null, []), (5, .sipush 3001, 8, 0, 0, .int 3001, []), (8, .newarray .byte, 10, 3001, 0, .null, []), (10, .putfield 9, 13, 6, 0, .null, []), (13, .aload_n 0, 14, 0, 0, .null, []), (14, .sipush 3001, 17, 0, 0, .int 3001, []), (17, .newarray .short, 19, 3001, 0, .null, []), (19, .putfield 15, 22, 6, 1, .null, []), (22, .aload_n 0, 23, 0, 0, .null, []), (23, .sipush 3001, 26, 0, 0, .int 3001, [])]),
  (46, [(26, .newarray .long, 28, 3001, 0, .null, []), (28, .putfield 19, 31, 6, 2, .null, []), (31, .aload_n 0, 32, 0, 0, .null, []), (32, .bipush 15, 34, 0, 0, .int 15, []), (34, .newarray .long, 36, 15, 0, .null, []), (36, .dup, 37, 0, 0, .null, []), (37, .iconst 0, 38, 0, 0, .int 0, []), (38, .ldc 23, 40, 0, 0, .ref 1000000, []), (40, .invokestatic 25, 43, 62, 97, .null, []), (43, .lastore, 44, 0, 0, .null, []), (44, .dup, 45, 0, 0, .null, []), (45, .iconst 1, 46, 0, 0, .int 1, [])]),
  (67, [(46, .ldc 29, 48, 0, 0, .ref 1000001, []), (48, .invokestatic 25, 51, 62, 97, .null, []), (51, .lastore, 52, 0, 0, .null, []), (52, .dup, 53, 0, 0, .null, []), (53, .iconst 2, 54, 0, 0, .int 2, []), (54, .ldc 31, 56, 0, 0, .ref 1000002, []), (56, .invokestatic 25, 59, 62, 97, .null, []), (59, .lastore, 60, 0, 0, .null, []), (60, .dup, 61, 0, 0, .null, []), (61, .iconst 3, 62, 0, 0, .int 3, []), (62, .ldc 33, 64, 0, 0, .ref 1000003, []), (64, .invokestatic 25, 67, 62, 97, .null, [])]),
  (85, [(67, .lastore, 68, 0, 0, .null, []), (68, .dup, 69, 0, 0, .null, []), (69, .iconst 4, 70, 0, 0, .int 4, []), (70, .ldc 35, 72, 0, 0, .ref 1000004, []), (72, .invokestatic 25, 75, 62, 97, .null, []), (75, .lastore, 76, 0, 0, .null, []), (76, .dup, 77, 0, 0, .null, []), (77, .iconst 5, 78, 0, 0, .int 5, []), (78, .ldc 37, 80, 0, 0, .ref 1000005, []), (80, .invokestatic 25, 83, 62, 97, .null, []), (83, .lastore, 84, 0, 0, .null, []), (84, .dup, 85, 0, 0, .null, [])]),
  (107, [(85, .bipush 6, 87, 0, 0, .int 6, []), (87, .ldc 39, 89, 0, 0, .ref 1000006, []), (89, .invokestatic 25, 92, 62, 97, .null, []), (92, .lastore, 93, 0, 0, .null, []), (93, .dup, 94, 0, 0, .null, []), (94, .bipush 7, 96, 0, 0, .int 7, []), (96, .ldc 41, 98, 0, 0, .ref 1000007, []), (98, .invokestatic 25, 101, 62, 97, .null, []), (101, .lastore, 102, 0, 0, .null, []), (102, .dup, 103, 0, 0, .null, []), (103, .bipush 8, 105, 0, 0, .int 8, []), (105, .ldc 43, 107, 0, 0, .ref 1000008, [])]),
  (129, [(107, .invokestatic 25, 110, 62, 97, .null, []), (110, .lastore, 111, 0, 0, .null, []), (111, .dup, 112, 0, 0, .null, []), (112, .bipush 9, 114, 0, 0, .int 9, []), (114, .ldc 45, 116, 0, 0, .ref 1000009, []), (116, .invokestatic 25, 119, 62, 97, .null, []), (119, .lastore, 120, 0, 0, .null, []), (120, .dup, 121, 0, 0, .null, []), (121, .bipush 10, 123, 0, 0, .int 10, []), (123, .ldc 47, 125, 0, 0, .ref 1000010, []), (125, .invokestatic 25, 128, 62, 97, .null, []), (128, .lastore, 129, 0, 0, .null, [])]),
  (150, [(129, .dup, 130, 0, 0, .null, []), (130, .bipush 11, 132, 0, 0, .int 11, []), (132, .ldc 49, 134, 0, 0, .ref 1000011, []), (134, .invokestatic 25, 137, 62, 97, .null, []), (137, .lastore, 138, 0, 0, .null, []), (138, .dup, 139, 0, 0, .null, []), (139, .bipush 12, 141, 0, 0, .int 12, []), (141, .ldc 51, 143, 0, 0, .ref 1000012, []), (143, .invokestatic 25, 146, 62, 97, .null, []), (146, .lastore, 147, 0, 0, .null, []), (147, .dup, 148, 0, 0, .null, []), (148, .bipush 13, 150, 0, 0, .int 13, [])]),
  (169, [(150, .ldc 53, 152, 0, 0, .ref 1000013, []), (152, .invokestatic 25, 155, 62, 97, .null, []), (155, .lastore, 156, 0, 0, .null, []), (156, .dup, 157, 0, 0, .null, []), (157, .bipush 14, 159, 0, 0, .int 14, []), (159, .ldc 55, 161, 0, 0, .ref 1000014, []), (161, .invokestatic 25, 164, 62, 97, .null, []), (164, .lastore, 165, 0, 0, .null, []), (165, .putfield 57, 168, 6, 3, .null, []), (168, .return_, 169, 0, 0, .null, [])])]
theorem kX6_init_ok : m_okC 6 cX6_init kX6_init = true := by decide +kernel
def kX6_cut : mL := [(18, [(0, .aload_n 0, 1, 0, 0, .null, []), (1, .iconst 0, 2, 0, 0, .int 0, []), (2, .putfield 70, 5, 6, 4, .null, []), (5, .iconst 0, 6, 0, 0, .int 0, []), (6, .istore_n 2, 7, 2, 0, .null, []), (7, .iconst 0, 8, 0, 0, .int 0, []), (8, .istore_n 3, 9, 3, 0, .null, []), (9, .iload_n 3, 10, 3, 0, .null, []), (10, .sipush 3001, 13, 0, 0, .int 3001, []), (13, .if_icmp .ge 67, 16, 80, 0, .null, []), (16, .aload_n 1, 17, 1, 0, .null, []), (17, .iload_n 2, 18, 2, 0, .null, [])]),
  (41, [(18, .invokestatic 74, 21, 64, 98, .null, []), (21, .istore_n 2, 22, 2, 0, .null, []), (22, .aload_n 1, 23, 1, 0, .null, []), (23, .iload_n 2, 24, 2, 0, .null, []), (24, .invokevirtual 78, 27, 38, 34, .null, []), (27, .istore 4, 29, 4, 0, .null, []), (29, .iload 4, 31, 4, 0, .null, []), (31, .ifCond .ge 15, 34, 46, 0, .null, []), (34, .aload_n 0, 35, 0, 0, .null, []), (35, .bipush 27, 37, 0, 0, .int 27, []), (37, .aload_n 1, 38, 1, 0, .null, []), (38, .getfield 84, 41, 2, 1, .null, [])]),
  (62, [(41, .lconst 0, 42, 0, 0, .long 0, []), (42, .invokevirtual 86, 45, 74, 100, .null, []), (45, .return_, 46, 0, 0, .null, []), (46, .aload_n 0, 47, 0, 0, .null, []), (47, .aload_n 1, 48, 1, 0, .null, []), (48, .iload_n 2, 49, 2, 0, .null, []), (49, .iload 4, 51, 4, 0, .null, []), (51, .invokevirtual 90, 54, 65, 100, .null, []), (54, .istore 5, 56, 5, 0, .null, []), (56, .iload 5, 58, 5, 0, .null, []), (58, .iload_n 2, 59, 2, 0, .null, []), (59, .if_icmp .gt 12, 62, 71, 0, .null, [])]),
  (81, [(62, .aload_n 0, 63, 0, 0, .null, []), (63, .bipush 28, 65, 0, 0, .int 28, []), (65, .iload_n 2, 66, 2, 0, .null, []), (66, .lconst 0, 67, 0, 0, .long 0, []), (67, .invokevirtual 86, 70, 74, 100, .null, []), (70, .return_, 71, 0, 0, .null, []), (71, .iload 5, 73, 5, 0, .null, []), (73, .istore_n 2, 74, 2, 0, .null, []), (74, .iinc 3 1, 77, 3, 0, .int 1, []), (77, .goto (-68), 80, 9, 0, .null, []), (80, .return_, 81, 0, 0, .null, [])])]
theorem kX6_cut_ok : m_okC 6 cX6_cut kX6_cut = true := by decide +kernel
def kX6_behindBlanks : mL := [(19, [(0, .iload_n 1, 1, 1, 0, .null, []), (1, .istore_n 2, 2, 2, 0, .null, []), (2, .iload_n 2, 3, 2, 0, .null, []), (3, .aload_n 0, 4, 0, 0, .null, []), (4, .getfield 84, 7, 2, 1, .null, []), (7, .if_icmp .ge 41, 10, 48, 0, .null, []), (10, .aload_n 0, 11, 0, 0, .null, []), (11, .iload_n 2, 12, 2, 0, .null, []), (12, .invokevirtual 78, 15, 38, 34, .null, []), (15, .istore_n 3, 16, 3, 0, .null, []), (16, .iload_n 3, 17, 3, 0, .null, []), (17, .bipush 32, 19, 0, 0, .int 32, [])]),
  (42, [(19, .if_icmp .eq 23, 22, 42, 0, .null, []), (22, .iload_n 3, 23, 3, 0, .null, []), (23, .bipush 9, 25, 0, 0, .int 9, []), (25, .if_icmp .eq 17, 28, 42, 0, .null, []), (28, .iload_n 3, 29, 3, 0, .null, []), (29, .bipush 10, 31, 0, 0, .int 10, []), (31, .if_icmp .eq 11, 34, 42, 0, .null, []), (34, .iload_n 3, 35, 3, 0, .null, []), (35, .bipush 13, 37, 0, 0, .int 13, []), (37, .if_icmp .eq 5, 40, 42, 0, .null, []), (40, .iload_n 2, 41, 2, 0, .null, []), (41, .ireturn, 42, 0, 0, .null, [])]),
  (53, [(42, .iinc 2 1, 45, 2, 0, .int 1, []), (45, .goto (-43), 48, 2, 0, .null, []), (48, .aload_n 0, 49, 0, 0, .null, []), (49, .getfield 84, 52, 2, 1, .null, []), (52, .ireturn, 53, 0, 0, .null, [])])]
theorem kX6_behindBlanks_ok : m_okC 6 cX6_behindBlanks kX6_behindBlanks = true := by decide +kernel
def kX6_cutOne : mL := [(22, [(0, .iload_n 3, 1, 3, 0, .null, []), (1, .invokestatic 94, 4, 70, 97, .null, []), (4, .ifCond .eq 10, 7, 14, 0, .null, []), (7, .aload_n 0, 8, 0, 0, .null, []), (8, .aload_n 1, 9, 1, 0, .null, []), (9, .iload_n 2, 10, 2, 0, .null, []), (10, .invokevirtual 98, 13, 66, 99, .null, []), (13, .ireturn, 14, 0, 0, .null, []), (14, .iload_n 3, 15, 3, 0, .null, []), (15, .invokestatic 101, 18, 71, 97, .null, []), (18, .ifCond .eq 10, 21, 28, 0, .null, []), (21, .aload_n 0, 22, 0, 0, .null, [])]),
  (41, [(22, .aload_n 1, 23, 1, 0, .null, []), (23, .iload_n 2, 24, 2, 0, .null, []), (24, .invokevirtual 104, 27, 68, 99, .null, []), (27, .ireturn, 28, 0, 0, .null, []), (28, .iload_n 3, 29, 3, 0, .null, []), (29, .bipush 34, 31, 0, 0, .int 34, []), (31, .if_icmp .ne 10, 34, 41, 0, .null, []), (34, .aload_n 0, 35, 0, 0, .null, []), (35, .aload_n 1, 36, 1, 0, .null, []), (36, .iload_n 2, 37, 2, 0, .null, []), (37, .invokevirtual 107, 40, 69, 99, .null, []), (40, .ireturn, 41, 0, 0, .null, [])]),
  (62, [(41, .iload_n 3, 42, 3, 0, .null, []), (42, .bipush 45, 44, 0, 0, .int 45, []), (44, .if_icmp .ne 27, 47, 71, 0, .null, []), (47, .aload_n 1, 48, 1, 0, .null, []), (48, .iload_n 2, 49, 2, 0, .null, []), (49, .iconst 1, 50, 0, 0, .int 1, []), (50, .iadd, 51, 0, 0, .null, []), (51, .invokevirtual 78, 54, 38, 34, .null, []), (54, .bipush 62, 56, 0, 0, .int 62, []), (56, .if_icmp .ne 15, 59, 71, 0, .null, []), (59, .aload_n 0, 60, 0, 0, .null, []), (60, .bipush 26, 62, 0, 0, .int 26, [])]),
  (81, [(62, .iload_n 2, 63, 2, 0, .null, []), (63, .lconst 0, 64, 0, 0, .long 0, []), (64, .invokevirtual 86, 67, 74, 100, .null, []), (67, .iload_n 2, 68, 2, 0, .null, []), (68, .iconst 2, 69, 0, 0, .int 2, []), (69, .iadd, 70, 0, 0, .null, []), (70, .ireturn, 71, 0, 0, .null, []), (71, .iload_n 3, 72, 3, 0, .null, []), (72, .invokestatic 110, 75, 73, 97, .null, []), (75, .istore 4, 77, 4, 0, .null, []), (77, .iload 4, 79, 4, 0, .null, []), (79, .bipush 28, 81, 0, 0, .int 28, [])]),
  (98, [(81, .if_icmp .ne 5, 84, 86, 0, .null, []), (84, .iload_n 2, 85, 2, 0, .null, []), (85, .ireturn, 86, 0, 0, .null, []), (86, .aload_n 0, 87, 0, 0, .null, []), (87, .iload 4, 89, 4, 0, .null, []), (89, .iload_n 2, 90, 2, 0, .null, []), (90, .lconst 0, 91, 0, 0, .long 0, []), (91, .invokevirtual 86, 94, 74, 100, .null, []), (94, .iload_n 2, 95, 2, 0, .null, []), (95, .iconst 1, 96, 0, 0, .int 1, []), (96, .iadd, 97, 0, 0, .null, []), (97, .ireturn, 98, 0, 0, .null, [])])]
theorem kX6_cutOne_ok : m_okC 6 cX6_cutOne kX6_cutOne = true := by decide +kernel
def kX6_cutName : mL := [(22, [(0, .iload_n 2, 1, 2, 0, .null, []), (1, .istore_n 3, 2, 3, 0, .null, []), (2, .iload_n 3, 3, 3, 0, .null, []), (3, .aload_n 1, 4, 1, 0, .null, []), (4, .getfield 84, 7, 2, 1, .null, []), (7, .if_icmp .ge 31, 10, 38, 0, .null, []), (10, .aload_n 1, 11, 1, 0, .null, []), (11, .iload_n 3, 12, 3, 0, .null, []), (12, .invokevirtual 78, 15, 38, 34, .null, []), (15, .invokestatic 94, 18, 70, 97, .null, []), (18, .ifCond .ne 14, 21, 32, 0, .null, []), (21, .aload_n 1, 22, 1, 0, .null, [])]),
  (47, [(22, .iload_n 3, 23, 3, 0, .null, []), (23, .invokevirtual 78, 26, 38, 34, .null, []), (26, .invokestatic 101, 29, 71, 97, .null, []), (29, .ifCond .eq 9, 32, 38, 0, .null, []), (32, .iinc 3 1, 35, 3, 0, .int 1, []), (35, .goto (-33), 38, 2, 0, .null, []), (38, .iload_n 3, 39, 3, 0, .null, []), (39, .iload_n 2, 40, 2, 0, .null, []), (40, .isub, 41, 0, 0, .null, []), (41, .bipush 8, 43, 0, 0, .int 8, []), (43, .if_icmp .le 5, 46, 48, 0, .null, []), (46, .iload_n 2, 47, 2, 0, .null, [])]),
  (66, [(47, .ireturn, 48, 0, 0, .null, []), (48, .aload_n 1, 49, 1, 0, .null, []), (49, .iload_n 2, 50, 2, 0, .null, []), (50, .iload_n 3, 51, 3, 0, .null, []), (51, .invokevirtual 113, 54, 40, 35, .null, []), (54, .lstore 4, 56, 4, 0, .null, []), (56, .aload_n 0, 57, 0, 0, .null, []), (57, .aload_n 0, 58, 0, 0, .null, []), (58, .lload 4, 60, 4, 0, .null, []), (60, .invokevirtual 117, 63, 67, 98, .null, []), (63, .iload_n 2, 64, 2, 0, .null, []), (64, .lload 4, 66, 4, 0, .null, [])]),
  (71, [(66, .invokevirtual 86, 69, 74, 100, .null, []), (69, .iload_n 3, 70, 3, 0, .null, []), (70, .ireturn, 71, 0, 0, .null, [])])]
theorem kX6_cutName_ok : m_okC 6 cX6_cutName kX6_cutName = true := by decide +kernel
def kX6_nameKind : mL := [(18, [(0, .iconst 0, 1, 0, 0, .int 0, []), (1, .istore_n 3, 2, 3, 0, .null, []), (2, .iload_n 3, 3, 3, 0, .null, []), (3, .aload_n 0, 4, 0, 0, .null, []), (4, .getfield 57, 7, 6, 3, .null, []), (7, .arraylength, 8, 0, 0, .null, []), (8, .if_icmp .ge 24, 11, 32, 0, .null, []), (11, .aload_n 0, 12, 0, 0, .null, []), (12, .getfield 57, 15, 6, 3, .null, []), (15, .iload_n 3, 16, 3, 0, .null, []), (16, .laload, 17, 0, 0, .null, []), (17, .lload_n 1, 18, 1, 0, .null, [])]),
  (35, [(18, .lcmp, 19, 0, 0, .null, []), (19, .ifCond .ne 7, 22, 26, 0, .null, []), (22, .iconst 1, 23, 0, 0, .int 1, []), (23, .iload_n 3, 24, 3, 0, .null, []), (24, .iadd, 25, 0, 0, .null, []), (25, .ireturn, 26, 0, 0, .null, []), (26, .iinc 3 1, 29, 3, 0, .int 1, []), (29, .goto (-27), 32, 2, 0, .null, []), (32, .bipush 16, 34, 0, 0, .int 16, []), (34, .ireturn, 35, 0, 0, .null, [])])]
theorem kX6_nameKind_ok : m_okC 6 cX6_nameKind kX6_nameKind = true := by decide +kernel
def kX6_cutNumber : mL := [(21, [(0, .iload_n 2, 1, 2, 0, .null, []), (1, .istore_n 3, 2, 3, 0, .null, []), (2, .lconst 0, 3, 0, 0, .long 0, []), (3, .lstore 4, 5, 4, 0, .null, []), (5, .iload_n 3, 6, 3, 0, .null, []), (6, .aload_n 1, 7, 1, 0, .null, []), (7, .getfield 84, 10, 2, 1, .null, []), (10, .if_icmp .ge 38, 13, 48, 0, .null, []), (13, .aload_n 1, 14, 1, 0, .null, []), (14, .iload_n 3, 15, 3, 0, .null, []), (15, .invokevirtual 78, 18, 38, 34, .null, []), (18, .invokestatic 101, 21, 71, 97, .null, [])]),
  (42, [(21, .ifCond .eq 27, 24, 48, 0, .null, []), (24, .ldc2_w 121, 27, 0, 0, .long 10, []), (27, .lload 4, 29, 4, 0, .null, []), (29, .lmul, 30, 0, 0, .null, []), (30, .aload_n 1, 31, 1, 0, .null, []), (31, .iload_n 3, 32, 3, 0, .null, []), (32, .invokevirtual 78, 35, 38, 34, .null, []), (35, .bipush 48, 37, 0, 0, .int 48, []), (37, .isub, 38, 0, 0, .null, []), (38, .i2l, 39, 0, 0, .null, []), (39, .ladd, 40, 0, 0, .null, []), (40, .lstore 4, 42, 4, 0, .null, [])]),
  (62, [(42, .iinc 3 1, 45, 3, 0, .int 1, []), (45, .goto (-40), 48, 5, 0, .null, []), (48, .iload_n 3, 49, 3, 0, .null, []), (49, .iload_n 2, 50, 2, 0, .null, []), (50, .isub, 51, 0, 0, .null, []), (51, .bipush 9, 53, 0, 0, .int 9, []), (53, .if_icmp .le 5, 56, 58, 0, .null, []), (56, .iload_n 2, 57, 2, 0, .null, []), (57, .ireturn, 58, 0, 0, .null, []), (58, .aload_n 0, 59, 0, 0, .null, []), (59, .bipush 17, 61, 0, 0, .int 17, []), (61, .iload_n 2, 62, 2, 0, .null, [])]),
  (69, [(62, .lload 4, 64, 4, 0, .null, []), (64, .invokevirtual 86, 67, 74, 100, .null, []), (67, .iload_n 3, 68, 3, 0, .null, []), (68, .ireturn, 69, 0, 0, .null, [])])]
theorem kX6_cutNumber_ok : m_okC 6 cX6_cutNumber kX6_cutNumber = true := by decide +kernel
def kX6_cutText : mL := [(20, [(0, .iload_n 2, 1, 2, 0, .null, []), (1, .iconst 1, 2, 0, 0, .int 1, []), (2, .iadd, 3, 0, 0, .null, []), (3, .istore_n 3, 4, 3, 0, .null, []), (4, .iload_n 3, 5, 3, 0, .null, []), (5, .aload_n 1, 6, 1, 0, .null, []), (6, .getfield 84, 9, 2, 1, .null, []), (9, .if_icmp .ge 20, 12, 29, 0, .null, []), (12, .aload_n 1, 13, 1, 0, .null, []), (13, .iload_n 3, 14, 3, 0, .null, []), (14, .invokevirtual 78, 17, 38, 34, .null, []), (17, .invokestatic 123, 20, 72, 97, .null, [])]),
  (43, [(20, .ifCond .eq 9, 23, 29, 0, .null, []), (23, .iinc 3 1, 26, 3, 0, .int 1, []), (26, .goto (-22), 29, 4, 0, .null, []), (29, .aload_n 1, 30, 1, 0, .null, []), (30, .iload_n 3, 31, 3, 0, .null, []), (31, .invokevirtual 78, 34, 38, 34, .null, []), (34, .bipush 34, 36, 0, 0, .int 34, []), (36, .if_icmp .ne 13, 39, 49, 0, .null, []), (39, .iload_n 3, 40, 3, 0, .null, []), (40, .iload_n 2, 41, 2, 0, .null, []), (41, .isub, 42, 0, 0, .null, []), (42, .iconst 1, 43, 0, 0, .int 1, [])]),
  (59, [(43, .isub, 44, 0, 0, .null, []), (44, .bipush 8, 46, 0, 0, .int 8, []), (46, .if_icmp .le 5, 49, 51, 0, .null, []), (49, .iload_n 2, 50, 2, 0, .null, []), (50, .ireturn, 51, 0, 0, .null, []), (51, .aload_n 0, 52, 0, 0, .null, []), (52, .bipush 18, 54, 0, 0, .int 18, []), (54, .iload_n 2, 55, 2, 0, .null, []), (55, .aload_n 1, 56, 1, 0, .null, []), (56, .iload_n 2, 57, 2, 0, .null, []), (57, .iconst 1, 58, 0, 0, .int 1, []), (58, .iadd, 59, 0, 0, .null, [])]),
  (70, [(59, .iload_n 3, 60, 3, 0, .null, []), (60, .invokevirtual 113, 63, 40, 35, .null, []), (63, .invokevirtual 86, 66, 74, 100, .null, []), (66, .iload_n 3, 67, 3, 0, .null, []), (67, .iconst 1, 68, 0, 0, .int 1, []), (68, .iadd, 69, 0, 0, .null, []), (69, .ireturn, 70, 0, 0, .null, [])])]
theorem kX6_cutText_ok : m_okC 6 cX6_cutText kX6_cutText = true := by decide +kernel
def kX6_isSmall : mL := [(18, [(0, .iload_n 0, 1, 0, 0, .null, []), (1, .bipush 97, 3, 0, 0, .int 97, []), (3, .if_icmp .lt 13, 6, 16, 0, .null, []), (6, .iload_n 0, 7, 0, 0, .null, []), (7, .bipush 122, 9, 0, 0, .int 122, []), (9, .if_icmp .gt 7, 12, 16, 0, .null, []), (12, .iconst 1, 13, 0, 0, .int 1, []), (13, .goto 4, 16, 17, 0, .null, []), (16, .iconst 0, 17, 0, 0, .int 0, []), (17, .ireturn, 18, 0, 0, .null, [])])]
theorem kX6_isSmall_ok : m_okC 6 cX6_isSmall kX6_isSmall = true := by decide +kernel
def kX6_isFigure : mL := [(18, [(0, .iload_n 0, 1, 0, 0, .null, []), (1, .bipush 48, 3, 0, 0, .int 48, []), (3, .if_icmp .lt 13, 6, 16, 0, .null, []), (6, .iload_n 0, 7, 0, 0, .null, []), (7, .bipush 57, 9, 0, 0, .int 57, []), (9, .if_icmp .gt 7, 12, 16, 0, .null, []), (12, .iconst 1, 13, 0, 0, .int 1, []), (13, .goto 4, 16, 17, 0, .null, []), (16, .iconst 0, 17, 0, 0, .int 0, []), (17, .ireturn, 18, 0, 0, .null, [])])]
theorem kX6_isFigure_ok : m_okC 6 cX6_isFigure kX6_isFigure = true := by decide +kernel
def kX6_isTextSign : mL := [(26, [(0, .iload_n 0, 1, 0, 0, .null, []), (1, .invokestatic 94, 4, 70, 97, .null, []), (4, .ifCond .ne 22, 7, 26, 0, .null, []), (7, .iload_n 0, 8, 0, 0, .null, []), (8, .invokestatic 101, 11, 71, 97, .null, []), (11, .ifCond .ne 15, 14, 26, 0, .null, []), (14, .iload_n 0, 15, 0, 0, .null, []), (15, .bipush 65, 17, 0, 0, .int 65, []), (17, .if_icmp .lt 13, 20, 30, 0, .null, []), (20, .iload_n 0, 21, 0, 0, .null, []), (21, .bipush 90, 23, 0, 0, .int 90, []), (23, .if_icmp .gt 7, 26, 30, 0, .null, [])]),
  (32, [(26, .iconst 1, 27, 0, 0, .int 1, []), (27, .goto 4, 30, 31, 0, .null, []), (30, .iconst 0, 31, 0, 0, .int 0, []), (31, .ireturn, 32, 0, 0, .null, [])])]
theorem kX6_isTextSign_ok : m_okC 6 cX6_isTextSign kX6_isTextSign = true := by decide +kernel
def kX6_signKind : mL := [(83, [(0, .iload_n 0, 1, 0, 0, .null, []), (1, .lookupswitch 88 #[(44, 79), (45, 85), (58, 73), (59, 76), (61, 82), (123, 67), (125, 70)], 68, 89, 0, .null, [(44, 80), (45, 86), (58, 74), (59, 77), (61, 83), (123, 68), (125, 71)]), (68, .bipush 19, 70, 0, 0, .int 19, []), (70, .ireturn, 71, 0, 0, .null, []), (71, .bipush 20, 73, 0, 0, .int 20, []), (73, .ireturn, 74, 0, 0, .null, []), (74, .bipush 21, 76, 0, 0, .int 21, []), (76, .ireturn, 77, 0, 0, .null, []), (77, .bipush 22, 79, 0, 0, .int 22, []), (79, .ireturn, 80, 0, 0, .null, []), (80, .bipush 23, 82, 0, 0, .int 23, []), (82, .ireturn, 83, 0, 0, .null, [])]),
  (92, [(83, .bipush 24, 85, 0, 0, .int 24, []), (85, .ireturn, 86, 0, 0, .null, []), (86, .bipush 25, 88, 0, 0, .int 25, []), (88, .ireturn, 89, 0, 0, .null, []), (89, .bipush 28, 91, 0, 0, .int 28, []), (91, .ireturn, 92, 0, 0, .null, [])])]
theorem kX6_signKind_ok : m_okC 6 cX6_signKind kX6_signKind = true := by decide +kernel
def kX6_keep : mL := [(22, [(0, .aload_n 0, 1, 0, 0, .null, []), (1, .getfield 70, 4, 6, 4, .null, []), (4, .sipush 3001, 7, 0, 0, .int 3001, []), (7, .if_icmp .lt 4, 10, 11, 0, .null, []), (10, .return_, 11, 0, 0, .null, []), (11, .aload_n 0, 12, 0, 0, .null, []), (12, .getfield 9, 15, 6, 0, .null, []), (15, .aload_n 0, 16, 0, 0, .null, []), (16, .getfield 70, 19, 6, 4, .null, []), (19, .iload_n 1, 20, 1, 0, .null, []), (20, .i2b, 21, 0, 0, .null, []), (21, .bastore, 22, 0, 0, .null, [])]),
  (42, [(22, .aload_n 0, 23, 0, 0, .null, []), (23, .getfield 15, 26, 6, 1, .null, []), (26, .aload_n 0, 27, 0, 0, .null, []), (27, .getfield 70, 30, 6, 4, .null, []), (30, .iload_n 2, 31, 2, 0, .null, []), (31, .i2s, 32, 0, 0, .null, []), (32, .sastore, 33, 0, 0, .null, []), (33, .aload_n 0, 34, 0, 0, .null, []), (34, .getfield 19, 37, 6, 2, .null, []), (37, .aload_n 0, 38, 0, 0, .null, []), (38, .getfield 70, 41, 6, 4, .null, []), (41, .lload_n 3, 42, 3, 0, .null, [])]),
  (54, [(42, .lastore, 43, 0, 0, .null, []), (43, .aload_n 0, 44, 0, 0, .null, []), (44, .dup, 45, 0, 0, .null, []), (45, .getfield 70, 48, 6, 4, .null, []), (48, .iconst 1, 49, 0, 0, .int 1, []), (49, .iadd, 50, 0, 0, .null, []), (50, .putfield 70, 53, 6, 4, .null, []), (53, .return_, 54, 0, 0, .null, [])])]
theorem kX6_keep_ok : m_okC 6 cX6_keep kX6_keep = true := by decide +kernel
def kX8_init : mL := [(26, [(0, .aload_n 0, 1, 0, 0, .null, []), (1, .invokespecial 3, 4, 999, 1, .null, []), (4, .aload_n 0, 5, 0, 0, .null, []), (5, .new 9, 8, 2, 0, .null, []), (8, .dup, 9, 0, 0, .null, []), (9, .invokespecial 11, 12, 37, 33, .null, []), (12, .putfield 12, 15, 8, 0, .null, []), (15, .aload_n 0, 16, 0, 0, .null, []), (16, .new 16, 19, 6, 0, .null, []), (19, .dup, 20, 0, 0, .null, []), (20, .invokespecial 18, 23, 61, 97, .null, []), (23, .putfield 19, 26, 8, 1, .null, [])]),
  (50, [(26, .aload_n 0, 27, 0, 0, .null, []), (27, .new 23, 30, 7, 0, .null, []), (30, .dup, 31, 0, 0, .null, []), (31, .invokespecial 25, 34, 75, 113, .null, []), (34, .putfield 26, 37, 8, 2, .null, []), (37, .aload_n 0, 38, 0, 0, .null, []), (38, .new 30, 41, 1, 0, .null, []), (41, .dup, 42, 0, 0, .null, []), (42, .aload_n 0, 43, 0, 0, .null, []), (43, .getfield 19, 46, 8, 1, .null, []), (46, .aload_n 0, 47, 0, 0, .null, []), (47, .getfield 26, 50, 8, 2, .null, [])]),
  (78, [(50, .invokespecial 32, 53, 3, 19, .null, []), (53, .putfield 35, 56, 8, 3, .null, []), (56, .aload_n 0, 57, 0, 0, .null, []), (57, .new 39, 60, 5, 0, .null, []), (60, .dup, 61, 0, 0, .null, []), (61, .invokespecial 41, 64, 56, 81, .null, []), (64, .putfield 42, 67, 8, 4, .null, []), (67, .aload_n 0, 68, 0, 0, .null, []), (68, .new 46, 71, 3, 0, .null, []), (71, .dup, 72, 0, 0, .null, []), (72, .invokespecial 48, 75, 43, 49, .null, []), (75, .putfield 49, 78, 8, 5, .null, [])]),
  (79, [(78, .return_, 79, 0, 0, .null, [])])]
theorem kX8_init_ok : m_okC 8 cX8_init kX8_init = true := by decide +kernel
def kX8_type : mL := [(22, [(0, .iload_n 3, 1, 3, 0, .null, []), (1, .ifCond .lt 9, 4, 10, 0, .null, []), (4, .iload_n 3, 5, 3, 0, .null, []), (5, .bipush 8, 7, 0, 0, .int 8, []), (7, .if_icmp .le 6, 10, 13, 0, .null, []), (10, .bipush (-2), 12, 0, 0, .int (-2), []), (12, .ireturn, 13, 0, 0, .null, []), (13, .iload_n 3, 14, 3, 0, .null, []), (14, .ifCond .ne 13, 17, 27, 0, .null, []), (17, .aload_n 0, 18, 0, 0, .null, []), (18, .getfield 12, 21, 8, 0, .null, []), (21, .iconst 0, 22, 0, 0, .int 0, [])]),
  (43, [(22, .putfield 53, 25, 2, 1, .null, []), (25, .iconst 0, 26, 0, 0, .int 0, []), (26, .ireturn, 27, 0, 0, .null, []), (27, .aload_n 0, 28, 0, 0, .null, []), (28, .getfield 12, 31, 8, 0, .null, []), (31, .lload_n 1, 32, 1, 0, .null, []), (32, .iload_n 3, 33, 3, 0, .null, []), (33, .invokevirtual 57, 36, 39, 35, .null, []), (36, .ifCond .ne 6, 39, 42, 0, .null, []), (39, .bipush (-4), 41, 0, 0, .int (-4), []), (41, .ireturn, 42, 0, 0, .null, []), (42, .aload_n 0, 43, 0, 0, .null, [])]),
  (50, [(43, .getfield 12, 46, 8, 0, .null, []), (46, .getfield 53, 49, 2, 1, .null, []), (49, .ireturn, 50, 0, 0, .null, [])])]
theorem kX8_type_ok : m_okC 8 cX8_type kX8_type = true := by decide +kernel
def kX8_read : mL := [(26, [(0, .aload_n 0, 1, 0, 0, .null, []), (1, .getfield 19, 4, 8, 1, .null, []), (4, .aload_n 0, 5, 0, 0, .null, []), (5, .getfield 12, 8, 8, 0, .null, []), (8, .invokevirtual 61, 11, 63, 98, .null, []), (11, .aload_n 0, 12, 0, 0, .null, []), (12, .getfield 12, 15, 8, 0, .null, []), (15, .iconst 0, 16, 0, 0, .int 0, []), (16, .putfield 53, 19, 2, 1, .null, []), (19, .aload_n 0, 20, 0, 0, .null, []), (20, .getfield 49, 23, 8, 5, .null, []), (23, .invokevirtual 65, 26, 44, 49, .null, [])]),
  (54, [(26, .aload_n 0, 27, 0, 0, .null, []), (27, .getfield 35, 30, 8, 3, .null, []), (30, .invokevirtual 68, 33, 4, 17, .null, []), (33, .aload_n 0, 34, 0, 0, .null, []), (34, .getfield 35, 37, 8, 3, .null, []), (37, .invokevirtual 71, 40, 9, 17, .null, []), (40, .aload_n 0, 41, 0, 0, .null, []), (41, .getfield 35, 44, 8, 3, .null, []), (44, .invokevirtual 74, 47, 16, 17, .null, []), (47, .aload_n 0, 48, 0, 0, .null, []), (48, .getfield 35, 51, 8, 3, .null, []), (51, .invokevirtual 77, 54, 18, 17, .null, [])]),
  (80, [(54, .aload_n 0, 55, 0, 0, .null, []), (55, .getfield 35, 58, 8, 3, .null, []), (58, .invokevirtual 80, 61, 36, 17, .null, []), (61, .aload_n 0, 62, 0, 0, .null, []), (62, .getfield 26, 65, 8, 2, .null, []), (65, .aload_n 0, 66, 0, 0, .null, []), (66, .getfield 35, 69, 8, 3, .null, []), (69, .getfield 83, 72, 1, 9, .null, []), (72, .ifCond .ne 7, 75, 79, 0, .null, []), (75, .iconst 1, 76, 0, 0, .int 1, []), (76, .goto 4, 79, 80, 0, .null, []), (79, .iconst 0, 80, 0, 0, .int 0, [])]),
  (108, [(80, .putfield 86, 83, 7, 0, .null, []), (83, .aload_n 0, 84, 0, 0, .null, []), (84, .getfield 42, 87, 8, 4, .null, []), (87, .aload_n 0, 88, 0, 0, .null, []), (88, .getfield 26, 91, 8, 2, .null, []), (91, .invokevirtual 90, 94, 57, 82, .null, []), (94, .aload_n 0, 95, 0, 0, .null, []), (95, .getfield 26, 98, 8, 2, .null, []), (98, .getfield 86, 101, 7, 0, .null, []), (101, .ifCond .eq 13, 104, 114, 0, .null, []), (104, .aload_n 0, 105, 0, 0, .null, []), (105, .getfield 26, 108, 8, 2, .null, [])]),
  (125, [(108, .getfield 94, 111, 7, 4, .null, []), (111, .goto 13, 114, 124, 0, .null, []), (114, .bipush (-10), 116, 0, 0, .int (-10), []), (116, .aload_n 0, 117, 0, 0, .null, []), (117, .getfield 35, 120, 8, 3, .null, []), (120, .getfield 83, 123, 1, 9, .null, []), (123, .isub, 124, 0, 0, .null, []), (124, .ireturn, 125, 0, 0, .null, [])])]
theorem kX8_read_ok : m_okC 8 cX8_read kX8_read = true := by decide +kernel
def kX8_place : mL := [(8, [(0, .aload_n 0, 1, 0, 0, .null, []), (1, .getfield 35, 4, 8, 3, .null, []), (4, .getfield 96, 7, 1, 10, .null, []), (7, .ireturn, 8, 0, 0, .null, [])])]
theorem kX8_place_ok : m_okC 8 cX8_place kX8_place = true := by decide +kernel
def kX8_told : mL := [(25, [(0, .iload_n 1, 1, 1, 0, .null, []), (1, .ifCond .lt 9, 4, 10, 0, .null, []), (4, .iload_n 1, 5, 1, 0, .null, []), (5, .bipush 7, 7, 0, 0, .int 7, []), (7, .if_icmp .le 6, 10, 13, 0, .null, []), (10, .bipush (-2), 12, 0, 0, .int (-2), []), (12, .ireturn, 13, 0, 0, .null, []), (13, .aload_n 0, 14, 0, 0, .null, []), (14, .getfield 26, 17, 8, 2, .null, []), (17, .getfield 86, 20, 7, 0, .null, []), (20, .ifCond .ne 6, 23, 26, 0, .null, []), (23, .bipush (-3), 25, 0, 0, .int (-3), [])]),
  (85, [(25, .ireturn, 26, 0, 0, .null, []), (26, .iload_n 1, 27, 1, 0, .null, []), (27, .tableswitch 113 0 6 #[41, 57, 65, 73, 81, 89, 97], 68, 140, 0, .null, [(0, 68), (1, 84), (2, 92), (3, 100), (4, 108), (5, 116), (6, 124)]), (68, .aload_n 0, 69, 0, 0, .null, []), (69, .getfield 26, 72, 8, 2, .null, []), (72, .getfield 99, 75, 7, 1, .null, []), (75, .ifCond .eq 7, 78, 82, 0, .null, []), (78, .iconst 1, 79, 0, 0, .int 1, []), (79, .goto 4, 82, 83, 0, .null, []), (82, .iconst 0, 83, 0, 0, .int 0, []), (83, .ireturn, 84, 0, 0, .null, []), (84, .aload_n 0, 85, 0, 0, .null, [])]),
  (109, [(85, .getfield 26, 88, 8, 2, .null, []), (88, .getfield 102, 91, 7, 2, .null, []), (91, .ireturn, 92, 0, 0, .null, []), (92, .aload_n 0, 93, 0, 0, .null, []), (93, .getfield 26, 96, 8, 2, .null, []), (96, .getfield 94, 99, 7, 4, .null, []), (99, .ireturn, 100, 0, 0, .null, []), (100, .aload_n 0, 101, 0, 0, .null, []), (101, .getfield 26, 104, 8, 2, .null, []), (104, .getfield 105, 107, 7, 5, .null, []), (107, .ireturn, 108, 0, 0, .null, []), (108, .aload_n 0, 109, 0, 0, .null, [])]),
  (135, [(109, .getfield 26, 112, 8, 2, .null, []), (112, .getfield 108, 115, 7, 6, .null, []), (115, .ireturn, 116, 0, 0, .null, []), (116, .aload_n 0, 117, 0, 0, .null, []), (117, .getfield 26, 120, 8, 2, .null, []), (120, .getfield 111, 123, 7, 7, .null, []), (123, .ireturn, 124, 0, 0, .null, []), (124, .aload_n 0, 125, 0, 0, .null, []), (125, .getfield 26, 128, 8, 2, .null, []), (128, .getfield 114, 131, 7, 8, .null, []), (131, .ifCond .eq 7, 134, 138, 0, .null, []), (134, .iconst 1, 135, 0, 0, .int 1, [])]),
  (148, [(135, .goto 4, 138, 139, 0, .null, []), (138, .iconst 0, 139, 0, 0, .int 0, []), (139, .ireturn, 140, 0, 0, .null, []), (140, .aload_n 0, 141, 0, 0, .null, []), (141, .getfield 26, 144, 8, 2, .null, []), (144, .getfield 117, 147, 7, 3, .null, []), (147, .ireturn, 148, 0, 0, .null, [])])]
theorem kX8_told_ok : m_okC 8 cX8_told kX8_told = true := by decide +kernel
def kX8_label : mL := [(25, [(0, .aload_n 0, 1, 0, 0, .null, []), (1, .getfield 26, 4, 8, 2, .null, []), (4, .getfield 86, 7, 7, 0, .null, []), (7, .ifCond .ne 6, 10, 13, 0, .null, []), (10, .bipush (-3), 12, 0, 0, .int (-3), []), (12, .ireturn, 13, 0, 0, .null, []), (13, .iload_n 1, 14, 1, 0, .null, []), (14, .ifCond .lt 20, 17, 34, 0, .null, []), (17, .iload_n 1, 18, 1, 0, .null, []), (18, .aload_n 0, 19, 0, 0, .null, []), (19, .getfield 26, 22, 8, 2, .null, []), (22, .getfield 105, 25, 7, 5, .null, [])]),
  (47, [(25, .if_icmp .ge 9, 28, 34, 0, .null, []), (28, .iload_n 1, 29, 1, 0, .null, []), (29, .bipush 32, 31, 0, 0, .int 32, []), (31, .if_icmp .lt 5, 34, 36, 0, .null, []), (34, .iconst (-1), 35, 0, 0, .int (-1), []), (35, .ireturn, 36, 0, 0, .null, []), (36, .iload_n 2, 37, 2, 0, .null, []), (37, .ifCond .lt 8, 40, 45, 0, .null, []), (40, .iload_n 2, 41, 2, 0, .null, []), (41, .iconst 1, 42, 0, 0, .int 1, []), (42, .if_icmp .le 6, 45, 48, 0, .null, []), (45, .bipush (-2), 47, 0, 0, .int (-2), [])]),
  (71, [(47, .ireturn, 48, 0, 0, .null, []), (48, .iload_n 2, 49, 2, 0, .null, []), (49, .ifCond .ne 15, 52, 64, 0, .null, []), (52, .aload_n 0, 53, 0, 0, .null, []), (53, .getfield 26, 56, 8, 2, .null, []), (56, .getfield 120, 59, 7, 10, .null, []), (59, .iload_n 1, 60, 1, 0, .null, []), (60, .iaload, 61, 0, 0, .null, []), (61, .goto 12, 64, 73, 0, .null, []), (64, .aload_n 0, 65, 0, 0, .null, []), (65, .getfield 26, 68, 8, 2, .null, []), (68, .getfield 124, 71, 7, 11, .null, [])]),
  (74, [(71, .iload_n 1, 72, 1, 0, .null, []), (72, .iaload, 73, 0, 0, .null, []), (73, .ireturn, 74, 0, 0, .null, [])])]
theorem kX8_label_ok : m_okC 8 cX8_label kX8_label = true := by decide +kernel
def kX8_run : mL := [(25, [(0, .aload_n 0, 1, 0, 0, .null, []), (1, .getfield 26, 4, 8, 2, .null, []), (4, .getfield 86, 7, 7, 0, .null, []), (7, .ifCond .ne 6, 10, 13, 0, .null, []), (10, .bipush (-3), 12, 0, 0, .int (-3), []), (12, .ireturn, 13, 0, 0, .null, []), (13, .aload_n 0, 14, 0, 0, .null, []), (14, .getfield 26, 17, 8, 2, .null, []), (17, .getfield 102, 20, 7, 2, .null, []), (20, .iconst 2, 21, 0, 0, .int 2, []), (21, .if_icmp .ne 10, 24, 31, 0, .null, []), (24, .iload_n 1, 25, 1, 0, .null, [])]),
  (50, [(25, .ifCond .ge 6, 28, 31, 0, .null, []), (28, .bipush (-2), 30, 0, 0, .int (-2), []), (30, .ireturn, 31, 0, 0, .null, []), (31, .aload_n 0, 32, 0, 0, .null, []), (32, .getfield 26, 35, 8, 2, .null, []), (35, .aload_n 0, 36, 0, 0, .null, []), (36, .getfield 26, 39, 8, 2, .null, []), (39, .getfield 102, 42, 7, 2, .null, []), (42, .iconst 1, 43, 0, 0, .int 1, []), (43, .if_icmp .ne 13, 46, 56, 0, .null, []), (46, .aload_n 0, 47, 0, 0, .null, []), (47, .getfield 12, 50, 8, 0, .null, [])]),
  (74, [(50, .invokevirtual 127, 53, 41, 33, .null, []), (53, .goto 5, 56, 58, 0, .null, []), (56, .iload_n 1, 57, 1, 0, .null, []), (57, .i2l, 58, 0, 0, .null, []), (58, .invokevirtual 131, 61, 83, 114, .null, []), (61, .istore_n 3, 62, 3, 0, .null, []), (62, .aload_n 0, 63, 0, 0, .null, []), (63, .getfield 49, 66, 8, 5, .null, []), (66, .invokevirtual 135, 69, 45, 49, .null, []), (69, .iload_n 3, 70, 3, 0, .null, []), (70, .ifCond .ge 19, 73, 89, 0, .null, []), (73, .aload_n 0, 74, 0, 0, .null, [])]),
  (100, [(74, .getfield 26, 77, 8, 2, .null, []), (77, .getfield 99, 80, 7, 1, .null, []), (80, .ifCond .eq 7, 83, 87, 0, .null, []), (83, .iconst 5, 84, 0, 0, .int 5, []), (84, .goto 4, 87, 88, 0, .null, []), (87, .iconst 1, 88, 0, 0, .int 1, []), (88, .ireturn, 89, 0, 0, .null, []), (89, .aload_n 0, 90, 0, 0, .null, []), (90, .getfield 49, 93, 8, 5, .null, []), (93, .aload_n 0, 94, 0, 0, .null, []), (94, .getfield 26, 97, 8, 2, .null, []), (97, .getfield 136, 100, 7, 13, .null, [])]),
  (113, [(100, .aload_n 0, 101, 0, 0, .null, []), (101, .getfield 26, 104, 8, 2, .null, []), (104, .iload_n 3, 105, 3, 0, .null, []), (105, .invokevirtual 140, 108, 78, 114, .null, []), (108, .iload_n 2, 109, 2, 0, .null, []), (109, .invokevirtual 144, 112, 46, 52, .null, []), (112, .ireturn, 113, 0, 0, .null, [])])]
theorem kX8_run_ok : m_okC 8 cX8_run kX8_run = true := by decide +kernel
def kX8_runNone : mL := [(22, [(0, .aload_n 0, 1, 0, 0, .null, []), (1, .getfield 26, 4, 8, 2, .null, []), (4, .getfield 86, 7, 7, 0, .null, []), (7, .ifCond .ne 6, 10, 13, 0, .null, []), (10, .bipush (-3), 12, 0, 0, .int (-3), []), (12, .ireturn, 13, 0, 0, .null, []), (13, .aload_n 0, 14, 0, 0, .null, []), (14, .getfield 49, 17, 8, 5, .null, []), (17, .invokevirtual 135, 20, 45, 49, .null, []), (20, .iconst 4, 21, 0, 0, .int 4, []), (21, .ireturn, 22, 0, 0, .null, [])])]
theorem kX8_runNone_ok : m_okC 8 cX8_runNone kX8_runNone = true := by decide +kernel
def kX8_traced : mL := [(23, [(0, .aload_n 0, 1, 0, 0, .null, []), (1, .getfield 49, 4, 8, 5, .null, []), (4, .getfield 148, 7, 3, 4, .null, []), (7, .ifCond .eq 13, 10, 20, 0, .null, []), (10, .aload_n 0, 11, 0, 0, .null, []), (11, .getfield 49, 14, 8, 5, .null, []), (14, .getfield 151, 17, 3, 2, .null, []), (17, .goto 5, 20, 22, 0, .null, []), (20, .bipush (-3), 22, 0, 0, .int (-3), []), (22, .ireturn, 23, 0, 0, .null, [])])]
theorem kX8_traced_ok : m_okC 8 cX8_traced kX8_traced = true := by decide +kernel
def kX8_trace : mL := [(25, [(0, .iload_n 1, 1, 1, 0, .null, []), (1, .ifCond .lt 32, 4, 33, 0, .null, []), (4, .iload_n 1, 5, 1, 0, .null, []), (5, .aload_n 0, 6, 0, 0, .null, []), (6, .getfield 49, 9, 8, 5, .null, []), (9, .getfield 151, 12, 3, 2, .null, []), (12, .if_icmp .ge 21, 15, 33, 0, .null, []), (15, .iload_n 1, 16, 1, 0, .null, []), (16, .bipush 120, 18, 0, 0, .int 120, []), (18, .if_icmp .ge 15, 21, 33, 0, .null, []), (21, .aload_n 0, 22, 0, 0, .null, []), (22, .getfield 49, 25, 8, 5, .null, [])]),
  (35, [(25, .getfield 154, 28, 3, 0, .null, []), (28, .iload_n 1, 29, 1, 0, .null, []), (29, .iaload, 30, 0, 0, .null, []), (30, .goto 4, 33, 34, 0, .null, []), (33, .iconst 0, 34, 0, 0, .int 0, []), (34, .ireturn, 35, 0, 0, .null, [])])]
theorem kX8_trace_ok : m_okC 8 cX8_trace kX8_trace = true := by decide +kernel
def kX8_value : mL := [(8, [(0, .aload_n 0, 1, 0, 0, .null, []), (1, .getfield 49, 4, 8, 5, .null, []), (4, .getfield 157, 7, 3, 3, .null, []), (7, .ireturn, 8, 0, 0, .null, [])])]
theorem kX8_value_ok : m_okC 8 cX8_value kX8_value = true := by decide +kernel
def kX8_form : mL := [(27, [(0, .aload_n 0, 1, 0, 0, .null, []), (1, .getfield 26, 4, 8, 2, .null, []), (4, .getfield 86, 7, 7, 0, .null, []), (7, .ifCond .ne 6, 10, 13, 0, .null, []), (10, .bipush (-3), 12, 0, 0, .int (-3), []), (12, .ireturn, 13, 0, 0, .null, []), (13, .aload_n 0, 14, 0, 0, .null, []), (14, .getfield 42, 17, 8, 4, .null, []), (17, .invokevirtual 160, 20, 60, 81, .null, []), (20, .ifCond .eq 7, 23, 27, 0, .null, []), (23, .iconst 1, 24, 0, 0, .int 1, []), (24, .goto 4, 27, 28, 0, .null, [])]),
  (29, [(27, .iconst 2, 28, 0, 0, .int 2, []), (28, .ireturn, 29, 0, 0, .null, [])])]
theorem kX8_form_ok : m_okC 8 cX8_form kX8_form = true := by decide +kernel
def kX8_keys : mL := [(23, [(0, .aload_n 0, 1, 0, 0, .null, []), (1, .getfield 26, 4, 8, 2, .null, []), (4, .getfield 86, 7, 7, 0, .null, []), (7, .ifCond .eq 13, 10, 20, 0, .null, []), (10, .aload_n 0, 11, 0, 0, .null, []), (11, .getfield 42, 14, 8, 4, .null, []), (14, .getfield 164, 17, 5, 3, .null, []), (17, .goto 5, 20, 22, 0, .null, []), (20, .bipush (-3), 22, 0, 0, .int (-3), []), (22, .ireturn, 23, 0, 0, .null, [])])]
theorem kX8_keys_ok : m_okC 8 cX8_keys kX8_keys = true := by decide +kernel
def kX8_key : mL := [(24, [(0, .aload_n 0, 1, 0, 0, .null, []), (1, .getfield 42, 4, 8, 4, .null, []), (4, .iload_n 1, 5, 1, 0, .null, []), (5, .invokevirtual 167, 8, 59, 82, .null, []), (8, .ifCond .eq 15, 11, 23, 0, .null, []), (11, .aload_n 0, 12, 0, 0, .null, []), (12, .getfield 42, 15, 8, 4, .null, []), (15, .getfield 171, 18, 5, 0, .null, []), (18, .iload_n 1, 19, 1, 0, .null, []), (19, .iaload, 20, 0, 0, .null, []), (20, .goto 4, 23, 24, 0, .null, []), (23, .iconst 0, 24, 0, 0, .int 0, [])]),
  (25, [(24, .ireturn, 25, 0, 0, .null, [])])]
theorem kX8_key_ok : m_okC 8 cX8_key kX8_key = true := by decide +kernel
def kX8_target : mL := [(25, [(0, .aload_n 0, 1, 0, 0, .null, []), (1, .getfield 26, 4, 8, 2, .null, []), (4, .getfield 86, 7, 7, 0, .null, []), (7, .ifCond .ne 6, 10, 13, 0, .null, []), (10, .bipush (-3), 12, 0, 0, .int (-3), []), (12, .ireturn, 13, 0, 0, .null, []), (13, .aload_n 0, 14, 0, 0, .null, []), (14, .getfield 42, 17, 8, 4, .null, []), (17, .iload_n 1, 18, 1, 0, .null, []), (18, .invokevirtual 167, 21, 59, 82, .null, []), (21, .ifCond .eq 15, 24, 36, 0, .null, []), (24, .aload_n 0, 25, 0, 0, .null, [])]),
  (38, [(25, .getfield 42, 28, 8, 4, .null, []), (28, .getfield 174, 31, 5, 1, .null, []), (31, .iload_n 1, 32, 1, 0, .null, []), (32, .iaload, 33, 0, 0, .null, []), (33, .goto 4, 36, 37, 0, .null, []), (36, .iconst (-1), 37, 0, 0, .int (-1), []), (37, .ireturn, 38, 0, 0, .null, [])])]
theorem kX8_target_ok : m_okC 8 cX8_target kX8_target = true := by decide +kernel
def kX8_alike : mL := [(25, [(0, .aload_n 0, 1, 0, 0, .null, []), (1, .getfield 26, 4, 8, 2, .null, []), (4, .getfield 86, 7, 7, 0, .null, []), (7, .ifCond .ne 6, 10, 13, 0, .null, []), (10, .bipush (-3), 12, 0, 0, .int (-3), []), (12, .ireturn, 13, 0, 0, .null, []), (13, .aload_n 0, 14, 0, 0, .null, []), (14, .getfield 42, 17, 8, 4, .null, []), (17, .iload_n 1, 18, 1, 0, .null, []), (18, .invokevirtual 167, 21, 59, 82, .null, []), (21, .ifCond .eq 15, 24, 36, 0, .null, []), (24, .aload_n 0, 25, 0, 0, .null, [])]),
  (38, [(25, .getfield 42, 28, 8, 4, .null, []), (28, .getfield 177, 31, 5, 2, .null, []), (31, .iload_n 1, 32, 1, 0, .null, []), (32, .iaload, 33, 0, 0, .null, []), (33, .goto 4, 36, 37, 0, .null, []), (36, .iconst (-1), 37, 0, 0, .int (-1), []), (37, .ireturn, 38, 0, 0, .null, [])])]
theorem kX8_alike_ok : m_okC 8 cX8_alike kX8_alike = true := by decide +kernel
def kX8_hash : mL := [(8, [(0, .aload_n 0, 1, 0, 0, .null, []), (1, .getfield 12, 4, 8, 0, .null, []), (4, .invokevirtual 180, 7, 42, 33, .null, []), (7, .ireturn, 8, 0, 0, .null, [])])]
theorem kX8_hash_ok : m_okC 8 cX8_hash kX8_hash = true := by decide +kernel
end
section
def kX9_init : mL := [(23, [(0, .aload_n 0, 1, 0, 0, .null, []), (1, .invokespecial 1, 4, 999, 1, .null, []), (4, .aload_n 0, 5, 0, 0, .null, []), (5, .bipush 15, 7, 0, 0, .int 15, []), (7, .newarray .long, 9, 15, 0, .null, []), (9, .putfield 7, 12, 9, 0, .null, []), (12, .aload_n 0, 13, 0, 0, .null, []), (13, .sipush 3000, 16, 0, 0, .int 3000, []), (16, .newarray .byte, 18, 3000, 0, .null, []), (18, .putfield 13, 21, 9, 1, .null, []), (21, .aload_n 0, 22, 0, 0, .null, []), (22, .iconst (-1), 23, 0, 0, .int (-1), [])]),
  (45, [(23, .putfield 17, 26, 9, 10, .null, []), (26, .aload_n 0, 27, 0, 0, .null, []), (27, .iconst 4, 28, 0, 0, .int 4, []), (28, .newarray .long, 30, 4, 0, .null, []), (30, .putfield 21, 33, 9, 13, .null, []), (33, .aload_n 0, 34, 0, 0, .null, []), (34, .iconst 4, 35, 0, 0, .int 4, []), (35, .newarray .int, 37, 4, 0, .null, []), (37, .putfield 24, 40, 9, 14, .null, []), (40, .aload_n 0, 41, 0, 0, .null, []), (41, .bipush 64, 43, 0, 0, .int 64, []), (43, .newarray .long, 45, 64, 0, .null, [])]),
  (69, [(45, .putfield 28, 48, 9, 15, .null, []), (48, .aload_n 0, 49, 0, 0, .null, []), (49, .bipush 21, 51, 0, 0, .int 21, []), (51, .newarray .int, 53, 21, 0, .null, []), (53, .putfield 31, 56, 9, 20, .null, []), (56, .aload_n 0, 57, 0, 0, .null, []), (57, .bipush 32, 59, 0, 0, .int 32, []), (59, .newarray .int, 61, 32, 0, .null, []), (61, .putfield 34, 64, 9, 22, .null, []), (64, .aload_n 0, 65, 0, 0, .null, []), (65, .bipush 32, 67, 0, 0, .int 32, []), (67, .newarray .int, 69, 32, 0, .null, [])]),
  (94, [(69, .putfield 37, 72, 9, 23, .null, []), (72, .aload_n 0, 73, 0, 0, .null, []), (73, .bipush 32, 75, 0, 0, .int 32, []), (75, .newarray .long, 77, 32, 0, .null, []), (77, .putfield 40, 80, 9, 24, .null, []), (80, .aload_n 0, 81, 0, 0, .null, []), (81, .bipush 32, 83, 0, 0, .int 32, []), (83, .newarray .int, 85, 32, 0, .null, []), (85, .putfield 43, 88, 9, 25, .null, []), (88, .aload_n 0, 89, 0, 0, .null, []), (89, .sipush 700, 92, 0, 0, .int 700, []), (92, .newarray .int, 94, 700, 0, .null, [])]),
  (120, [(94, .putfield 46, 97, 9, 30, .null, []), (97, .aload_n 0, 98, 0, 0, .null, []), (98, .sipush 700, 101, 0, 0, .int 700, []), (101, .newarray .int, 103, 700, 0, .null, []), (103, .putfield 49, 106, 9, 31, .null, []), (106, .aload_n 0, 107, 0, 0, .null, []), (107, .sipush 700, 110, 0, 0, .int 700, []), (110, .newarray .int, 112, 700, 0, .null, []), (112, .putfield 52, 115, 9, 32, .null, []), (115, .aload_n 0, 116, 0, 0, .null, []), (116, .bipush 20, 118, 0, 0, .int 20, []), (118, .newarray .long, 120, 20, 0, .null, [])]),
  (147, [(120, .putfield 55, 123, 9, 34, .null, []), (123, .aload_n 0, 124, 0, 0, .null, []), (124, .sipush 200, 127, 0, 0, .int 200, []), (127, .newarray .int, 129, 200, 0, .null, []), (129, .putfield 58, 132, 9, 37, .null, []), (132, .aload_n 0, 133, 0, 0, .null, []), (133, .sipush 200, 136, 0, 0, .int 200, []), (136, .newarray .boolean, 138, 200, 0, .null, []), (138, .putfield 61, 141, 9, 38, .null, []), (141, .aload_n 0, 142, 0, 0, .null, []), (142, .sipush 200, 145, 0, 0, .int 200, []), (145, .newarray .int, 147, 200, 0, .null, [])]),
  (174, [(147, .putfield 65, 150, 9, 39, .null, []), (150, .aload_n 0, 151, 0, 0, .null, []), (151, .sipush 200, 154, 0, 0, .int 200, []), (154, .newarray .int, 156, 200, 0, .null, []), (156, .putfield 68, 159, 9, 40, .null, []), (159, .aload_n 0, 160, 0, 0, .null, []), (160, .sipush 200, 163, 0, 0, .int 200, []), (163, .newarray .int, 165, 200, 0, .null, []), (165, .putfield 71, 168, 9, 41, .null, []), (168, .aload_n 0, 169, 0, 0, .null, []), (169, .sipush 200, 172, 0, 0, .int 200, []), (172, .newarray .int, 174, 200, 0, .null, [])]),
  (200, [(174, .putfield 74, 177, 9, 42, .null, []), (177, .aload_n 0, 178, 0, 0, .null, []), (178, .sipush 200, 181, 0, 0, .int 200, []), (181, .newarray .int, 183, 200, 0, .null, []), (183, .putfield 77, 186, 9, 43, .null, []), (186, .aload_n 0, 187, 0, 0, .null, []), (187, .sipush 700, 190, 0, 0, .int 700, []), (190, .newarray .int, 192, 700, 0, .null, []), (192, .putfield 80, 195, 9, 50, .null, []), (195, .aload_n 0, 196, 0, 0, .null, []), (196, .bipush 20, 198, 0, 0, .int 20, []), (198, .newarray .int, 200, 20, 0, .null, [])]),
  (224, [(200, .putfield 83, 203, 9, 51, .null, []), (203, .aload_n 0, 204, 0, 0, .null, []), (204, .bipush 32, 206, 0, 0, .int 32, []), (206, .newarray .int, 208, 32, 0, .null, []), (208, .putfield 86, 211, 9, 53, .null, []), (211, .aload_n 0, 212, 0, 0, .null, []), (212, .bipush 32, 214, 0, 0, .int 32, []), (214, .newarray .int, 216, 32, 0, .null, []), (216, .putfield 89, 219, 9, 54, .null, []), (219, .aload_n 0, 220, 0, 0, .null, []), (220, .bipush 32, 222, 0, 0, .int 32, []), (222, .newarray .int, 224, 32, 0, .null, [])]),
  (246, [(224, .putfield 92, 227, 9, 55, .null, []), (227, .aload_n 0, 228, 0, 0, .null, []), (228, .getfield 7, 231, 9, 0, .null, []), (231, .iconst 0, 232, 0, 0, .int 0, []), (232, .ldc2_w 95, 235, 0, 0, .long 213629677, []), (235, .lastore, 236, 0, 0, .null, []), (236, .aload_n 0, 237, 0, 0, .null, []), (237, .getfield 7, 240, 9, 0, .null, []), (240, .iconst 1, 241, 0, 0, .int 1, []), (241, .ldc2_w 97, 244, 0, 0, .long 3983535845864, []), (244, .lastore, 245, 0, 0, .null, []), (245, .aload_n 0, 246, 0, 0, .null, [])]),
  (268, [(246, .getfield 7, 249, 9, 0, .null, []), (249, .iconst 2, 250, 0, 0, .int 2, []), (250, .ldc2_w 99, 253, 0, 0, .long 31880592101, []), (253, .lastore, 254, 0, 0, .null, []), (254, .aload_n 0, 255, 0, 0, .null, []), (255, .getfield 7, 258, 9, 0, .null, []), (258, .iconst 3, 259, 0, 0, .int 3, []), (259, .ldc2_w 101, 262, 0, 0, .long 3811208377074, []), (262, .lastore, 263, 0, 0, .null, []), (263, .aload_n 0, 264, 0, 0, .null, []), (264, .getfield 7, 267, 9, 0, .null, []), (267, .iconst 4, 268, 0, 0, .int 4, [])]),
  (291, [(268, .ldc2_w 103, 271, 0, 0, .long 244939892, []), (271, .lastore, 272, 0, 0, .null, []), (272, .aload_n 0, 273, 0, 0, .null, []), (273, .getfield 7, 276, 9, 0, .null, []), (276, .iconst 5, 277, 0, 0, .int 5, []), (277, .ldc2_w 105, 280, 0, 0, .long 209222117, []), (280, .lastore, 281, 0, 0, .null, []), (281, .aload_n 0, 282, 0, 0, .null, []), (282, .getfield 7, 285, 9, 0, .null, []), (285, .bipush 6, 287, 0, 0, .int 6, []), (287, .ldc2_w 107, 290, 0, 0, .long 443302570456692, []), (290, .lastore, 291, 0, 0, .null, [])]),
  (315, [(291, .aload_n 0, 292, 0, 0, .null, []), (292, .getfield 7, 295, 9, 0, .null, []), (295, .bipush 7, 297, 0, 0, .int 7, []), (297, .ldc2_w 109, 300, 0, 0, .long 1602148, []), (300, .lastore, 301, 0, 0, .null, []), (301, .aload_n 0, 302, 0, 0, .null, []), (302, .getfield 7, 305, 9, 0, .null, []), (305, .bipush 8, 307, 0, 0, .int 8, []), (307, .ldc2_w 111, 310, 0, 0, .long 1782516, []), (310, .lastore, 311, 0, 0, .null, []), (311, .aload_n 0, 312, 0, 0, .null, []), (312, .getfield 7, 315, 9, 0, .null, [])]),
  (340, [(315, .bipush 9, 317, 0, 0, .int 9, []), (317, .ldc2_w 113, 320, 0, 0, .long 1931749, []), (320, .lastore, 321, 0, 0, .null, []), (321, .aload_n 0, 322, 0, 0, .null, []), (322, .getfield 7, 325, 9, 0, .null, []), (325, .bipush 10, 327, 0, 0, .int 10, []), (327, .ldc2_w 115, 330, 0, 0, .long 26547417323, []), (330, .lastore, 331, 0, 0, .null, []), (331, .aload_n 0, 332, 0, 0, .null, []), (332, .getfield 7, 335, 9, 0, .null, []), (335, .bipush 11, 337, 0, 0, .int 11, []), (337, .ldc2_w 117, 340, 0, 0, .long 32702559844, [])]),
  (362, [(340, .lastore, 341, 0, 0, .null, []), (341, .aload_n 0, 342, 0, 0, .null, []), (342, .getfield 7, 345, 9, 0, .null, []), (345, .bipush 12, 347, 0, 0, .int 12, []), (347, .ldc2_w 119, 350, 0, 0, .long 31358498807, []), (350, .lastore, 351, 0, 0, .null, []), (351, .aload_n 0, 352, 0, 0, .null, []), (352, .getfield 7, 355, 9, 0, .null, []), (355, .bipush 13, 357, 0, 0, .int 13, []), (357, .ldc2_w 121, 360, 0, 0, .long 13542, []), (360, .lastore, 361, 0, 0, .null, []), (361, .aload_n 0, 362, 0, 0, .null, [])]),
  (372, [(362, .getfield 7, 365, 9, 0, .null, []), (365, .bipush 14, 367, 0, 0, .int 14, []), (367, .ldc2_w 123, 370, 0, 0, .long 213596645, []), (370, .lastore, 371, 0, 0, .null, []), (371, .return_, 372, 0, 0, .null, [])])]
theorem kX9_init_ok : m_okC 9 cX9_init kX9_init = true := by decide +kernel
def kX9_type : mL := [(22, [(0, .iload_n 3, 1, 3, 0, .null, []), (1, .ifCond .lt 9, 4, 10, 0, .null, []), (4, .iload_n 3, 5, 3, 0, .null, []), (5, .bipush 8, 7, 0, 0, .int 8, []), (7, .if_icmp .le 6, 10, 13, 0, .null, []), (10, .bipush (-2), 12, 0, 0, .int (-2), []), (12, .ireturn, 13, 0, 0, .null, []), (13, .iload_n 3, 14, 3, 0, .null, []), (14, .ifCond .ne 8, 17, 22, 0, .null, []), (17, .aload_n 0, 18, 0, 0, .null, []), (18, .iconst 0, 19, 0, 0, .int 0, []), (19, .putfield 125, 22, 9, 2, .null, [])]),
  (42, [(22, .aload_n 0, 23, 0, 0, .null, []), (23, .getfield 125, 26, 9, 2, .null, []), (26, .iload_n 3, 27, 3, 0, .null, []), (27, .iadd, 28, 0, 0, .null, []), (28, .sipush 3000, 31, 0, 0, .int 3000, []), (31, .if_icmp .le 6, 34, 37, 0, .null, []), (34, .bipush (-4), 36, 0, 0, .int (-4), []), (36, .ireturn, 37, 0, 0, .null, []), (37, .iload_n 3, 38, 3, 0, .null, []), (38, .iconst 1, 39, 0, 0, .int 1, []), (39, .isub, 40, 0, 0, .null, []), (40, .istore 4, 42, 4, 0, .null, [])]),
  (63, [(42, .iload 4, 44, 4, 0, .null, []), (44, .ifCond .lt 37, 47, 81, 0, .null, []), (47, .aload_n 0, 48, 0, 0, .null, []), (48, .getfield 13, 51, 9, 1, .null, []), (51, .aload_n 0, 52, 0, 0, .null, []), (52, .getfield 125, 55, 9, 2, .null, []), (55, .lload_n 1, 56, 1, 0, .null, []), (56, .bipush 8, 58, 0, 0, .int 8, []), (58, .iload 4, 60, 4, 0, .null, []), (60, .imul, 61, 0, 0, .null, []), (61, .lushr, 62, 0, 0, .null, []), (62, .l2i, 63, 0, 0, .null, [])]),
  (85, [(63, .i2b, 64, 0, 0, .null, []), (64, .bastore, 65, 0, 0, .null, []), (65, .aload_n 0, 66, 0, 0, .null, []), (66, .dup, 67, 0, 0, .null, []), (67, .getfield 125, 70, 9, 2, .null, []), (70, .iconst 1, 71, 0, 0, .int 1, []), (71, .iadd, 72, 0, 0, .null, []), (72, .putfield 125, 75, 9, 2, .null, []), (75, .iinc 4 (-1), 78, 4, 0, .int (-1), []), (78, .goto (-36), 81, 42, 0, .null, []), (81, .aload_n 0, 82, 0, 0, .null, []), (82, .getfield 125, 85, 9, 2, .null, [])]),
  (86, [(85, .ireturn, 86, 0, 0, .null, [])])]
theorem kX9_type_ok : m_okC 9 cX9_type kX9_type = true := by decide +kernel
def kX9_octet : mL := [(22, [(0, .iload_n 1, 1, 1, 0, .null, []), (1, .aload_n 0, 2, 0, 0, .null, []), (2, .getfield 125, 5, 9, 2, .null, []), (5, .if_icmp .ge 16, 8, 21, 0, .null, []), (8, .aload_n 0, 9, 0, 0, .null, []), (9, .getfield 13, 12, 9, 1, .null, []), (12, .iload_n 1, 13, 1, 0, .null, []), (13, .baload, 14, 0, 0, .null, []), (14, .sipush 255, 17, 0, 0, .int 255, []), (17, .iand, 18, 0, 0, .null, []), (18, .goto 4, 21, 22, 0, .null, []), (21, .iconst (-1), 22, 0, 0, .int (-1), [])]),
  (23, [(22, .ireturn, 23, 0, 0, .null, [])])]
theorem kX9_octet_ok : m_okC 9 cX9_octet kX9_octet = true := by decide +kernel
def kX9_isSmall : mL := [(18, [(0, .iload_n 0, 1, 0, 0, .null, []), (1, .bipush 97, 3, 0, 0, .int 97, []), (3, .if_icmp .lt 13, 6, 16, 0, .null, []), (6, .iload_n 0, 7, 0, 0, .null, []), (7, .bipush 122, 9, 0, 0, .int 122, []), (9, .if_icmp .gt 7, 12, 16, 0, .null, []), (12, .iconst 1, 13, 0, 0, .int 1, []), (13, .goto 4, 16, 17, 0, .null, []), (16, .iconst 0, 17, 0, 0, .int 0, []), (17, .ireturn, 18, 0, 0, .null, [])])]
theorem kX9_isSmall_ok : m_okC 9 cX9_isSmall kX9_isSmall = true := by decide +kernel
def kX9_isFigure : mL := [(18, [(0, .iload_n 0, 1, 0, 0, .null, []), (1, .bipush 48, 3, 0, 0, .int 48, []), (3, .if_icmp .lt 13, 6, 16, 0, .null, []), (6, .iload_n 0, 7, 0, 0, .null, []), (7, .bipush 57, 9, 0, 0, .int 57, []), (9, .if_icmp .gt 7, 12, 16, 0, .null, []), (12, .iconst 1, 13, 0, 0, .int 1, []), (13, .goto 4, 16, 17, 0, .null, []), (16, .iconst 0, 17, 0, 0, .int 0, []), (17, .ireturn, 18, 0, 0, .null, [])])]
theorem kX9_isFigure_ok : m_okC 9 cX9_isFigure kX9_isFigure = true := by decide +kernel
def kX9_next : mL := [(26, [(0, .aload_n 0, 1, 0, 0, .null, []), (1, .aload_n 0, 2, 0, 0, .null, []), (2, .getfield 128, 5, 9, 3, .null, []), (5, .invokevirtual 131, 8, 104, 146, .null, []), (8, .bipush 32, 10, 0, 0, .int 32, []), (10, .if_icmp .eq 42, 13, 52, 0, .null, []), (13, .aload_n 0, 14, 0, 0, .null, []), (14, .aload_n 0, 15, 0, 0, .null, []), (15, .getfield 128, 18, 9, 3, .null, []), (18, .invokevirtual 131, 21, 104, 146, .null, []), (21, .bipush 9, 23, 0, 0, .int 9, []), (23, .if_icmp .eq 29, 26, 52, 0, .null, [])]),
  (52, [(26, .aload_n 0, 27, 0, 0, .null, []), (27, .aload_n 0, 28, 0, 0, .null, []), (28, .getfield 128, 31, 9, 3, .null, []), (31, .invokevirtual 131, 34, 104, 146, .null, []), (34, .bipush 10, 36, 0, 0, .int 10, []), (36, .if_icmp .eq 16, 39, 52, 0, .null, []), (39, .aload_n 0, 40, 0, 0, .null, []), (40, .aload_n 0, 41, 0, 0, .null, []), (41, .getfield 128, 44, 9, 3, .null, []), (44, .invokevirtual 131, 47, 104, 146, .null, []), (47, .bipush 13, 49, 0, 0, .int 13, []), (49, .if_icmp .ne 16, 52, 65, 0, .null, [])]),
  (74, [(52, .aload_n 0, 53, 0, 0, .null, []), (53, .dup, 54, 0, 0, .null, []), (54, .getfield 128, 57, 9, 3, .null, []), (57, .iconst 1, 58, 0, 0, .int 1, []), (58, .iadd, 59, 0, 0, .null, []), (59, .putfield 128, 62, 9, 3, .null, []), (62, .goto (-62), 65, 0, 0, .null, []), (65, .aload_n 0, 66, 0, 0, .null, []), (66, .aload_n 0, 67, 0, 0, .null, []), (67, .getfield 128, 70, 9, 3, .null, []), (70, .putfield 135, 73, 9, 5, .null, []), (73, .aload_n 0, 74, 0, 0, .null, [])]),
  (98, [(74, .aload_n 0, 75, 0, 0, .null, []), (75, .getfield 128, 78, 9, 3, .null, []), (78, .invokevirtual 131, 81, 104, 146, .null, []), (81, .istore_n 1, 82, 1, 0, .null, []), (82, .iload_n 1, 83, 1, 0, .null, []), (83, .ifCond .ge 11, 86, 94, 0, .null, []), (86, .aload_n 0, 87, 0, 0, .null, []), (87, .iconst 0, 88, 0, 0, .int 0, []), (88, .putfield 138, 91, 9, 4, .null, []), (91, .goto 146, 94, 237, 0, .null, []), (94, .iload_n 1, 95, 1, 0, .null, []), (95, .invokestatic 141, 98, 105, 145, .null, [])]),
  (125, [(98, .ifCond .eq 10, 101, 108, 0, .null, []), (101, .aload_n 0, 102, 0, 0, .null, []), (102, .invokevirtual 145, 105, 108, 145, .null, []), (105, .goto 132, 108, 237, 0, .null, []), (108, .iload_n 1, 109, 1, 0, .null, []), (109, .invokestatic 148, 112, 106, 145, .null, []), (112, .ifCond .eq 10, 115, 122, 0, .null, []), (115, .aload_n 0, 116, 0, 0, .null, []), (116, .invokevirtual 151, 119, 109, 145, .null, []), (119, .goto 118, 122, 237, 0, .null, []), (122, .iload_n 1, 123, 1, 0, .null, []), (123, .bipush 34, 125, 0, 0, .int 34, [])]),
  (149, [(125, .if_icmp .ne 10, 128, 135, 0, .null, []), (128, .aload_n 0, 129, 0, 0, .null, []), (129, .invokevirtual 154, 132, 110, 145, .null, []), (132, .goto 105, 135, 237, 0, .null, []), (135, .aload_n 0, 136, 0, 0, .null, []), (136, .iload_n 1, 137, 1, 0, .null, []), (137, .bipush 123, 139, 0, 0, .int 123, []), (139, .if_icmp .eq 39, 142, 178, 0, .null, []), (142, .iload_n 1, 143, 1, 0, .null, []), (143, .bipush 125, 145, 0, 0, .int 125, []), (145, .if_icmp .eq 33, 148, 178, 0, .null, []), (148, .iload_n 1, 149, 1, 0, .null, [])]),
  (173, [(149, .bipush 58, 151, 0, 0, .int 58, []), (151, .if_icmp .eq 27, 154, 178, 0, .null, []), (154, .iload_n 1, 155, 1, 0, .null, []), (155, .bipush 59, 157, 0, 0, .int 59, []), (157, .if_icmp .eq 21, 160, 178, 0, .null, []), (160, .iload_n 1, 161, 1, 0, .null, []), (161, .bipush 44, 163, 0, 0, .int 44, []), (163, .if_icmp .eq 15, 166, 178, 0, .null, []), (166, .iload_n 1, 167, 1, 0, .null, []), (167, .bipush 61, 169, 0, 0, .int 61, []), (169, .if_icmp .eq 9, 172, 178, 0, .null, []), (172, .iload_n 1, 173, 1, 0, .null, [])]),
  (197, [(173, .bipush 45, 175, 0, 0, .int 45, []), (175, .if_icmp .ne 7, 178, 182, 0, .null, []), (178, .iconst 4, 179, 0, 0, .int 4, []), (179, .goto 5, 182, 184, 0, .null, []), (182, .bipush 6, 184, 0, 0, .int 6, []), (184, .putfield 138, 187, 9, 4, .null, []), (187, .aload_n 0, 188, 0, 0, .null, []), (188, .iload_n 1, 189, 1, 0, .null, []), (189, .putfield 157, 192, 9, 7, .null, []), (192, .aload_n 0, 193, 0, 0, .null, []), (193, .dup, 194, 0, 0, .null, []), (194, .getfield 128, 197, 9, 3, .null, [])]),
  (221, [(197, .iconst 1, 198, 0, 0, .int 1, []), (198, .iadd, 199, 0, 0, .null, []), (199, .putfield 128, 202, 9, 3, .null, []), (202, .iload_n 1, 203, 1, 0, .null, []), (203, .bipush 45, 205, 0, 0, .int 45, []), (205, .if_icmp .ne 32, 208, 237, 0, .null, []), (208, .aload_n 0, 209, 0, 0, .null, []), (209, .aload_n 0, 210, 0, 0, .null, []), (210, .getfield 128, 213, 9, 3, .null, []), (213, .invokevirtual 131, 216, 104, 146, .null, []), (216, .bipush 62, 218, 0, 0, .int 62, []), (218, .if_icmp .ne 19, 221, 237, 0, .null, [])]),
  (238, [(221, .aload_n 0, 222, 0, 0, .null, []), (222, .bipush 62, 224, 0, 0, .int 62, []), (224, .putfield 157, 227, 9, 7, .null, []), (227, .aload_n 0, 228, 0, 0, .null, []), (228, .dup, 229, 0, 0, .null, []), (229, .getfield 128, 232, 9, 3, .null, []), (232, .iconst 1, 233, 0, 0, .int 1, []), (233, .iadd, 234, 0, 0, .null, []), (234, .putfield 128, 237, 9, 3, .null, []), (237, .return_, 238, 0, 0, .null, [])])]
theorem kX9_next_ok : m_okC 9 cX9_next kX9_next = true := by decide +kernel
def kX9_nextName : mL := [(20, [(0, .aload_n 0, 1, 0, 0, .null, []), (1, .iconst 1, 2, 0, 0, .int 1, []), (2, .putfield 138, 5, 9, 4, .null, []), (5, .aload_n 0, 6, 0, 0, .null, []), (6, .lconst 0, 7, 0, 0, .long 0, []), (7, .putfield 160, 10, 9, 6, .null, []), (10, .iconst 0, 11, 0, 0, .int 0, []), (11, .istore_n 1, 12, 1, 0, .null, []), (12, .aload_n 0, 13, 0, 0, .null, []), (13, .aload_n 0, 14, 0, 0, .null, []), (14, .getfield 128, 17, 9, 3, .null, []), (17, .invokevirtual 131, 20, 104, 146, .null, [])]),
  (47, [(20, .invokestatic 141, 23, 105, 145, .null, []), (23, .ifCond .ne 17, 26, 40, 0, .null, []), (26, .aload_n 0, 27, 0, 0, .null, []), (27, .aload_n 0, 28, 0, 0, .null, []), (28, .getfield 128, 31, 9, 3, .null, []), (31, .invokevirtual 131, 34, 104, 146, .null, []), (34, .invokestatic 148, 37, 106, 145, .null, []), (37, .ifCond .eq 46, 40, 83, 0, .null, []), (40, .iload_n 1, 41, 1, 0, .null, []), (41, .bipush 8, 43, 0, 0, .int 8, []), (43, .if_icmp .ge 24, 46, 67, 0, .null, []), (46, .aload_n 0, 47, 0, 0, .null, [])]),
  (70, [(47, .aload_n 0, 48, 0, 0, .null, []), (48, .getfield 160, 51, 9, 6, .null, []), (51, .bipush 7, 53, 0, 0, .int 7, []), (53, .lshl, 54, 0, 0, .null, []), (54, .aload_n 0, 55, 0, 0, .null, []), (55, .aload_n 0, 56, 0, 0, .null, []), (56, .getfield 128, 59, 9, 3, .null, []), (59, .invokevirtual 131, 62, 104, 146, .null, []), (62, .i2l, 63, 0, 0, .null, []), (63, .lor, 64, 0, 0, .null, []), (64, .putfield 160, 67, 9, 6, .null, []), (67, .iinc 1 1, 70, 1, 0, .int 1, [])]),
  (92, [(70, .aload_n 0, 71, 0, 0, .null, []), (71, .dup, 72, 0, 0, .null, []), (72, .getfield 128, 75, 9, 3, .null, []), (75, .iconst 1, 76, 0, 0, .int 1, []), (76, .iadd, 77, 0, 0, .null, []), (77, .putfield 128, 80, 9, 3, .null, []), (80, .goto (-68), 83, 12, 0, .null, []), (83, .aload_n 0, 84, 0, 0, .null, []), (84, .iload_n 1, 85, 1, 0, .null, []), (85, .bipush 8, 87, 0, 0, .int 8, []), (87, .if_icmp .le 8, 90, 95, 0, .null, []), (90, .bipush 6, 92, 0, 0, .int 6, [])]),
  (115, [(92, .goto 4, 95, 96, 0, .null, []), (95, .iconst 1, 96, 0, 0, .int 1, []), (96, .putfield 138, 99, 9, 4, .null, []), (99, .iconst 0, 100, 0, 0, .int 0, []), (100, .istore_n 2, 101, 2, 0, .null, []), (101, .iload_n 2, 102, 2, 0, .null, []), (102, .bipush 15, 104, 0, 0, .int 15, []), (104, .if_icmp .ge 41, 107, 145, 0, .null, []), (107, .aload_n 0, 108, 0, 0, .null, []), (108, .getfield 138, 111, 9, 4, .null, []), (111, .iconst 1, 112, 0, 0, .int 1, []), (112, .if_icmp .ne 33, 115, 145, 0, .null, [])]),
  (135, [(115, .aload_n 0, 116, 0, 0, .null, []), (116, .getfield 7, 119, 9, 0, .null, []), (119, .iload_n 2, 120, 2, 0, .null, []), (120, .laload, 121, 0, 0, .null, []), (121, .aload_n 0, 122, 0, 0, .null, []), (122, .getfield 160, 125, 9, 6, .null, []), (125, .lcmp, 126, 0, 0, .null, []), (126, .ifCond .ne 13, 129, 139, 0, .null, []), (129, .aload_n 0, 130, 0, 0, .null, []), (130, .iconst 5, 131, 0, 0, .int 5, []), (131, .putfield 138, 134, 9, 4, .null, []), (134, .aload_n 0, 135, 0, 0, .null, [])]),
  (146, [(135, .iload_n 2, 136, 2, 0, .null, []), (136, .putfield 157, 139, 9, 7, .null, []), (139, .iinc 2 1, 142, 2, 0, .int 1, []), (142, .goto (-41), 145, 101, 0, .null, []), (145, .return_, 146, 0, 0, .null, [])])]
theorem kX9_nextName_ok : m_okC 9 cX9_nextName kX9_nextName = true := by decide +kernel
def kX9_nextNumber : mL := [(22, [(0, .aload_n 0, 1, 0, 0, .null, []), (1, .iconst 0, 2, 0, 0, .int 0, []), (2, .putfield 157, 5, 9, 7, .null, []), (5, .iconst 0, 6, 0, 0, .int 0, []), (6, .istore_n 1, 7, 1, 0, .null, []), (7, .aload_n 0, 8, 0, 0, .null, []), (8, .aload_n 0, 9, 0, 0, .null, []), (9, .getfield 128, 12, 9, 3, .null, []), (12, .invokevirtual 131, 15, 104, 146, .null, []), (15, .invokestatic 148, 18, 106, 145, .null, []), (18, .ifCond .eq 48, 21, 66, 0, .null, []), (21, .iload_n 1, 22, 1, 0, .null, [])]),
  (44, [(22, .bipush 9, 24, 0, 0, .int 9, []), (24, .if_icmp .ge 26, 27, 50, 0, .null, []), (27, .aload_n 0, 28, 0, 0, .null, []), (28, .aload_n 0, 29, 0, 0, .null, []), (29, .getfield 157, 32, 9, 7, .null, []), (32, .bipush 10, 34, 0, 0, .int 10, []), (34, .imul, 35, 0, 0, .null, []), (35, .aload_n 0, 36, 0, 0, .null, []), (36, .aload_n 0, 37, 0, 0, .null, []), (37, .getfield 128, 40, 9, 3, .null, []), (40, .invokevirtual 131, 43, 104, 146, .null, []), (43, .iadd, 44, 0, 0, .null, [])]),
  (67, [(44, .bipush 48, 46, 0, 0, .int 48, []), (46, .isub, 47, 0, 0, .null, []), (47, .putfield 157, 50, 9, 7, .null, []), (50, .iinc 1 1, 53, 1, 0, .int 1, []), (53, .aload_n 0, 54, 0, 0, .null, []), (54, .dup, 55, 0, 0, .null, []), (55, .getfield 128, 58, 9, 3, .null, []), (58, .iconst 1, 59, 0, 0, .int 1, []), (59, .iadd, 60, 0, 0, .null, []), (60, .putfield 128, 63, 9, 3, .null, []), (63, .goto (-56), 66, 7, 0, .null, []), (66, .aload_n 0, 67, 0, 0, .null, [])]),
  (83, [(67, .iload_n 1, 68, 1, 0, .null, []), (68, .bipush 9, 70, 0, 0, .int 9, []), (70, .if_icmp .le 8, 73, 78, 0, .null, []), (73, .bipush 6, 75, 0, 0, .int 6, []), (75, .goto 4, 78, 79, 0, .null, []), (78, .iconst 2, 79, 0, 0, .int 2, []), (79, .putfield 138, 82, 9, 4, .null, []), (82, .return_, 83, 0, 0, .null, [])])]
theorem kX9_nextNumber_ok : m_okC 9 cX9_nextNumber kX9_nextNumber = true := by decide +kernel
def kX9_nextText : mL := [(18, [(0, .aload_n 0, 1, 0, 0, .null, []), (1, .dup, 2, 0, 0, .null, []), (2, .getfield 128, 5, 9, 3, .null, []), (5, .iconst 1, 6, 0, 0, .int 1, []), (6, .iadd, 7, 0, 0, .null, []), (7, .putfield 128, 10, 9, 3, .null, []), (10, .aload_n 0, 11, 0, 0, .null, []), (11, .lconst 0, 12, 0, 0, .long 0, []), (12, .putfield 160, 15, 9, 6, .null, []), (15, .iconst 0, 16, 0, 0, .int 0, []), (16, .istore_n 1, 17, 1, 0, .null, []), (17, .aload_n 0, 18, 0, 0, .null, [])]),
  (46, [(18, .aload_n 0, 19, 0, 0, .null, []), (19, .getfield 128, 22, 9, 3, .null, []), (22, .invokevirtual 131, 25, 104, 146, .null, []), (25, .invokestatic 141, 28, 105, 145, .null, []), (28, .ifCond .ne 43, 31, 71, 0, .null, []), (31, .aload_n 0, 32, 0, 0, .null, []), (32, .aload_n 0, 33, 0, 0, .null, []), (33, .getfield 128, 36, 9, 3, .null, []), (36, .invokevirtual 131, 39, 104, 146, .null, []), (39, .invokestatic 148, 42, 106, 145, .null, []), (42, .ifCond .ne 29, 45, 71, 0, .null, []), (45, .aload_n 0, 46, 0, 0, .null, [])]),
  (72, [(46, .aload_n 0, 47, 0, 0, .null, []), (47, .getfield 128, 50, 9, 3, .null, []), (50, .invokevirtual 131, 53, 104, 146, .null, []), (53, .bipush 65, 55, 0, 0, .int 65, []), (55, .if_icmp .lt 59, 58, 114, 0, .null, []), (58, .aload_n 0, 59, 0, 0, .null, []), (59, .aload_n 0, 60, 0, 0, .null, []), (60, .getfield 128, 63, 9, 3, .null, []), (63, .invokevirtual 131, 66, 104, 146, .null, []), (66, .bipush 90, 68, 0, 0, .int 90, []), (68, .if_icmp .gt 46, 71, 114, 0, .null, []), (71, .iload_n 1, 72, 1, 0, .null, [])]),
  (94, [(72, .bipush 8, 74, 0, 0, .int 8, []), (74, .if_icmp .ge 24, 77, 98, 0, .null, []), (77, .aload_n 0, 78, 0, 0, .null, []), (78, .aload_n 0, 79, 0, 0, .null, []), (79, .getfield 160, 82, 9, 6, .null, []), (82, .bipush 8, 84, 0, 0, .int 8, []), (84, .lshl, 85, 0, 0, .null, []), (85, .aload_n 0, 86, 0, 0, .null, []), (86, .aload_n 0, 87, 0, 0, .null, []), (87, .getfield 128, 90, 9, 3, .null, []), (90, .invokevirtual 131, 93, 104, 146, .null, []), (93, .i2l, 94, 0, 0, .null, [])]),
  (116, [(94, .lor, 95, 0, 0, .null, []), (95, .putfield 160, 98, 9, 6, .null, []), (98, .iinc 1 1, 101, 1, 0, .int 1, []), (101, .aload_n 0, 102, 0, 0, .null, []), (102, .dup, 103, 0, 0, .null, []), (103, .getfield 128, 106, 9, 3, .null, []), (106, .iconst 1, 107, 0, 0, .int 1, []), (107, .iadd, 108, 0, 0, .null, []), (108, .putfield 128, 111, 9, 3, .null, []), (111, .goto (-94), 114, 17, 0, .null, []), (114, .aload_n 0, 115, 0, 0, .null, []), (115, .iload_n 1, 116, 1, 0, .null, [])]),
  (140, [(116, .putfield 157, 119, 9, 7, .null, []), (119, .aload_n 0, 120, 0, 0, .null, []), (120, .aload_n 0, 121, 0, 0, .null, []), (121, .aload_n 0, 122, 0, 0, .null, []), (122, .getfield 128, 125, 9, 3, .null, []), (125, .invokevirtual 131, 128, 104, 146, .null, []), (128, .bipush 34, 130, 0, 0, .int 34, []), (130, .if_icmp .ne 13, 133, 143, 0, .null, []), (133, .iload_n 1, 134, 1, 0, .null, []), (134, .bipush 8, 136, 0, 0, .int 8, []), (136, .if_icmp .gt 7, 139, 143, 0, .null, []), (139, .iconst 3, 140, 0, 0, .int 3, [])]),
  (159, [(140, .goto 5, 143, 145, 0, .null, []), (143, .bipush 6, 145, 0, 0, .int 6, []), (145, .putfield 138, 148, 9, 4, .null, []), (148, .aload_n 0, 149, 0, 0, .null, []), (149, .dup, 150, 0, 0, .null, []), (150, .getfield 128, 153, 9, 3, .null, []), (153, .iconst 1, 154, 0, 0, .int 1, []), (154, .iadd, 155, 0, 0, .null, []), (155, .putfield 128, 158, 9, 3, .null, []), (158, .return_, 159, 0, 0, .null, [])])]
theorem kX9_nextText_ok : m_okC 9 cX9_nextText kX9_nextText = true := by decide +kernel
def kX9_wrong : mL := [(21, [(0, .aload_n 0, 1, 0, 0, .null, []), (1, .getfield 164, 4, 9, 8, .null, []), (4, .ifCond .ne 16, 7, 20, 0, .null, []), (7, .aload_n 0, 8, 0, 0, .null, []), (8, .iload_n 1, 9, 1, 0, .null, []), (9, .putfield 164, 12, 9, 8, .null, []), (12, .aload_n 0, 13, 0, 0, .null, []), (13, .aload_n 0, 14, 0, 0, .null, []), (14, .getfield 135, 17, 9, 5, .null, []), (17, .putfield 167, 20, 9, 9, .null, []), (20, .return_, 21, 0, 0, .null, [])])]
theorem kX9_wrong_ok : m_okC 9 cX9_wrong kX9_wrong = true := by decide +kernel
def kX9_wrongAt : mL := [(18, [(0, .aload_n 0, 1, 0, 0, .null, []), (1, .getfield 164, 4, 9, 8, .null, []), (4, .ifCond .ne 13, 7, 17, 0, .null, []), (7, .aload_n 0, 8, 0, 0, .null, []), (8, .iload_n 1, 9, 1, 0, .null, []), (9, .putfield 164, 12, 9, 8, .null, []), (12, .aload_n 0, 13, 0, 0, .null, []), (13, .iload_n 2, 14, 2, 0, .null, []), (14, .putfield 167, 17, 9, 9, .null, []), (17, .return_, 18, 0, 0, .null, [])])]
theorem kX9_wrongAt_ok : m_okC 9 cX9_wrongAt kX9_wrongAt = true := by decide +kernel
def kX9_cannot : mL := [(19, [(0, .aload_n 0, 1, 0, 0, .null, []), (1, .aload_n 0, 2, 0, 0, .null, []), (2, .getfield 138, 5, 9, 4, .null, []), (5, .bipush 6, 7, 0, 0, .int 6, []), (7, .if_icmp .ne 7, 10, 14, 0, .null, []), (10, .iconst 1, 11, 0, 0, .int 1, []), (11, .goto 4, 14, 15, 0, .null, []), (14, .iconst 2, 15, 0, 0, .int 2, []), (15, .invokevirtual 170, 18, 111, 146, .null, []), (18, .return_, 19, 0, 0, .null, [])])]
theorem kX9_cannot_ok : m_okC 9 cX9_cannot kX9_cannot = true := by decide +kernel
def kX9_isSign : mL := [(22, [(0, .aload_n 0, 1, 0, 0, .null, []), (1, .getfield 138, 4, 9, 4, .null, []), (4, .iconst 4, 5, 0, 0, .int 4, []), (5, .if_icmp .ne 15, 8, 20, 0, .null, []), (8, .aload_n 0, 9, 0, 0, .null, []), (9, .getfield 157, 12, 9, 7, .null, []), (12, .iload_n 1, 13, 1, 0, .null, []), (13, .if_icmp .ne 7, 16, 20, 0, .null, []), (16, .iconst 1, 17, 0, 0, .int 1, []), (17, .goto 4, 20, 21, 0, .null, []), (20, .iconst 0, 21, 0, 0, .int 0, []), (21, .ireturn, 22, 0, 0, .null, [])])]
theorem kX9_isSign_ok : m_okC 9 cX9_isSign kX9_isSign = true := by decide +kernel
def kX9_isWord : mL := [(22, [(0, .aload_n 0, 1, 0, 0, .null, []), (1, .getfield 138, 4, 9, 4, .null, []), (4, .iconst 5, 5, 0, 0, .int 5, []), (5, .if_icmp .ne 15, 8, 20, 0, .null, []), (8, .aload_n 0, 9, 0, 0, .null, []), (9, .getfield 157, 12, 9, 7, .null, []), (12, .iload_n 1, 13, 1, 0, .null, []), (13, .if_icmp .ne 7, 16, 20, 0, .null, []), (16, .iconst 1, 17, 0, 0, .int 1, []), (17, .goto 4, 20, 21, 0, .null, []), (20, .iconst 0, 21, 0, 0, .int 0, []), (21, .ireturn, 22, 0, 0, .null, [])])]
theorem kX9_isWord_ok : m_okC 9 cX9_isWord kX9_isWord = true := by decide +kernel
def kX9_wantsSign : mL := [(24, [(0, .aload_n 0, 1, 0, 0, .null, []), (1, .getfield 164, 4, 9, 8, .null, []), (4, .ifCond .le 4, 7, 8, 0, .null, []), (7, .return_, 8, 0, 0, .null, []), (8, .aload_n 0, 9, 0, 0, .null, []), (9, .iload_n 1, 10, 1, 0, .null, []), (10, .invokevirtual 174, 13, 114, 146, .null, []), (13, .ifCond .eq 10, 16, 23, 0, .null, []), (16, .aload_n 0, 17, 0, 0, .null, []), (17, .invokevirtual 177, 20, 107, 145, .null, []), (20, .goto 7, 23, 27, 0, .null, []), (23, .aload_n 0, 24, 0, 0, .null, [])]),
  (28, [(24, .invokevirtual 180, 27, 113, 145, .null, []), (27, .return_, 28, 0, 0, .null, [])])]
theorem kX9_wantsSign_ok : m_okC 9 cX9_wantsSign kX9_wantsSign = true := by decide +kernel
def kX9_number : mL := [(22, [(0, .aload_n 0, 1, 0, 0, .null, []), (1, .getfield 164, 4, 9, 8, .null, []), (4, .ifCond .le 5, 7, 9, 0, .null, []), (7, .iconst 0, 8, 0, 0, .int 0, []), (8, .ireturn, 9, 0, 0, .null, []), (9, .aload_n 0, 10, 0, 0, .null, []), (10, .getfield 138, 13, 9, 4, .null, []), (13, .iconst 2, 14, 0, 0, .int 2, []), (14, .if_icmp .eq 9, 17, 23, 0, .null, []), (17, .aload_n 0, 18, 0, 0, .null, []), (18, .invokevirtual 180, 21, 113, 145, .null, []), (21, .iconst 0, 22, 0, 0, .int 0, [])]),
  (34, [(22, .ireturn, 23, 0, 0, .null, []), (23, .aload_n 0, 24, 0, 0, .null, []), (24, .getfield 157, 27, 9, 7, .null, []), (27, .istore_n 1, 28, 1, 0, .null, []), (28, .aload_n 0, 29, 0, 0, .null, []), (29, .invokevirtual 177, 32, 107, 145, .null, []), (32, .iload_n 1, 33, 1, 0, .null, []), (33, .ireturn, 34, 0, 0, .null, [])])]
theorem kX9_number_ok : m_okC 9 cX9_number kX9_number = true := by decide +kernel
def kX9_signed : mL := [(23, [(0, .aload_n 0, 1, 0, 0, .null, []), (1, .getfield 164, 4, 9, 8, .null, []), (4, .ifCond .ne 16, 7, 20, 0, .null, []), (7, .aload_n 0, 8, 0, 0, .null, []), (8, .bipush 45, 10, 0, 0, .int 45, []), (10, .invokevirtual 174, 13, 114, 146, .null, []), (13, .ifCond .eq 7, 16, 20, 0, .null, []), (16, .iconst 1, 17, 0, 0, .int 1, []), (17, .goto 4, 20, 21, 0, .null, []), (20, .iconst 0, 21, 0, 0, .int 0, []), (21, .istore_n 1, 22, 1, 0, .null, []), (22, .iload_n 1, 23, 1, 0, .null, [])]),
  (45, [(23, .ifCond .eq 7, 26, 30, 0, .null, []), (26, .aload_n 0, 27, 0, 0, .null, []), (27, .invokevirtual 177, 30, 107, 145, .null, []), (30, .aload_n 0, 31, 0, 0, .null, []), (31, .invokevirtual 183, 34, 117, 145, .null, []), (34, .istore_n 2, 35, 2, 0, .null, []), (35, .iload_n 1, 36, 1, 0, .null, []), (36, .ifCond .eq 8, 39, 44, 0, .null, []), (39, .iload_n 2, 40, 2, 0, .null, []), (40, .ineg, 41, 0, 0, .null, []), (41, .goto 4, 44, 45, 0, .null, []), (44, .iload_n 2, 45, 2, 0, .null, [])]),
  (46, [(45, .ireturn, 46, 0, 0, .null, [])])]
theorem kX9_signed_ok : m_okC 9 cX9_signed kX9_signed = true := by decide +kernel
def kX9_readEnum : mL := [(20, [(0, .aload_n 0, 1, 0, 0, .null, []), (1, .invokevirtual 177, 4, 107, 145, .null, []), (4, .aload_n 0, 5, 0, 0, .null, []), (5, .getfield 138, 8, 9, 4, .null, []), (8, .iconst 1, 9, 0, 0, .int 1, []), (9, .if_icmp .eq 8, 12, 17, 0, .null, []), (12, .aload_n 0, 13, 0, 0, .null, []), (13, .invokevirtual 180, 16, 113, 145, .null, []), (16, .return_, 17, 0, 0, .null, []), (17, .iconst 0, 18, 0, 0, .int 0, []), (18, .istore_n 1, 19, 1, 0, .null, []), (19, .iload_n 1, 20, 1, 0, .null, [])]),
  (42, [(20, .aload_n 0, 21, 0, 0, .null, []), (21, .getfield 187, 24, 9, 12, .null, []), (24, .if_icmp .ge 29, 27, 53, 0, .null, []), (27, .aload_n 0, 28, 0, 0, .null, []), (28, .getfield 21, 31, 9, 13, .null, []), (31, .iload_n 1, 32, 1, 0, .null, []), (32, .laload, 33, 0, 0, .null, []), (33, .aload_n 0, 34, 0, 0, .null, []), (34, .getfield 160, 37, 9, 6, .null, []), (37, .lcmp, 38, 0, 0, .null, []), (38, .ifCond .ne 9, 41, 47, 0, .null, []), (41, .aload_n 0, 42, 0, 0, .null, [])]),
  (67, [(42, .iconst 3, 43, 0, 0, .int 3, []), (43, .invokevirtual 170, 46, 111, 146, .null, []), (46, .return_, 47, 0, 0, .null, []), (47, .iinc 1 1, 50, 1, 0, .int 1, []), (50, .goto (-31), 53, 19, 0, .null, []), (53, .aload_n 0, 54, 0, 0, .null, []), (54, .getfield 187, 57, 9, 12, .null, []), (57, .iconst 4, 58, 0, 0, .int 4, []), (58, .if_icmp .ne 10, 61, 68, 0, .null, []), (61, .aload_n 0, 62, 0, 0, .null, []), (62, .bipush 12, 64, 0, 0, .int 12, []), (64, .invokevirtual 170, 67, 111, 146, .null, [])]),
  (87, [(67, .return_, 68, 0, 0, .null, []), (68, .aload_n 0, 69, 0, 0, .null, []), (69, .getfield 187, 72, 9, 12, .null, []), (72, .istore_n 1, 73, 1, 0, .null, []), (73, .aload_n 0, 74, 0, 0, .null, []), (74, .getfield 21, 77, 9, 13, .null, []), (77, .iload_n 1, 78, 1, 0, .null, []), (78, .aload_n 0, 79, 0, 0, .null, []), (79, .getfield 160, 82, 9, 6, .null, []), (82, .lastore, 83, 0, 0, .null, []), (83, .aload_n 0, 84, 0, 0, .null, []), (84, .getfield 24, 87, 9, 14, .null, [])]),
  (105, [(87, .iload_n 1, 88, 1, 0, .null, []), (88, .iconst 0, 89, 0, 0, .int 0, []), (89, .iastore, 90, 0, 0, .null, []), (90, .aload_n 0, 91, 0, 0, .null, []), (91, .dup, 92, 0, 0, .null, []), (92, .getfield 187, 95, 9, 12, .null, []), (95, .iconst 1, 96, 0, 0, .int 1, []), (96, .iadd, 97, 0, 0, .null, []), (97, .putfield 187, 100, 9, 12, .null, []), (100, .aload_n 0, 101, 0, 0, .null, []), (101, .invokevirtual 177, 104, 107, 145, .null, []), (104, .aload_n 0, 105, 0, 0, .null, [])]),
  (128, [(105, .bipush 123, 107, 0, 0, .int 123, []), (107, .invokevirtual 190, 110, 116, 146, .null, []), (110, .iconst 1, 111, 0, 0, .int 1, []), (111, .istore_n 2, 112, 2, 0, .null, []), (112, .iload_n 2, 113, 2, 0, .null, []), (113, .ifCond .eq 111, 116, 224, 0, .null, []), (116, .aload_n 0, 117, 0, 0, .null, []), (117, .getfield 164, 120, 9, 8, .null, []), (120, .ifCond .ne 104, 123, 224, 0, .null, []), (123, .aload_n 0, 124, 0, 0, .null, []), (124, .getfield 138, 127, 9, 4, .null, []), (127, .iconst 1, 128, 0, 0, .int 1, [])]),
  (150, [(128, .if_icmp .eq 8, 131, 136, 0, .null, []), (131, .aload_n 0, 132, 0, 0, .null, []), (132, .invokevirtual 180, 135, 113, 145, .null, []), (135, .return_, 136, 0, 0, .null, []), (136, .aload_n 0, 137, 0, 0, .null, []), (137, .iload_n 1, 138, 1, 0, .null, []), (138, .aload_n 0, 139, 0, 0, .null, []), (139, .getfield 160, 142, 9, 6, .null, []), (142, .invokevirtual 193, 145, 120, 147, .null, []), (145, .ifCond .lt 9, 148, 154, 0, .null, []), (148, .aload_n 0, 149, 0, 0, .null, []), (149, .iconst 3, 150, 0, 0, .int 3, [])]),
  (172, [(150, .invokevirtual 170, 153, 111, 146, .null, []), (153, .return_, 154, 0, 0, .null, []), (154, .aload_n 0, 155, 0, 0, .null, []), (155, .getfield 24, 158, 9, 14, .null, []), (158, .iload_n 1, 159, 1, 0, .null, []), (159, .iaload, 160, 0, 0, .null, []), (160, .bipush 16, 162, 0, 0, .int 16, []), (162, .if_icmp .ne 10, 165, 172, 0, .null, []), (165, .aload_n 0, 166, 0, 0, .null, []), (166, .bipush 12, 168, 0, 0, .int 12, []), (168, .invokevirtual 170, 171, 111, 146, .null, []), (171, .return_, 172, 0, 0, .null, [])]),
  (191, [(172, .aload_n 0, 173, 0, 0, .null, []), (173, .getfield 28, 176, 9, 15, .null, []), (176, .bipush 16, 178, 0, 0, .int 16, []), (178, .iload_n 1, 179, 1, 0, .null, []), (179, .imul, 180, 0, 0, .null, []), (180, .aload_n 0, 181, 0, 0, .null, []), (181, .getfield 24, 184, 9, 14, .null, []), (184, .iload_n 1, 185, 1, 0, .null, []), (185, .iaload, 186, 0, 0, .null, []), (186, .iadd, 187, 0, 0, .null, []), (187, .aload_n 0, 188, 0, 0, .null, []), (188, .getfield 160, 191, 9, 6, .null, [])]),
  (207, [(191, .lastore, 192, 0, 0, .null, []), (192, .aload_n 0, 193, 0, 0, .null, []), (193, .getfield 24, 196, 9, 14, .null, []), (196, .iload_n 1, 197, 1, 0, .null, []), (197, .dup2, 198, 0, 0, .null, []), (198, .iaload, 199, 0, 0, .null, []), (199, .iconst 1, 200, 0, 0, .int 1, []), (200, .iadd, 201, 0, 0, .null, []), (201, .iastore, 202, 0, 0, .null, []), (202, .aload_n 0, 203, 0, 0, .null, []), (203, .invokevirtual 177, 206, 107, 145, .null, []), (206, .aload_n 0, 207, 0, 0, .null, [])]),
  (231, [(207, .bipush 44, 209, 0, 0, .int 44, []), (209, .invokevirtual 174, 212, 114, 146, .null, []), (212, .istore_n 2, 213, 2, 0, .null, []), (213, .iload_n 2, 214, 2, 0, .null, []), (214, .ifCond .eq (-102), 217, 112, 0, .null, []), (217, .aload_n 0, 218, 0, 0, .null, []), (218, .invokevirtual 177, 221, 107, 145, .null, []), (221, .goto (-109), 224, 112, 0, .null, []), (224, .aload_n 0, 225, 0, 0, .null, []), (225, .bipush 125, 227, 0, 0, .int 125, []), (227, .invokevirtual 190, 230, 116, 146, .null, []), (230, .return_, 231, 0, 0, .null, [])])]
theorem kX9_readEnum_ok : m_okC 9 cX9_readEnum kX9_readEnum = true := by decide +kernel
def kX9_constantOf : mL := [(21, [(0, .iconst 0, 1, 0, 0, .int 0, []), (1, .istore 4, 3, 4, 0, .null, []), (3, .iload 4, 5, 4, 0, .null, []), (5, .aload_n 0, 6, 0, 0, .null, []), (6, .getfield 24, 9, 9, 14, .null, []), (9, .iload_n 1, 10, 1, 0, .null, []), (10, .iaload, 11, 0, 0, .null, []), (11, .if_icmp .ge 29, 14, 40, 0, .null, []), (14, .aload_n 0, 15, 0, 0, .null, []), (15, .getfield 28, 18, 9, 15, .null, []), (18, .bipush 16, 20, 0, 0, .int 16, []), (20, .iload_n 1, 21, 1, 0, .null, [])]),
  (41, [(21, .imul, 22, 0, 0, .null, []), (22, .iload 4, 24, 4, 0, .null, []), (24, .iadd, 25, 0, 0, .null, []), (25, .laload, 26, 0, 0, .null, []), (26, .lload_n 2, 27, 2, 0, .null, []), (27, .lcmp, 28, 0, 0, .null, []), (28, .ifCond .ne 6, 31, 34, 0, .null, []), (31, .iload 4, 33, 4, 0, .null, []), (33, .ireturn, 34, 0, 0, .null, []), (34, .iinc 4 1, 37, 4, 0, .int 1, []), (37, .goto (-34), 40, 3, 0, .null, []), (40, .iconst (-1), 41, 0, 0, .int (-1), [])]),
  (42, [(41, .ireturn, 42, 0, 0, .null, [])])]
theorem kX9_constantOf_ok : m_okC 9 cX9_constantOf kX9_constantOf = true := by decide +kernel
def kX9_readHead : mL := [(22, [(0, .aload_n 0, 1, 0, 0, .null, []), (1, .iconst 1, 2, 0, 0, .int 1, []), (2, .invokevirtual 197, 5, 115, 146, .null, []), (5, .ifCond .ne 16, 8, 21, 0, .null, []), (8, .aload_n 0, 9, 0, 0, .null, []), (9, .iconst 2, 10, 0, 0, .int 2, []), (10, .invokevirtual 197, 13, 115, 146, .null, []), (13, .ifCond .ne 8, 16, 21, 0, .null, []), (16, .aload_n 0, 17, 0, 0, .null, []), (17, .invokevirtual 180, 20, 113, 145, .null, []), (20, .return_, 21, 0, 0, .null, []), (21, .aload_n 0, 22, 0, 0, .null, [])]),
  (44, [(22, .aload_n 0, 23, 0, 0, .null, []), (23, .iconst 2, 24, 0, 0, .int 2, []), (24, .invokevirtual 197, 27, 115, 146, .null, []), (27, .putfield 200, 30, 9, 16, .null, []), (30, .aload_n 0, 31, 0, 0, .null, []), (31, .invokevirtual 177, 34, 107, 145, .null, []), (34, .aload_n 0, 35, 0, 0, .null, []), (35, .iconst 3, 36, 0, 0, .int 3, []), (36, .invokevirtual 197, 39, 115, 146, .null, []), (39, .ifCond .ne 11, 42, 50, 0, .null, []), (42, .aload_n 0, 43, 0, 0, .null, []), (43, .iconst 4, 44, 0, 0, .int 4, [])]),
  (70, [(44, .invokevirtual 197, 47, 115, 146, .null, []), (47, .ifCond .eq 23, 50, 70, 0, .null, []), (50, .aload_n 0, 51, 0, 0, .null, []), (51, .aload_n 0, 52, 0, 0, .null, []), (52, .iconst 3, 53, 0, 0, .int 3, []), (53, .invokevirtual 197, 56, 115, 146, .null, []), (56, .ifCond .eq 7, 59, 63, 0, .null, []), (59, .iconst 0, 60, 0, 0, .int 0, []), (60, .goto 4, 63, 64, 0, .null, []), (63, .iconst 1, 64, 0, 0, .int 1, []), (64, .putfield 204, 67, 9, 17, .null, []), (67, .goto 81, 70, 148, 0, .null, [])]),
  (90, [(70, .aload_n 0, 71, 0, 0, .null, []), (71, .getfield 138, 74, 9, 4, .null, []), (74, .iconst 1, 75, 0, 0, .int 1, []), (75, .if_icmp .ne 68, 78, 143, 0, .null, []), (78, .aload_n 0, 79, 0, 0, .null, []), (79, .iconst 2, 80, 0, 0, .int 2, []), (80, .putfield 204, 83, 9, 17, .null, []), (83, .aload_n 0, 84, 0, 0, .null, []), (84, .iconst (-1), 85, 0, 0, .int (-1), []), (85, .putfield 207, 88, 9, 18, .null, []), (88, .iconst 0, 89, 0, 0, .int 0, []), (89, .istore_n 1, 90, 1, 0, .null, [])]),
  (110, [(90, .iload_n 1, 91, 1, 0, .null, []), (91, .aload_n 0, 92, 0, 0, .null, []), (92, .getfield 187, 95, 9, 12, .null, []), (95, .if_icmp .ge 35, 98, 130, 0, .null, []), (98, .aload_n 0, 99, 0, 0, .null, []), (99, .aload_n 0, 100, 0, 0, .null, []), (100, .getfield 21, 103, 9, 13, .null, []), (103, .iload_n 1, 104, 1, 0, .null, []), (104, .laload, 105, 0, 0, .null, []), (105, .aload_n 0, 106, 0, 0, .null, []), (106, .getfield 160, 109, 9, 6, .null, []), (109, .lcmp, 110, 0, 0, .null, [])]),
  (138, [(110, .ifCond .ne 7, 113, 117, 0, .null, []), (113, .iload_n 1, 114, 1, 0, .null, []), (114, .goto 7, 117, 121, 0, .null, []), (117, .aload_n 0, 118, 0, 0, .null, []), (118, .getfield 207, 121, 9, 18, .null, []), (121, .putfield 207, 124, 9, 18, .null, []), (124, .iinc 1 1, 127, 1, 0, .int 1, []), (127, .goto (-37), 130, 90, 0, .null, []), (130, .aload_n 0, 131, 0, 0, .null, []), (131, .getfield 207, 134, 9, 18, .null, []), (134, .ifCond .ge 14, 137, 148, 0, .null, []), (137, .aload_n 0, 138, 0, 0, .null, [])]),
  (159, [(138, .iconst 5, 139, 0, 0, .int 5, []), (139, .invokevirtual 170, 142, 111, 146, .null, []), (142, .return_, 143, 0, 0, .null, []), (143, .aload_n 0, 144, 0, 0, .null, []), (144, .invokevirtual 180, 147, 113, 145, .null, []), (147, .return_, 148, 0, 0, .null, []), (148, .aload_n 0, 149, 0, 0, .null, []), (149, .invokevirtual 177, 152, 107, 145, .null, []), (152, .aload_n 0, 153, 0, 0, .null, []), (153, .bipush 123, 155, 0, 0, .int 123, []), (155, .invokevirtual 190, 158, 116, 146, .null, []), (158, .return_, 159, 0, 0, .null, [])])]
theorem kX9_readHead_ok : m_okC 9 cX9_readHead kX9_readHead = true := by decide +kernel
def kX9_isOther : mL := [(24, [(0, .iconst 0, 1, 0, 0, .int 0, []), (1, .istore 5, 3, 5, 0, .null, []), (3, .iload 5, 5, 5, 0, .null, []), (5, .aload_n 0, 6, 0, 0, .null, []), (6, .getfield 210, 9, 9, 21, .null, []), (9, .if_icmp .ge 57, 12, 66, 0, .null, []), (12, .aload_n 0, 13, 0, 0, .null, []), (13, .getfield 204, 16, 9, 17, .null, []), (16, .iconst 1, 17, 0, 0, .int 1, []), (17, .if_icmp .ne 30, 20, 47, 0, .null, []), (20, .aload_n 0, 21, 0, 0, .null, []), (21, .getfield 40, 24, 9, 24, .null, [])]),
  (47, [(24, .iload 5, 26, 5, 0, .null, []), (26, .laload, 27, 0, 0, .null, []), (27, .lload_n 2, 28, 2, 0, .null, []), (28, .lcmp, 29, 0, 0, .null, []), (29, .ifCond .ne 31, 32, 60, 0, .null, []), (32, .aload_n 0, 33, 0, 0, .null, []), (33, .getfield 43, 36, 9, 25, .null, []), (36, .iload 5, 38, 5, 0, .null, []), (38, .iaload, 39, 0, 0, .null, []), (39, .iload 4, 41, 4, 0, .null, []), (41, .if_icmp .ne 19, 44, 60, 0, .null, []), (44, .goto 14, 47, 58, 0, .null, [])]),
  (68, [(47, .aload_n 0, 48, 0, 0, .null, []), (48, .getfield 37, 51, 9, 23, .null, []), (51, .iload 5, 53, 5, 0, .null, []), (53, .iaload, 54, 0, 0, .null, []), (54, .iload_n 1, 55, 1, 0, .null, []), (55, .if_icmp .ne 5, 58, 60, 0, .null, []), (58, .iconst 0, 59, 0, 0, .int 0, []), (59, .ireturn, 60, 0, 0, .null, []), (60, .iinc 5 1, 63, 5, 0, .int 1, []), (63, .goto (-60), 66, 3, 0, .null, []), (66, .iconst 1, 67, 0, 0, .int 1, []), (67, .ireturn, 68, 0, 0, .null, [])])]
theorem kX9_isOther_ok : m_okC 9 cX9_isOther kX9_isOther = true := by decide +kernel
def kX9_hashOf : mL := [(17, [(0, .iconst 0, 1, 0, 0, .int 0, []), (1, .istore_n 3, 2, 3, 0, .null, []), (2, .iload_n 2, 3, 2, 0, .null, []), (3, .iconst 1, 4, 0, 0, .int 1, []), (4, .isub, 5, 0, 0, .null, []), (5, .istore 4, 7, 4, 0, .null, []), (7, .iload 4, 9, 4, 0, .null, []), (9, .ifCond .lt 27, 12, 36, 0, .null, []), (12, .bipush 31, 14, 0, 0, .int 31, []), (14, .iload_n 3, 15, 3, 0, .null, []), (15, .imul, 16, 0, 0, .null, []), (16, .lload_n 0, 17, 0, 0, .null, [])]),
  (37, [(17, .bipush 8, 19, 0, 0, .int 8, []), (19, .iload 4, 21, 4, 0, .null, []), (21, .imul, 22, 0, 0, .null, []), (22, .lushr, 23, 0, 0, .null, []), (23, .ldc2_w 213, 26, 0, 0, .long 255, []), (26, .land, 27, 0, 0, .null, []), (27, .l2i, 28, 0, 0, .null, []), (28, .iadd, 29, 0, 0, .null, []), (29, .istore_n 3, 30, 3, 0, .null, []), (30, .iinc 4 (-1), 33, 4, 0, .int (-1), []), (33, .goto (-26), 36, 7, 0, .null, []), (36, .iload_n 3, 37, 3, 0, .null, [])]),
  (38, [(37, .ireturn, 38, 0, 0, .null, [])])]
theorem kX9_hashOf_ok : m_okC 9 cX9_hashOf kX9_hashOf = true := by decide +kernel
def kX9_readLabel : mL := [(23, [(0, .aload_n 0, 1, 0, 0, .null, []), (1, .getfield 135, 4, 9, 5, .null, []), (4, .istore_n 1, 5, 1, 0, .null, []), (5, .aload_n 0, 6, 0, 0, .null, []), (6, .bipush 45, 8, 0, 0, .int 45, []), (8, .invokevirtual 174, 11, 114, 146, .null, []), (11, .ifCond .ne 27, 14, 38, 0, .null, []), (14, .aload_n 0, 15, 0, 0, .null, []), (15, .getfield 138, 18, 9, 4, .null, []), (18, .iconst 2, 19, 0, 0, .int 2, []), (19, .if_icmp .eq 19, 22, 38, 0, .null, []), (22, .aload_n 0, 23, 0, 0, .null, [])]),
  (45, [(23, .getfield 138, 26, 9, 4, .null, []), (26, .iconst 3, 27, 0, 0, .int 3, []), (27, .if_icmp .eq 11, 30, 38, 0, .null, []), (30, .aload_n 0, 31, 0, 0, .null, []), (31, .getfield 138, 34, 9, 4, .null, []), (34, .iconst 1, 35, 0, 0, .int 1, []), (35, .if_icmp .ne 7, 38, 42, 0, .null, []), (38, .iconst 1, 39, 0, 0, .int 1, []), (39, .goto 4, 42, 43, 0, .null, []), (42, .iconst 0, 43, 0, 0, .int 0, []), (43, .istore_n 2, 44, 2, 0, .null, []), (44, .iload_n 2, 45, 2, 0, .null, [])]),
  (69, [(45, .ifCond .ne 8, 48, 53, 0, .null, []), (48, .aload_n 0, 49, 0, 0, .null, []), (49, .invokevirtual 180, 52, 113, 145, .null, []), (52, .return_, 53, 0, 0, .null, []), (53, .aload_n 0, 54, 0, 0, .null, []), (54, .getfield 204, 57, 9, 17, .null, []), (57, .iconst 2, 58, 0, 0, .int 2, []), (58, .if_icmp .ne 26, 61, 84, 0, .null, []), (61, .aload_n 0, 62, 0, 0, .null, []), (62, .getfield 138, 65, 9, 4, .null, []), (65, .iconst 1, 66, 0, 0, .int 1, []), (66, .if_icmp .ne 18, 69, 84, 0, .null, [])]),
  (93, [(69, .aload_n 0, 70, 0, 0, .null, []), (70, .aload_n 0, 71, 0, 0, .null, []), (71, .getfield 207, 74, 9, 18, .null, []), (74, .aload_n 0, 75, 0, 0, .null, []), (75, .getfield 160, 78, 9, 6, .null, []), (78, .invokevirtual 193, 81, 120, 147, .null, []), (81, .goto 4, 84, 85, 0, .null, []), (84, .iconst (-1), 85, 0, 0, .int (-1), []), (85, .istore_n 3, 86, 3, 0, .null, []), (86, .aload_n 0, 87, 0, 0, .null, []), (87, .getfield 204, 90, 9, 17, .null, []), (90, .ifCond .ne 23, 93, 113, 0, .null, [])]),
  (118, [(93, .aload_n 0, 94, 0, 0, .null, []), (94, .bipush 45, 96, 0, 0, .int 45, []), (96, .invokevirtual 174, 99, 114, 146, .null, []), (99, .ifCond .ne 43, 102, 142, 0, .null, []), (102, .aload_n 0, 103, 0, 0, .null, []), (103, .getfield 138, 106, 9, 4, .null, []), (106, .iconst 2, 107, 0, 0, .int 2, []), (107, .if_icmp .eq 35, 110, 142, 0, .null, []), (110, .goto 26, 113, 136, 0, .null, []), (113, .aload_n 0, 114, 0, 0, .null, []), (114, .getfield 204, 117, 9, 17, .null, []), (117, .iconst 1, 118, 0, 0, .int 1, [])]),
  (142, [(118, .if_icmp .ne 14, 121, 132, 0, .null, []), (121, .aload_n 0, 122, 0, 0, .null, []), (122, .getfield 138, 125, 9, 4, .null, []), (125, .iconst 3, 126, 0, 0, .int 3, []), (126, .if_icmp .eq 16, 129, 142, 0, .null, []), (129, .goto 7, 132, 136, 0, .null, []), (132, .iload_n 3, 133, 3, 0, .null, []), (133, .ifCond .ge 9, 136, 142, 0, .null, []), (136, .aload_n 0, 137, 0, 0, .null, []), (137, .iconst 5, 138, 0, 0, .int 5, []), (138, .invokevirtual 170, 141, 111, 146, .null, []), (141, .return_, 142, 0, 0, .null, [])]),
  (165, [(142, .aload_n 0, 143, 0, 0, .null, []), (143, .getfield 160, 146, 9, 6, .null, []), (146, .lstore 4, 148, 4, 0, .null, []), (148, .aload_n 0, 149, 0, 0, .null, []), (149, .getfield 157, 152, 9, 7, .null, []), (152, .istore 6, 154, 6, 0, .null, []), (154, .iload_n 3, 155, 3, 0, .null, []), (155, .istore 7, 157, 7, 0, .null, []), (157, .aload_n 0, 158, 0, 0, .null, []), (158, .getfield 204, 161, 9, 17, .null, []), (161, .ifCond .ne 12, 164, 173, 0, .null, []), (164, .aload_n 0, 165, 0, 0, .null, [])]),
  (192, [(165, .invokevirtual 215, 168, 118, 145, .null, []), (168, .istore 7, 170, 7, 0, .null, []), (170, .goto 24, 173, 194, 0, .null, []), (173, .aload_n 0, 174, 0, 0, .null, []), (174, .getfield 204, 177, 9, 17, .null, []), (177, .iconst 1, 178, 0, 0, .int 1, []), (178, .if_icmp .ne 13, 181, 191, 0, .null, []), (181, .lload 4, 183, 4, 0, .null, []), (183, .iload 6, 185, 6, 0, .null, []), (185, .invokestatic 218, 188, 123, 146, .null, []), (188, .goto 4, 191, 192, 0, .null, []), (191, .iload_n 3, 192, 3, 0, .null, [])]),
  (216, [(192, .istore 7, 194, 7, 0, .null, []), (194, .aload_n 0, 195, 0, 0, .null, []), (195, .getfield 164, 198, 9, 8, .null, []), (198, .ifCond .le 4, 201, 202, 0, .null, []), (201, .return_, 202, 0, 0, .null, []), (202, .aload_n 0, 203, 0, 0, .null, []), (203, .iload 7, 205, 7, 0, .null, []), (205, .lload 4, 207, 4, 0, .null, []), (207, .iload 6, 209, 6, 0, .null, []), (209, .invokevirtual 222, 212, 122, 148, .null, []), (212, .ifCond .ne 10, 215, 222, 0, .null, []), (215, .aload_n 0, 216, 0, 0, .null, [])]),
  (238, [(216, .iconst 3, 217, 0, 0, .int 3, []), (217, .iload_n 1, 218, 1, 0, .null, []), (218, .invokevirtual 226, 221, 112, 147, .null, []), (221, .return_, 222, 0, 0, .null, []), (222, .aload_n 0, 223, 0, 0, .null, []), (223, .getfield 210, 226, 9, 21, .null, []), (226, .bipush 32, 228, 0, 0, .int 32, []), (228, .if_icmp .ne 11, 231, 239, 0, .null, []), (231, .aload_n 0, 232, 0, 0, .null, []), (232, .bipush 12, 234, 0, 0, .int 12, []), (234, .iload_n 1, 235, 1, 0, .null, []), (235, .invokevirtual 226, 238, 112, 147, .null, [])]),
  (260, [(238, .return_, 239, 0, 0, .null, []), (239, .aload_n 0, 240, 0, 0, .null, []), (240, .getfield 34, 243, 9, 22, .null, []), (243, .aload_n 0, 244, 0, 0, .null, []), (244, .getfield 210, 247, 9, 21, .null, []), (247, .aload_n 0, 248, 0, 0, .null, []), (248, .getfield 230, 251, 9, 19, .null, []), (251, .iastore, 252, 0, 0, .null, []), (252, .aload_n 0, 253, 0, 0, .null, []), (253, .getfield 37, 256, 9, 23, .null, []), (256, .aload_n 0, 257, 0, 0, .null, []), (257, .getfield 210, 260, 9, 21, .null, [])]),
  (282, [(260, .iload 7, 262, 7, 0, .null, []), (262, .iastore, 263, 0, 0, .null, []), (263, .aload_n 0, 264, 0, 0, .null, []), (264, .getfield 40, 267, 9, 24, .null, []), (267, .aload_n 0, 268, 0, 0, .null, []), (268, .getfield 210, 271, 9, 21, .null, []), (271, .lload 4, 273, 4, 0, .null, []), (273, .lastore, 274, 0, 0, .null, []), (274, .aload_n 0, 275, 0, 0, .null, []), (275, .getfield 43, 278, 9, 25, .null, []), (278, .aload_n 0, 279, 0, 0, .null, []), (279, .getfield 210, 282, 9, 21, .null, [])]),
  (303, [(282, .iload 6, 284, 6, 0, .null, []), (284, .iastore, 285, 0, 0, .null, []), (285, .aload_n 0, 286, 0, 0, .null, []), (286, .dup, 287, 0, 0, .null, []), (287, .getfield 210, 290, 9, 21, .null, []), (290, .iconst 1, 291, 0, 0, .int 1, []), (291, .iadd, 292, 0, 0, .null, []), (292, .putfield 210, 295, 9, 21, .null, []), (295, .aload_n 0, 296, 0, 0, .null, []), (296, .getfield 204, 299, 9, 17, .null, []), (299, .ifCond .eq 7, 302, 306, 0, .null, []), (302, .aload_n 0, 303, 0, 0, .null, [])]),
  (307, [(303, .invokevirtual 177, 306, 107, 145, .null, []), (306, .return_, 307, 0, 0, .null, [])])]
theorem kX9_readLabel_ok : m_okC 9 cX9_readLabel kX9_readLabel = true := by decide +kernel
def kX9_emit : mL := [(20, [(0, .aload_n 0, 1, 0, 0, .null, []), (1, .getfield 46, 4, 9, 30, .null, []), (4, .aload_n 0, 5, 0, 0, .null, []), (5, .getfield 233, 8, 9, 33, .null, []), (8, .iload_n 1, 9, 1, 0, .null, []), (9, .iastore, 10, 0, 0, .null, []), (10, .aload_n 0, 11, 0, 0, .null, []), (11, .getfield 49, 14, 9, 31, .null, []), (14, .aload_n 0, 15, 0, 0, .null, []), (15, .getfield 233, 18, 9, 33, .null, []), (18, .iload_n 2, 19, 2, 0, .null, []), (19, .iastore, 20, 0, 0, .null, [])]),
  (40, [(20, .aload_n 0, 21, 0, 0, .null, []), (21, .getfield 52, 24, 9, 32, .null, []), (24, .aload_n 0, 25, 0, 0, .null, []), (25, .getfield 233, 28, 9, 33, .null, []), (28, .iload_n 3, 29, 3, 0, .null, []), (29, .iastore, 30, 0, 0, .null, []), (30, .aload_n 0, 31, 0, 0, .null, []), (31, .dup, 32, 0, 0, .null, []), (32, .getfield 233, 35, 9, 33, .null, []), (35, .iconst 1, 36, 0, 0, .int 1, []), (36, .iadd, 37, 0, 0, .null, []), (37, .putfield 233, 40, 9, 33, .null, [])]),
  (47, [(40, .aload_n 0, 41, 0, 0, .null, []), (41, .getfield 233, 44, 9, 33, .null, []), (44, .iconst 1, 45, 0, 0, .int 1, []), (45, .isub, 46, 0, 0, .null, []), (46, .ireturn, 47, 0, 0, .null, [])])]
theorem kX9_emit_ok : m_okC 9 cX9_emit kX9_emit = true := by decide +kernel
def kX9_inScope : mL := [(18, [(0, .iconst 0, 1, 0, 0, .int 0, []), (1, .istore_n 3, 2, 3, 0, .null, []), (2, .iload_n 3, 3, 3, 0, .null, []), (3, .aload_n 0, 4, 0, 0, .null, []), (4, .getfield 236, 7, 9, 35, .null, []), (7, .if_icmp .ge 22, 10, 29, 0, .null, []), (10, .aload_n 0, 11, 0, 0, .null, []), (11, .getfield 55, 14, 9, 34, .null, []), (14, .iload_n 3, 15, 3, 0, .null, []), (15, .laload, 16, 0, 0, .null, []), (16, .lload_n 1, 17, 1, 0, .null, []), (17, .lcmp, 18, 0, 0, .null, [])]),
  (31, [(18, .ifCond .ne 5, 21, 23, 0, .null, []), (21, .iload_n 3, 22, 3, 0, .null, []), (22, .ireturn, 23, 0, 0, .null, []), (23, .iinc 3 1, 26, 3, 0, .int 1, []), (26, .goto (-24), 29, 2, 0, .null, []), (29, .iconst (-1), 30, 0, 0, .int (-1), []), (30, .ireturn, 31, 0, 0, .null, [])])]
theorem kX9_inScope_ok : m_okC 9 cX9_inScope kX9_inScope = true := by decide +kernel
def kX9_push : mL := [(20, [(0, .aload_n 0, 1, 0, 0, .null, []), (1, .getfield 58, 4, 9, 37, .null, []), (4, .aload_n 0, 5, 0, 0, .null, []), (5, .getfield 239, 8, 9, 44, .null, []), (8, .iload_n 1, 9, 1, 0, .null, []), (9, .iastore, 10, 0, 0, .null, []), (10, .aload_n 0, 11, 0, 0, .null, []), (11, .getfield 61, 14, 9, 38, .null, []), (14, .aload_n 0, 15, 0, 0, .null, []), (15, .getfield 239, 18, 9, 44, .null, []), (18, .iconst 1, 19, 0, 0, .int 1, []), (19, .bastore, 20, 0, 0, .null, [])]),
  (40, [(20, .aload_n 0, 21, 0, 0, .null, []), (21, .getfield 65, 24, 9, 39, .null, []), (24, .aload_n 0, 25, 0, 0, .null, []), (25, .getfield 239, 28, 9, 44, .null, []), (28, .aload_n 0, 29, 0, 0, .null, []), (29, .getfield 236, 32, 9, 35, .null, []), (32, .iastore, 33, 0, 0, .null, []), (33, .aload_n 0, 34, 0, 0, .null, []), (34, .dup, 35, 0, 0, .null, []), (35, .getfield 239, 38, 9, 44, .null, []), (38, .iconst 1, 39, 0, 0, .int 1, []), (39, .iadd, 40, 0, 0, .null, [])]),
  (62, [(40, .putfield 239, 43, 9, 44, .null, []), (43, .aload_n 0, 44, 0, 0, .null, []), (44, .dup, 45, 0, 0, .null, []), (45, .getfield 242, 48, 9, 45, .null, []), (48, .iload_n 1, 49, 1, 0, .null, []), (49, .iconst 1, 50, 0, 0, .int 1, []), (50, .if_icmp .eq 8, 53, 58, 0, .null, []), (53, .iload_n 1, 54, 1, 0, .null, []), (54, .iconst 2, 55, 0, 0, .int 2, []), (55, .if_icmp .ne 7, 58, 62, 0, .null, []), (58, .iconst 1, 59, 0, 0, .int 1, []), (59, .goto 4, 62, 63, 0, .null, [])]),
  (68, [(62, .iconst 0, 63, 0, 0, .int 0, []), (63, .iadd, 64, 0, 0, .null, []), (64, .putfield 242, 67, 9, 45, .null, []), (67, .return_, 68, 0, 0, .null, [])])]
theorem kX9_push_ok : m_okC 9 cX9_push kX9_push = true := by decide +kernel
def kX9_pop : mL := [(20, [(0, .aload_n 0, 1, 0, 0, .null, []), (1, .dup, 2, 0, 0, .null, []), (2, .getfield 239, 5, 9, 44, .null, []), (5, .iconst 1, 6, 0, 0, .int 1, []), (6, .isub, 7, 0, 0, .null, []), (7, .putfield 239, 10, 9, 44, .null, []), (10, .aload_n 0, 11, 0, 0, .null, []), (11, .dup, 12, 0, 0, .null, []), (12, .getfield 242, 15, 9, 45, .null, []), (15, .aload_n 0, 16, 0, 0, .null, []), (16, .getfield 58, 19, 9, 37, .null, []), (19, .aload_n 0, 20, 0, 0, .null, [])]),
  (42, [(20, .getfield 239, 23, 9, 44, .null, []), (23, .iaload, 24, 0, 0, .null, []), (24, .iconst 1, 25, 0, 0, .int 1, []), (25, .if_icmp .eq 29, 28, 54, 0, .null, []), (28, .aload_n 0, 29, 0, 0, .null, []), (29, .getfield 58, 32, 9, 37, .null, []), (32, .aload_n 0, 33, 0, 0, .null, []), (33, .getfield 239, 36, 9, 44, .null, []), (36, .iaload, 37, 0, 0, .null, []), (37, .iconst 2, 38, 0, 0, .int 2, []), (38, .if_icmp .eq 16, 41, 54, 0, .null, []), (41, .aload_n 0, 42, 0, 0, .null, [])]),
  (64, [(42, .getfield 58, 45, 9, 37, .null, []), (45, .aload_n 0, 46, 0, 0, .null, []), (46, .getfield 239, 49, 9, 44, .null, []), (49, .iaload, 50, 0, 0, .null, []), (50, .iconst 3, 51, 0, 0, .int 3, []), (51, .if_icmp .ne 7, 54, 58, 0, .null, []), (54, .iconst 1, 55, 0, 0, .int 1, []), (55, .goto 4, 58, 59, 0, .null, []), (58, .iconst 0, 59, 0, 0, .int 0, []), (59, .isub, 60, 0, 0, .null, []), (60, .putfield 242, 63, 9, 45, .null, []), (63, .return_, 64, 0, 0, .null, [])])]
theorem kX9_pop_ok : m_okC 9 cX9_pop kX9_pop = true := by decide +kernel
def kX9_through : mL := [(17, [(0, .iload_n 1, 1, 1, 0, .null, []), (1, .istore_n 2, 2, 2, 0, .null, []), (2, .iconst 1, 3, 0, 0, .int 1, []), (3, .istore_n 3, 4, 3, 0, .null, []), (4, .iload_n 3, 5, 3, 0, .null, []), (5, .ifCond .eq 240, 8, 245, 0, .null, []), (8, .aload_n 0, 9, 0, 0, .null, []), (9, .getfield 239, 12, 9, 44, .null, []), (12, .iconst 1, 13, 0, 0, .int 1, []), (13, .isub, 14, 0, 0, .null, []), (14, .istore 4, 16, 4, 0, .null, []), (16, .aload_n 0, 17, 0, 0, .null, [])]),
  (42, [(17, .getfield 58, 20, 9, 37, .null, []), (20, .iload 4, 22, 4, 0, .null, []), (22, .iaload, 23, 0, 0, .null, []), (23, .iconst 2, 24, 0, 0, .int 2, []), (24, .if_icmp .ne 86, 27, 110, 0, .null, []), (27, .aload_n 0, 28, 0, 0, .null, []), (28, .bipush 14, 30, 0, 0, .int 14, []), (30, .invokevirtual 197, 33, 115, 146, .null, []), (33, .ifCond .eq 77, 36, 110, 0, .null, []), (36, .aload_n 0, 37, 0, 0, .null, []), (37, .getfield 61, 40, 9, 38, .null, []), (40, .iload 4, 42, 4, 0, .null, [])]),
  (62, [(42, .iload_n 2, 43, 2, 0, .null, []), (43, .bastore, 44, 0, 0, .null, []), (44, .aload_n 0, 45, 0, 0, .null, []), (45, .getfield 71, 48, 9, 41, .null, []), (48, .iload 4, 50, 4, 0, .null, []), (50, .aload_n 0, 51, 0, 0, .null, []), (51, .getfield 245, 54, 9, 36, .null, []), (54, .iastore, 55, 0, 0, .null, []), (55, .aload_n 0, 56, 0, 0, .null, []), (56, .getfield 77, 59, 9, 43, .null, []), (59, .iload 4, 61, 4, 0, .null, []), (61, .aload_n 0, 62, 0, 0, .null, [])]),
  (82, [(62, .bipush 7, 64, 0, 0, .int 7, []), (64, .iconst 0, 65, 0, 0, .int 0, []), (65, .iconst 0, 66, 0, 0, .int 0, []), (66, .invokevirtual 248, 69, 125, 148, .null, []), (69, .iastore, 70, 0, 0, .null, []), (70, .aload_n 0, 71, 0, 0, .null, []), (71, .getfield 49, 74, 9, 31, .null, []), (74, .aload_n 0, 75, 0, 0, .null, []), (75, .getfield 74, 78, 9, 42, .null, []), (78, .iload 4, 80, 4, 0, .null, []), (80, .iaload, 81, 0, 0, .null, []), (81, .aload_n 0, 82, 0, 0, .null, [])]),
  (104, [(82, .getfield 233, 85, 9, 33, .null, []), (85, .iastore, 86, 0, 0, .null, []), (86, .aload_n 0, 87, 0, 0, .null, []), (87, .aload_n 0, 88, 0, 0, .null, []), (88, .getfield 68, 91, 9, 40, .null, []), (91, .iload 4, 93, 4, 0, .null, []), (93, .iaload, 94, 0, 0, .null, []), (94, .putfield 245, 97, 9, 36, .null, []), (97, .aload_n 0, 98, 0, 0, .null, []), (98, .getfield 58, 101, 9, 37, .null, []), (101, .iload 4, 103, 4, 0, .null, []), (103, .iconst 3, 104, 0, 0, .int 3, [])]),
  (125, [(104, .iastore, 105, 0, 0, .null, []), (105, .aload_n 0, 106, 0, 0, .null, []), (106, .invokevirtual 177, 109, 107, 145, .null, []), (109, .return_, 110, 0, 0, .null, []), (110, .aload_n 0, 111, 0, 0, .null, []), (111, .getfield 58, 114, 9, 37, .null, []), (114, .iload 4, 116, 4, 0, .null, []), (116, .iaload, 117, 0, 0, .null, []), (117, .iconst 2, 118, 0, 0, .int 2, []), (118, .if_icmp .ne 44, 121, 162, 0, .null, []), (121, .aload_n 0, 122, 0, 0, .null, []), (122, .getfield 49, 125, 9, 31, .null, [])]),
  (146, [(125, .aload_n 0, 126, 0, 0, .null, []), (126, .getfield 74, 129, 9, 42, .null, []), (129, .iload 4, 131, 4, 0, .null, []), (131, .iaload, 132, 0, 0, .null, []), (132, .aload_n 0, 133, 0, 0, .null, []), (133, .getfield 233, 136, 9, 33, .null, []), (136, .iastore, 137, 0, 0, .null, []), (137, .aload_n 0, 138, 0, 0, .null, []), (138, .dup, 139, 0, 0, .null, []), (139, .getfield 245, 142, 9, 36, .null, []), (142, .aload_n 0, 143, 0, 0, .null, []), (143, .getfield 68, 146, 9, 40, .null, [])]),
  (168, [(146, .iload 4, 148, 4, 0, .null, []), (148, .iaload, 149, 0, 0, .null, []), (149, .iand, 150, 0, 0, .null, []), (150, .putfield 245, 153, 9, 36, .null, []), (153, .iconst 1, 154, 0, 0, .int 1, []), (154, .istore_n 2, 155, 2, 0, .null, []), (155, .aload_n 0, 156, 0, 0, .null, []), (156, .invokevirtual 252, 159, 128, 145, .null, []), (159, .goto 83, 162, 242, 0, .null, []), (162, .aload_n 0, 163, 0, 0, .null, []), (163, .getfield 58, 166, 9, 37, .null, []), (166, .iload 4, 168, 4, 0, .null, [])]),
  (189, [(168, .iaload, 169, 0, 0, .null, []), (169, .iconst 3, 170, 0, 0, .int 3, []), (170, .if_icmp .ne 62, 173, 232, 0, .null, []), (173, .aload_n 0, 174, 0, 0, .null, []), (174, .getfield 49, 177, 9, 31, .null, []), (177, .aload_n 0, 178, 0, 0, .null, []), (178, .getfield 77, 181, 9, 43, .null, []), (181, .iload 4, 183, 4, 0, .null, []), (183, .iaload, 184, 0, 0, .null, []), (184, .aload_n 0, 185, 0, 0, .null, []), (185, .getfield 233, 188, 9, 33, .null, []), (188, .iastore, 189, 0, 0, .null, [])]),
  (210, [(189, .aload_n 0, 190, 0, 0, .null, []), (190, .dup, 191, 0, 0, .null, []), (191, .getfield 245, 194, 9, 36, .null, []), (194, .aload_n 0, 195, 0, 0, .null, []), (195, .getfield 71, 198, 9, 41, .null, []), (198, .iload 4, 200, 4, 0, .null, []), (200, .iaload, 201, 0, 0, .null, []), (201, .iand, 202, 0, 0, .null, []), (202, .putfield 245, 205, 9, 36, .null, []), (205, .iload_n 2, 206, 2, 0, .null, []), (206, .ifCond .ne 13, 209, 219, 0, .null, []), (209, .aload_n 0, 210, 0, 0, .null, [])]),
  (233, [(210, .getfield 61, 213, 9, 38, .null, []), (213, .iload 4, 215, 4, 0, .null, []), (215, .baload, 216, 0, 0, .null, []), (216, .ifCond .eq 7, 219, 223, 0, .null, []), (219, .iconst 1, 220, 0, 0, .int 1, []), (220, .goto 4, 223, 224, 0, .null, []), (223, .iconst 0, 224, 0, 0, .int 0, []), (224, .istore_n 2, 225, 2, 0, .null, []), (225, .aload_n 0, 226, 0, 0, .null, []), (226, .invokevirtual 252, 229, 128, 145, .null, []), (229, .goto 13, 232, 242, 0, .null, []), (232, .aload_n 0, 233, 0, 0, .null, [])]),
  (246, [(233, .getfield 61, 236, 9, 38, .null, []), (236, .iload 4, 238, 4, 0, .null, []), (238, .iload_n 2, 239, 2, 0, .null, []), (239, .bastore, 240, 0, 0, .null, []), (240, .iconst 0, 241, 0, 0, .int 0, []), (241, .istore_n 3, 242, 3, 0, .null, []), (242, .goto (-238), 245, 4, 0, .null, []), (245, .return_, 246, 0, 0, .null, [])])]
theorem kX9_through_ok : m_okC 9 cX9_through kX9_through = true := by decide +kernel
def kX9_isList : mL := [(22, [(0, .aload_n 0, 1, 0, 0, .null, []), (1, .getfield 58, 4, 9, 37, .null, []), (4, .aload_n 0, 5, 0, 0, .null, []), (5, .getfield 239, 8, 9, 44, .null, []), (8, .iconst 1, 9, 0, 0, .int 1, []), (9, .isub, 10, 0, 0, .null, []), (10, .iaload, 11, 0, 0, .null, []), (11, .ifCond .eq 18, 14, 29, 0, .null, []), (14, .aload_n 0, 15, 0, 0, .null, []), (15, .getfield 58, 18, 9, 37, .null, []), (18, .aload_n 0, 19, 0, 0, .null, []), (19, .getfield 239, 22, 9, 44, .null, [])]),
  (35, [(22, .iconst 1, 23, 0, 0, .int 1, []), (23, .isub, 24, 0, 0, .null, []), (24, .iaload, 25, 0, 0, .null, []), (25, .iconst 1, 26, 0, 0, .int 1, []), (26, .if_icmp .ne 7, 29, 33, 0, .null, []), (29, .iconst 1, 30, 0, 0, .int 1, []), (30, .goto 4, 33, 34, 0, .null, []), (33, .iconst 0, 34, 0, 0, .int 0, []), (34, .ireturn, 35, 0, 0, .null, [])])]
theorem kX9_isList_ok : m_okC 9 cX9_isList kX9_isList = true := by decide +kernel
def kX9_begin : mL := [(22, [(0, .aload_n 0, 1, 0, 0, .null, []), (1, .invokevirtual 255, 4, 130, 145, .null, []), (4, .ifCond .eq 23, 7, 27, 0, .null, []), (7, .aload_n 0, 8, 0, 0, .null, []), (8, .getfield 61, 11, 9, 38, .null, []), (11, .aload_n 0, 12, 0, 0, .null, []), (12, .getfield 239, 15, 9, 44, .null, []), (15, .iconst 1, 16, 0, 0, .int 1, []), (16, .isub, 17, 0, 0, .null, []), (17, .baload, 18, 0, 0, .null, []), (18, .ifCond .ne 9, 21, 27, 0, .null, []), (21, .aload_n 0, 22, 0, 0, .null, [])]),
  (46, [(22, .bipush 9, 24, 0, 0, .int 9, []), (24, .invokevirtual 170, 27, 111, 146, .null, []), (27, .aload_n 0, 28, 0, 0, .null, []), (28, .dup, 29, 0, 0, .null, []), (29, .getfield 259, 32, 9, 26, .null, []), (32, .iconst 1, 33, 0, 0, .int 1, []), (33, .iadd, 34, 0, 0, .null, []), (34, .putfield 259, 37, 9, 26, .null, []), (37, .aload_n 0, 38, 0, 0, .null, []), (38, .getfield 259, 41, 9, 26, .null, []), (41, .bipush 120, 43, 0, 0, .int 120, []), (43, .if_icmp .gt 12, 46, 55, 0, .null, [])]),
  (62, [(46, .aload_n 0, 47, 0, 0, .null, []), (47, .getfield 242, 50, 9, 45, .null, []), (50, .bipush 10, 52, 0, 0, .int 10, []), (52, .if_icmp .le 9, 55, 61, 0, .null, []), (55, .aload_n 0, 56, 0, 0, .null, []), (56, .bipush 12, 58, 0, 0, .int 12, []), (58, .invokevirtual 170, 61, 111, 146, .null, []), (61, .return_, 62, 0, 0, .null, [])])]
theorem kX9_begin_ok : m_okC 9 cX9_begin kX9_begin = true := by decide +kernel
end
section
def kX9_dead : mL := [(6, [(0, .aload_n 0, 1, 0, 0, .null, []), (1, .iconst (-1), 2, 0, 0, .int (-1), []), (2, .putfield 245, 5, 9, 36, .null, []), (5, .return_, 6, 0, 0, .null, [])])]
theorem kX9_dead_ok : m_okC 9 cX9_dead kX9_dead = true := by decide +kernel
def kX9_simple : mL := [(22, [(0, .aload_n 0, 1, 0, 0, .null, []), (1, .getfield 138, 4, 9, 4, .null, []), (4, .iconst 1, 5, 0, 0, .int 1, []), (5, .if_icmp .ne 89, 8, 94, 0, .null, []), (8, .aload_n 0, 9, 0, 0, .null, []), (9, .aload_n 0, 10, 0, 0, .null, []), (10, .getfield 160, 13, 9, 6, .null, []), (13, .invokevirtual 262, 16, 126, 146, .null, []), (16, .istore_n 1, 17, 1, 0, .null, []), (17, .iload_n 1, 18, 1, 0, .null, []), (18, .ifCond .ge 10, 21, 28, 0, .null, []), (21, .aload_n 0, 22, 0, 0, .null, [])]),
  (45, [(22, .bipush 7, 24, 0, 0, .int 7, []), (24, .invokevirtual 170, 27, 111, 146, .null, []), (27, .return_, 28, 0, 0, .null, []), (28, .aload_n 0, 29, 0, 0, .null, []), (29, .invokevirtual 266, 32, 131, 145, .null, []), (32, .aload_n 0, 33, 0, 0, .null, []), (33, .getfield 164, 36, 9, 8, .null, []), (36, .ifCond .le 4, 39, 40, 0, .null, []), (39, .return_, 40, 0, 0, .null, []), (40, .aload_n 0, 41, 0, 0, .null, []), (41, .invokevirtual 177, 44, 107, 145, .null, []), (44, .aload_n 0, 45, 0, 0, .null, [])]),
  (69, [(45, .bipush 61, 47, 0, 0, .int 61, []), (47, .invokevirtual 190, 50, 116, 146, .null, []), (50, .aload_n 0, 51, 0, 0, .null, []), (51, .invokevirtual 183, 54, 117, 145, .null, []), (54, .istore_n 2, 55, 2, 0, .null, []), (55, .aload_n 0, 56, 0, 0, .null, []), (56, .bipush 59, 58, 0, 0, .int 59, []), (58, .invokevirtual 190, 61, 116, 146, .null, []), (61, .aload_n 0, 62, 0, 0, .null, []), (62, .getfield 164, 65, 9, 8, .null, []), (65, .ifCond .ne 28, 68, 93, 0, .null, []), (68, .aload_n 0, 69, 0, 0, .null, [])]),
  (85, [(69, .iconst 2, 70, 0, 0, .int 2, []), (70, .iload_n 1, 71, 1, 0, .null, []), (71, .iload_n 2, 72, 2, 0, .null, []), (72, .invokevirtual 248, 75, 125, 148, .null, []), (75, .pop, 76, 0, 0, .null, []), (76, .aload_n 0, 77, 0, 0, .null, []), (77, .dup, 78, 0, 0, .null, []), (78, .getfield 245, 81, 9, 36, .null, []), (81, .iconst 1, 82, 0, 0, .int 1, []), (82, .iload_n 1, 83, 1, 0, .null, []), (83, .ishl, 84, 0, 0, .null, []), (84, .ior, 85, 0, 0, .null, [])]),
  (106, [(85, .putfield 245, 88, 9, 36, .null, []), (88, .aload_n 0, 89, 0, 0, .null, []), (89, .iconst 1, 90, 0, 0, .int 1, []), (90, .invokevirtual 269, 93, 129, 146, .null, []), (93, .return_, 94, 0, 0, .null, []), (94, .aload_n 0, 95, 0, 0, .null, []), (95, .getfield 157, 98, 9, 7, .null, []), (98, .istore_n 1, 99, 1, 0, .null, []), (99, .iload_n 1, 100, 1, 0, .null, []), (100, .bipush 10, 102, 0, 0, .int 10, []), (102, .if_icmp .ne 17, 105, 119, 0, .null, []), (105, .aload_n 0, 106, 0, 0, .null, [])]),
  (131, [(106, .getfield 200, 109, 9, 16, .null, []), (109, .ifCond .eq 10, 112, 119, 0, .null, []), (112, .aload_n 0, 113, 0, 0, .null, []), (113, .bipush 8, 115, 0, 0, .int 8, []), (115, .invokevirtual 170, 118, 111, 146, .null, []), (118, .return_, 119, 0, 0, .null, []), (119, .aload_n 0, 120, 0, 0, .null, []), (120, .invokevirtual 266, 123, 131, 145, .null, []), (123, .aload_n 0, 124, 0, 0, .null, []), (124, .getfield 164, 127, 9, 8, .null, []), (127, .ifCond .le 4, 130, 131, 0, .null, []), (130, .return_, 131, 0, 0, .null, [])]),
  (152, [(131, .aload_n 0, 132, 0, 0, .null, []), (132, .invokevirtual 177, 135, 107, 145, .null, []), (135, .iload_n 1, 136, 1, 0, .null, []), (136, .bipush 7, 138, 0, 0, .int 7, []), (138, .if_icmp .ne 17, 141, 155, 0, .null, []), (141, .aload_n 0, 142, 0, 0, .null, []), (142, .iconst 0, 143, 0, 0, .int 0, []), (143, .aload_n 0, 144, 0, 0, .null, []), (144, .invokevirtual 183, 147, 117, 145, .null, []), (147, .iconst 0, 148, 0, 0, .int 0, []), (148, .invokevirtual 248, 151, 125, 148, .null, []), (151, .pop, 152, 0, 0, .null, [])]),
  (176, [(152, .goto 52, 155, 204, 0, .null, []), (155, .iload_n 1, 156, 1, 0, .null, []), (156, .bipush 9, 158, 0, 0, .int 9, []), (158, .if_icmp .ne 10, 161, 168, 0, .null, []), (161, .aload_n 0, 162, 0, 0, .null, []), (162, .invokevirtual 273, 165, 134, 145, .null, []), (165, .goto 39, 168, 204, 0, .null, []), (168, .iload_n 1, 169, 1, 0, .null, []), (169, .bipush 10, 171, 0, 0, .int 10, []), (171, .if_icmp .ne 18, 174, 189, 0, .null, []), (174, .aload_n 0, 175, 0, 0, .null, []), (175, .iconst 3, 176, 0, 0, .int 3, [])]),
  (196, [(176, .iconst 0, 177, 0, 0, .int 0, []), (177, .iconst 0, 178, 0, 0, .int 0, []), (178, .invokevirtual 248, 181, 125, 148, .null, []), (181, .pop, 182, 0, 0, .null, []), (182, .aload_n 0, 183, 0, 0, .null, []), (183, .invokevirtual 276, 186, 132, 145, .null, []), (186, .goto 18, 189, 204, 0, .null, []), (189, .aload_n 0, 190, 0, 0, .null, []), (190, .iconst 5, 191, 0, 0, .int 5, []), (191, .aload_n 0, 192, 0, 0, .null, []), (192, .invokevirtual 183, 195, 117, 145, .null, []), (195, .iconst 0, 196, 0, 0, .int 0, [])]),
  (219, [(196, .invokevirtual 248, 199, 125, 148, .null, []), (199, .pop, 200, 0, 0, .null, []), (200, .aload_n 0, 201, 0, 0, .null, []), (201, .invokevirtual 276, 204, 132, 145, .null, []), (204, .aload_n 0, 205, 0, 0, .null, []), (205, .bipush 59, 207, 0, 0, .int 59, []), (207, .invokevirtual 190, 210, 116, 146, .null, []), (210, .aload_n 0, 211, 0, 0, .null, []), (211, .getfield 164, 214, 9, 8, .null, []), (214, .ifCond .ne 24, 217, 238, 0, .null, []), (217, .aload_n 0, 218, 0, 0, .null, []), (218, .iload_n 1, 219, 1, 0, .null, [])]),
  (239, [(219, .bipush 7, 221, 0, 0, .int 7, []), (221, .if_icmp .eq 9, 224, 230, 0, .null, []), (224, .iload_n 1, 225, 1, 0, .null, []), (225, .bipush 9, 227, 0, 0, .int 9, []), (227, .if_icmp .ne 7, 230, 234, 0, .null, []), (230, .iconst 1, 231, 0, 0, .int 1, []), (231, .goto 4, 234, 235, 0, .null, []), (234, .iconst 0, 235, 0, 0, .int 0, []), (235, .invokevirtual 269, 238, 129, 146, .null, []), (238, .return_, 239, 0, 0, .null, [])])]
theorem kX9_simple_ok : m_okC 9 cX9_simple kX9_simple = true := by decide +kernel
def kX9_use : mL := [(22, [(0, .aload_n 0, 1, 0, 0, .null, []), (1, .getfield 138, 4, 9, 4, .null, []), (4, .iconst 1, 5, 0, 0, .int 1, []), (5, .if_icmp .eq 8, 8, 13, 0, .null, []), (8, .aload_n 0, 9, 0, 0, .null, []), (9, .invokevirtual 180, 12, 113, 145, .null, []), (12, .return_, 13, 0, 0, .null, []), (13, .aload_n 0, 14, 0, 0, .null, []), (14, .aload_n 0, 15, 0, 0, .null, []), (15, .getfield 160, 18, 9, 6, .null, []), (18, .invokevirtual 262, 21, 126, 146, .null, []), (21, .istore_n 1, 22, 1, 0, .null, [])]),
  (43, [(22, .iload_n 1, 23, 1, 0, .null, []), (23, .ifCond .lt 14, 26, 37, 0, .null, []), (26, .aload_n 0, 27, 0, 0, .null, []), (27, .getfield 245, 30, 9, 36, .null, []), (30, .iload_n 1, 31, 1, 0, .null, []), (31, .ishr, 32, 0, 0, .null, []), (32, .iconst 1, 33, 0, 0, .int 1, []), (33, .iand, 34, 0, 0, .null, []), (34, .ifCond .ne 10, 37, 44, 0, .null, []), (37, .aload_n 0, 38, 0, 0, .null, []), (38, .bipush 7, 40, 0, 0, .int 7, []), (40, .invokevirtual 170, 43, 111, 146, .null, [])]),
  (57, [(43, .return_, 44, 0, 0, .null, []), (44, .aload_n 0, 45, 0, 0, .null, []), (45, .iconst 1, 46, 0, 0, .int 1, []), (46, .iload_n 1, 47, 1, 0, .null, []), (47, .iconst 0, 48, 0, 0, .int 0, []), (48, .invokevirtual 248, 51, 125, 148, .null, []), (51, .pop, 52, 0, 0, .null, []), (52, .aload_n 0, 53, 0, 0, .null, []), (53, .invokevirtual 177, 56, 107, 145, .null, []), (56, .return_, 57, 0, 0, .null, [])])]
theorem kX9_use_ok : m_okC 9 cX9_use kX9_use = true := by decide +kernel
def kX9_let : mL := [(24, [(0, .aload_n 0, 1, 0, 0, .null, []), (1, .invokevirtual 266, 4, 131, 145, .null, []), (4, .aload_n 0, 5, 0, 0, .null, []), (5, .getfield 164, 8, 9, 8, .null, []), (8, .ifCond .le 4, 11, 12, 0, .null, []), (11, .return_, 12, 0, 0, .null, []), (12, .aload_n 0, 13, 0, 0, .null, []), (13, .invokevirtual 177, 16, 107, 145, .null, []), (16, .aload_n 0, 17, 0, 0, .null, []), (17, .getfield 138, 20, 9, 4, .null, []), (20, .iconst 1, 21, 0, 0, .int 1, []), (21, .if_icmp .eq 8, 24, 29, 0, .null, [])]),
  (47, [(24, .aload_n 0, 25, 0, 0, .null, []), (25, .invokevirtual 180, 28, 113, 145, .null, []), (28, .return_, 29, 0, 0, .null, []), (29, .aload_n 0, 30, 0, 0, .null, []), (30, .aload_n 0, 31, 0, 0, .null, []), (31, .getfield 160, 34, 9, 6, .null, []), (34, .invokevirtual 262, 37, 126, 146, .null, []), (37, .ifCond .lt 10, 40, 47, 0, .null, []), (40, .aload_n 0, 41, 0, 0, .null, []), (41, .bipush 6, 43, 0, 0, .int 6, []), (43, .invokevirtual 170, 46, 111, 146, .null, []), (46, .return_, 47, 0, 0, .null, [])]),
  (69, [(47, .aload_n 0, 48, 0, 0, .null, []), (48, .getfield 236, 51, 9, 35, .null, []), (51, .bipush 20, 53, 0, 0, .int 20, []), (53, .if_icmp .ne 10, 56, 63, 0, .null, []), (56, .aload_n 0, 57, 0, 0, .null, []), (57, .bipush 12, 59, 0, 0, .int 12, []), (59, .invokevirtual 170, 62, 111, 146, .null, []), (62, .return_, 63, 0, 0, .null, []), (63, .aload_n 0, 64, 0, 0, .null, []), (64, .getfield 236, 67, 9, 35, .null, []), (67, .istore_n 1, 68, 1, 0, .null, []), (68, .aload_n 0, 69, 0, 0, .null, [])]),
  (89, [(69, .getfield 55, 72, 9, 34, .null, []), (72, .iload_n 1, 73, 1, 0, .null, []), (73, .aload_n 0, 74, 0, 0, .null, []), (74, .getfield 160, 77, 9, 6, .null, []), (77, .lastore, 78, 0, 0, .null, []), (78, .aload_n 0, 79, 0, 0, .null, []), (79, .dup, 80, 0, 0, .null, []), (80, .getfield 236, 83, 9, 35, .null, []), (83, .iconst 1, 84, 0, 0, .int 1, []), (84, .iadd, 85, 0, 0, .null, []), (85, .putfield 236, 88, 9, 35, .null, []), (88, .aload_n 0, 89, 0, 0, .null, [])]),
  (107, [(89, .dup, 90, 0, 0, .null, []), (90, .getfield 245, 93, 9, 36, .null, []), (93, .iconst 1, 94, 0, 0, .int 1, []), (94, .iload_n 1, 95, 1, 0, .null, []), (95, .ishl, 96, 0, 0, .null, []), (96, .iconst (-1), 97, 0, 0, .int (-1), []), (97, .ixor, 98, 0, 0, .null, []), (98, .iand, 99, 0, 0, .null, []), (99, .putfield 245, 102, 9, 36, .null, []), (102, .aload_n 0, 103, 0, 0, .null, []), (103, .invokevirtual 177, 106, 107, 145, .null, []), (106, .aload_n 0, 107, 0, 0, .null, [])]),
  (130, [(107, .getfield 164, 110, 9, 8, .null, []), (110, .ifCond .ne 39, 113, 149, 0, .null, []), (113, .aload_n 0, 114, 0, 0, .null, []), (114, .bipush 61, 116, 0, 0, .int 61, []), (116, .invokevirtual 174, 119, 114, 146, .null, []), (119, .ifCond .eq 30, 122, 149, 0, .null, []), (122, .aload_n 0, 123, 0, 0, .null, []), (123, .invokevirtual 177, 126, 107, 145, .null, []), (126, .aload_n 0, 127, 0, 0, .null, []), (127, .iconst 2, 128, 0, 0, .int 2, []), (128, .iload_n 1, 129, 1, 0, .null, []), (129, .aload_n 0, 130, 0, 0, .null, [])]),
  (150, [(130, .invokevirtual 183, 133, 117, 145, .null, []), (133, .invokevirtual 248, 136, 125, 148, .null, []), (136, .pop, 137, 0, 0, .null, []), (137, .aload_n 0, 138, 0, 0, .null, []), (138, .dup, 139, 0, 0, .null, []), (139, .getfield 245, 142, 9, 36, .null, []), (142, .iconst 1, 143, 0, 0, .int 1, []), (143, .iload_n 1, 144, 1, 0, .null, []), (144, .ishl, 145, 0, 0, .null, []), (145, .ior, 146, 0, 0, .null, []), (146, .putfield 245, 149, 9, 36, .null, []), (149, .aload_n 0, 150, 0, 0, .null, [])]),
  (168, [(150, .bipush 59, 152, 0, 0, .int 59, []), (152, .invokevirtual 190, 155, 116, 146, .null, []), (155, .aload_n 0, 156, 0, 0, .null, []), (156, .getfield 164, 159, 9, 8, .null, []), (159, .ifCond .ne 8, 162, 167, 0, .null, []), (162, .aload_n 0, 163, 0, 0, .null, []), (163, .iconst 1, 164, 0, 0, .int 1, []), (164, .invokevirtual 269, 167, 129, 146, .null, []), (167, .return_, 168, 0, 0, .null, [])])]
theorem kX9_let_ok : m_okC 9 cX9_let kX9_let = true := by decide +kernel
def kX9_yieldStmt : mL := [(25, [(0, .aload_n 0, 1, 0, 0, .null, []), (1, .getfield 200, 4, 9, 16, .null, []), (4, .ifCond .ne 10, 7, 14, 0, .null, []), (7, .aload_n 0, 8, 0, 0, .null, []), (8, .bipush 8, 10, 0, 0, .int 8, []), (10, .invokevirtual 170, 13, 111, 146, .null, []), (13, .return_, 14, 0, 0, .null, []), (14, .aload_n 0, 15, 0, 0, .null, []), (15, .invokevirtual 266, 18, 131, 145, .null, []), (18, .aload_n 0, 19, 0, 0, .null, []), (19, .getfield 164, 22, 9, 8, .null, []), (22, .ifCond .le 4, 25, 26, 0, .null, [])]),
  (45, [(25, .return_, 26, 0, 0, .null, []), (26, .aload_n 0, 27, 0, 0, .null, []), (27, .invokevirtual 177, 30, 107, 145, .null, []), (30, .aload_n 0, 31, 0, 0, .null, []), (31, .iconst 4, 32, 0, 0, .int 4, []), (32, .aload_n 0, 33, 0, 0, .null, []), (33, .invokevirtual 215, 36, 118, 145, .null, []), (36, .iconst 0, 37, 0, 0, .int 0, []), (37, .invokevirtual 248, 40, 125, 148, .null, []), (40, .pop, 41, 0, 0, .null, []), (41, .aload_n 0, 42, 0, 0, .null, []), (42, .invokevirtual 276, 45, 132, 145, .null, [])]),
  (64, [(45, .aload_n 0, 46, 0, 0, .null, []), (46, .bipush 59, 48, 0, 0, .int 59, []), (48, .invokevirtual 190, 51, 116, 146, .null, []), (51, .aload_n 0, 52, 0, 0, .null, []), (52, .getfield 164, 55, 9, 8, .null, []), (55, .ifCond .ne 8, 58, 63, 0, .null, []), (58, .aload_n 0, 59, 0, 0, .null, []), (59, .iconst 0, 60, 0, 0, .int 0, []), (60, .invokevirtual 269, 63, 129, 146, .null, []), (63, .return_, 64, 0, 0, .null, [])])]
theorem kX9_yieldStmt_ok : m_okC 9 cX9_yieldStmt kX9_yieldStmt = true := by decide +kernel
def kX9_isSimple : mL := [(25, [(0, .aload_n 0, 1, 0, 0, .null, []), (1, .getfield 138, 4, 9, 4, .null, []), (4, .iconst 1, 5, 0, 0, .int 1, []), (5, .if_icmp .eq 47, 8, 52, 0, .null, []), (8, .aload_n 0, 9, 0, 0, .null, []), (9, .getfield 138, 12, 9, 4, .null, []), (12, .iconst 5, 13, 0, 0, .int 5, []), (13, .if_icmp .ne 43, 16, 56, 0, .null, []), (16, .aload_n 0, 17, 0, 0, .null, []), (17, .getfield 157, 20, 9, 7, .null, []), (20, .bipush 7, 22, 0, 0, .int 7, []), (22, .if_icmp .eq 30, 25, 52, 0, .null, [])]),
  (52, [(25, .aload_n 0, 26, 0, 0, .null, []), (26, .getfield 157, 29, 9, 7, .null, []), (29, .bipush 9, 31, 0, 0, .int 9, []), (31, .if_icmp .eq 21, 34, 52, 0, .null, []), (34, .aload_n 0, 35, 0, 0, .null, []), (35, .getfield 157, 38, 9, 7, .null, []), (38, .bipush 10, 40, 0, 0, .int 10, []), (40, .if_icmp .eq 12, 43, 52, 0, .null, []), (43, .aload_n 0, 44, 0, 0, .null, []), (44, .getfield 157, 47, 9, 7, .null, []), (47, .bipush 12, 49, 0, 0, .int 12, []), (49, .if_icmp .ne 7, 52, 56, 0, .null, [])]),
  (58, [(52, .iconst 1, 53, 0, 0, .int 1, []), (53, .goto 4, 56, 57, 0, .null, []), (56, .iconst 0, 57, 0, 0, .int 0, []), (57, .ireturn, 58, 0, 0, .null, [])])]
theorem kX9_isSimple_ok : m_okC 9 cX9_isSimple kX9_isSimple = true := by decide +kernel
def kX9_stmt : mL := [(25, [(0, .aload_n 0, 1, 0, 0, .null, []), (1, .bipush 123, 3, 0, 0, .int 123, []), (3, .invokevirtual 174, 6, 114, 146, .null, []), (6, .ifCond .eq 19, 9, 25, 0, .null, []), (9, .aload_n 0, 10, 0, 0, .null, []), (10, .invokevirtual 266, 13, 131, 145, .null, []), (13, .aload_n 0, 14, 0, 0, .null, []), (14, .invokevirtual 177, 17, 107, 145, .null, []), (17, .aload_n 0, 18, 0, 0, .null, []), (18, .iconst 1, 19, 0, 0, .int 1, []), (19, .invokevirtual 279, 22, 127, 146, .null, []), (22, .goto 129, 25, 151, 0, .null, [])]),
  (51, [(25, .aload_n 0, 26, 0, 0, .null, []), (26, .bipush 8, 28, 0, 0, .int 8, []), (28, .invokevirtual 197, 31, 115, 146, .null, []), (31, .ifCond .eq 10, 34, 41, 0, .null, []), (34, .aload_n 0, 35, 0, 0, .null, []), (35, .invokevirtual 282, 38, 135, 145, .null, []), (38, .goto 113, 41, 151, 0, .null, []), (41, .aload_n 0, 42, 0, 0, .null, []), (42, .bipush 13, 44, 0, 0, .int 13, []), (44, .invokevirtual 197, 47, 115, 146, .null, []), (47, .ifCond .eq 70, 50, 117, 0, .null, []), (50, .aload_n 0, 51, 0, 0, .null, [])]),
  (71, [(51, .invokevirtual 266, 54, 131, 145, .null, []), (54, .aload_n 0, 55, 0, 0, .null, []), (55, .invokevirtual 177, 58, 107, 145, .null, []), (58, .aload_n 0, 59, 0, 0, .null, []), (59, .dup, 60, 0, 0, .null, []), (60, .getfield 245, 63, 9, 36, .null, []), (63, .iconst 1, 64, 0, 0, .int 1, []), (64, .aload_n 0, 65, 0, 0, .null, []), (65, .getfield 236, 68, 9, 35, .null, []), (68, .ishl, 69, 0, 0, .null, []), (69, .iconst 1, 70, 0, 0, .int 1, []), (70, .isub, 71, 0, 0, .null, [])]),
  (91, [(71, .iand, 72, 0, 0, .null, []), (72, .putfield 245, 75, 9, 36, .null, []), (75, .aload_n 0, 76, 0, 0, .null, []), (76, .iconst 2, 77, 0, 0, .int 2, []), (77, .invokevirtual 279, 80, 127, 146, .null, []), (80, .aload_n 0, 81, 0, 0, .null, []), (81, .getfield 68, 84, 9, 40, .null, []), (84, .aload_n 0, 85, 0, 0, .null, []), (85, .getfield 239, 88, 9, 44, .null, []), (88, .iconst 1, 89, 0, 0, .int 1, []), (89, .isub, 90, 0, 0, .null, []), (90, .aload_n 0, 91, 0, 0, .null, [])]),
  (110, [(91, .getfield 245, 94, 9, 36, .null, []), (94, .iastore, 95, 0, 0, .null, []), (95, .aload_n 0, 96, 0, 0, .null, []), (96, .getfield 74, 99, 9, 42, .null, []), (99, .aload_n 0, 100, 0, 0, .null, []), (100, .getfield 239, 103, 9, 44, .null, []), (103, .iconst 1, 104, 0, 0, .int 1, []), (104, .isub, 105, 0, 0, .null, []), (105, .aload_n 0, 106, 0, 0, .null, []), (106, .bipush 6, 108, 0, 0, .int 6, []), (108, .iconst 0, 109, 0, 0, .int 0, []), (109, .iconst 0, 110, 0, 0, .int 0, [])]),
  (137, [(110, .invokevirtual 248, 113, 125, 148, .null, []), (113, .iastore, 114, 0, 0, .null, []), (114, .goto 37, 117, 151, 0, .null, []), (117, .aload_n 0, 118, 0, 0, .null, []), (118, .bipush 11, 120, 0, 0, .int 11, []), (120, .invokevirtual 197, 123, 115, 146, .null, []), (123, .ifCond .eq 10, 126, 133, 0, .null, []), (126, .aload_n 0, 127, 0, 0, .null, []), (127, .invokevirtual 285, 130, 136, 145, .null, []), (130, .goto 21, 133, 151, 0, .null, []), (133, .aload_n 0, 134, 0, 0, .null, []), (134, .invokevirtual 288, 137, 137, 145, .null, [])]),
  (152, [(137, .ifCond .eq 10, 140, 147, 0, .null, []), (140, .aload_n 0, 141, 0, 0, .null, []), (141, .invokevirtual 291, 144, 133, 145, .null, []), (144, .goto 7, 147, 151, 0, .null, []), (147, .aload_n 0, 148, 0, 0, .null, []), (148, .invokevirtual 180, 151, 113, 145, .null, []), (151, .return_, 152, 0, 0, .null, [])])]
theorem kX9_stmt_ok : m_okC 9 cX9_stmt kX9_stmt = true := by decide +kernel
def kX9_endBlock : mL := [(20, [(0, .aload_n 0, 1, 0, 0, .null, []), (1, .getfield 61, 4, 9, 38, .null, []), (4, .aload_n 0, 5, 0, 0, .null, []), (5, .getfield 239, 8, 9, 44, .null, []), (8, .iconst 1, 9, 0, 0, .int 1, []), (9, .isub, 10, 0, 0, .null, []), (10, .baload, 11, 0, 0, .null, []), (11, .istore_n 1, 12, 1, 0, .null, []), (12, .aload_n 0, 13, 0, 0, .null, []), (13, .getfield 239, 16, 9, 44, .null, []), (16, .iconst 1, 17, 0, 0, .int 1, []), (17, .if_icmp .le 22, 20, 39, 0, .null, [])]),
  (40, [(20, .aload_n 0, 21, 0, 0, .null, []), (21, .getfield 58, 24, 9, 37, .null, []), (24, .aload_n 0, 25, 0, 0, .null, []), (25, .getfield 239, 28, 9, 44, .null, []), (28, .iconst 2, 29, 0, 0, .int 2, []), (29, .isub, 30, 0, 0, .null, []), (30, .iaload, 31, 0, 0, .null, []), (31, .iconst 4, 32, 0, 0, .int 4, []), (32, .if_icmp .ne 7, 35, 39, 0, .null, []), (35, .iconst 1, 36, 0, 0, .int 1, []), (36, .goto 4, 39, 40, 0, .null, []), (39, .iconst 0, 40, 0, 0, .int 0, [])]),
  (63, [(40, .istore_n 2, 41, 2, 0, .null, []), (41, .iload_n 2, 42, 2, 0, .null, []), (42, .ifCond .eq 21, 45, 63, 0, .null, []), (45, .aload_n 0, 46, 0, 0, .null, []), (46, .getfield 200, 49, 9, 16, .null, []), (49, .ifCond .eq 14, 52, 63, 0, .null, []), (52, .iload_n 1, 53, 1, 0, .null, []), (53, .ifCond .eq 10, 56, 63, 0, .null, []), (56, .aload_n 0, 57, 0, 0, .null, []), (57, .bipush 10, 59, 0, 0, .int 10, []), (59, .invokevirtual 170, 62, 111, 146, .null, []), (62, .return_, 63, 0, 0, .null, [])]),
  (83, [(63, .aload_n 0, 64, 0, 0, .null, []), (64, .aload_n 0, 65, 0, 0, .null, []), (65, .getfield 65, 68, 9, 39, .null, []), (68, .aload_n 0, 69, 0, 0, .null, []), (69, .getfield 239, 72, 9, 44, .null, []), (72, .iconst 1, 73, 0, 0, .int 1, []), (73, .isub, 74, 0, 0, .null, []), (74, .iaload, 75, 0, 0, .null, []), (75, .putfield 236, 78, 9, 35, .null, []), (78, .aload_n 0, 79, 0, 0, .null, []), (79, .iload_n 1, 80, 1, 0, .null, []), (80, .ifCond .eq 19, 83, 99, 0, .null, [])]),
  (103, [(83, .aload_n 0, 84, 0, 0, .null, []), (84, .getfield 245, 87, 9, 36, .null, []), (87, .iconst 1, 88, 0, 0, .int 1, []), (88, .aload_n 0, 89, 0, 0, .null, []), (89, .getfield 236, 92, 9, 35, .null, []), (92, .ishl, 93, 0, 0, .null, []), (93, .iconst 1, 94, 0, 0, .int 1, []), (94, .isub, 95, 0, 0, .null, []), (95, .iand, 96, 0, 0, .null, []), (96, .goto 7, 99, 103, 0, .null, []), (99, .aload_n 0, 100, 0, 0, .null, []), (100, .getfield 245, 103, 9, 36, .null, [])]),
  (120, [(103, .putfield 245, 106, 9, 36, .null, []), (106, .aload_n 0, 107, 0, 0, .null, []), (107, .invokevirtual 252, 110, 128, 145, .null, []), (110, .aload_n 0, 111, 0, 0, .null, []), (111, .invokevirtual 177, 114, 107, 145, .null, []), (114, .aload_n 0, 115, 0, 0, .null, []), (115, .iload_n 1, 116, 1, 0, .null, []), (116, .invokevirtual 269, 119, 129, 146, .null, []), (119, .return_, 120, 0, 0, .null, [])])]
theorem kX9_endBlock_ok : m_okC 9 cX9_endBlock kX9_endBlock = true := by decide +kernel
def kX9_readStmts : mL := [(24, [(0, .aload_n 0, 1, 0, 0, .null, []), (1, .getfield 164, 4, 9, 8, .null, []), (4, .ifCond .ne 88, 7, 92, 0, .null, []), (7, .aload_n 0, 8, 0, 0, .null, []), (8, .getfield 239, 11, 9, 44, .null, []), (11, .iload_n 1, 12, 1, 0, .null, []), (12, .if_icmp .le 80, 15, 92, 0, .null, []), (15, .aload_n 0, 16, 0, 0, .null, []), (16, .getfield 58, 19, 9, 37, .null, []), (19, .aload_n 0, 20, 0, 0, .null, []), (20, .getfield 239, 23, 9, 44, .null, []), (23, .iconst 1, 24, 0, 0, .int 1, [])]),
  (45, [(24, .isub, 25, 0, 0, .null, []), (25, .iaload, 26, 0, 0, .null, []), (26, .istore_n 2, 27, 2, 0, .null, []), (27, .iload_n 2, 28, 2, 0, .null, []), (28, .iconst 1, 29, 0, 0, .int 1, []), (29, .if_icmp .ne 19, 32, 48, 0, .null, []), (32, .aload_n 0, 33, 0, 0, .null, []), (33, .bipush 125, 35, 0, 0, .int 125, []), (35, .invokevirtual 174, 38, 114, 146, .null, []), (38, .ifCond .eq 10, 41, 48, 0, .null, []), (41, .aload_n 0, 42, 0, 0, .null, []), (42, .invokevirtual 294, 45, 139, 145, .null, [])]),
  (70, [(45, .goto 44, 48, 89, 0, .null, []), (48, .iload_n 2, 49, 2, 0, .null, []), (49, .ifCond .ne 30, 52, 79, 0, .null, []), (52, .aload_n 0, 53, 0, 0, .null, []), (53, .bipush 125, 55, 0, 0, .int 125, []), (55, .invokevirtual 174, 58, 114, 146, .null, []), (58, .ifCond .ne 20, 61, 78, 0, .null, []), (61, .aload_n 0, 62, 0, 0, .null, []), (62, .iconst 5, 63, 0, 0, .int 5, []), (63, .invokevirtual 197, 66, 115, 146, .null, []), (66, .ifCond .ne 12, 69, 78, 0, .null, []), (69, .aload_n 0, 70, 0, 0, .null, [])]),
  (93, [(70, .bipush 6, 72, 0, 0, .int 6, []), (72, .invokevirtual 197, 75, 115, 146, .null, []), (75, .ifCond .eq 4, 78, 79, 0, .null, []), (78, .return_, 79, 0, 0, .null, []), (79, .iload_n 2, 80, 2, 0, .null, []), (80, .iconst 4, 81, 0, 0, .int 4, []), (81, .if_icmp .ne 4, 84, 85, 0, .null, []), (84, .return_, 85, 0, 0, .null, []), (85, .aload_n 0, 86, 0, 0, .null, []), (86, .invokevirtual 297, 89, 138, 145, .null, []), (89, .goto (-89), 92, 0, 0, .null, []), (92, .return_, 93, 0, 0, .null, [])])]
theorem kX9_readStmts_ok : m_okC 9 cX9_readStmts kX9_readStmts = true := by decide +kernel
def kX9_readOld : mL := [(20, [(0, .aload_n 0, 1, 0, 0, .null, []), (1, .iconst 0, 2, 0, 0, .int 0, []), (2, .putfield 245, 5, 9, 36, .null, []), (5, .aload_n 0, 6, 0, 0, .null, []), (6, .iconst 0, 7, 0, 0, .int 0, []), (7, .invokevirtual 279, 10, 127, 146, .null, []), (10, .aload_n 0, 11, 0, 0, .null, []), (11, .aload_n 0, 12, 0, 0, .null, []), (12, .getfield 239, 15, 9, 44, .null, []), (15, .iconst 1, 16, 0, 0, .int 1, []), (16, .isub, 17, 0, 0, .null, []), (17, .invokevirtual 300, 20, 140, 146, .null, [])]),
  (40, [(20, .aload_n 0, 21, 0, 0, .null, []), (21, .aload_n 0, 22, 0, 0, .null, []), (22, .getfield 61, 25, 9, 38, .null, []), (25, .iconst 0, 26, 0, 0, .int 0, []), (26, .baload, 27, 0, 0, .null, []), (27, .putfield 303, 30, 9, 46, .null, []), (30, .aload_n 0, 31, 0, 0, .null, []), (31, .iconst 0, 32, 0, 0, .int 0, []), (32, .putfield 239, 35, 9, 44, .null, []), (35, .aload_n 0, 36, 0, 0, .null, []), (36, .iconst 0, 37, 0, 0, .int 0, []), (37, .putfield 242, 40, 9, 45, .null, [])]),
  (41, [(40, .return_, 41, 0, 0, .null, [])])]
theorem kX9_readOld_ok : m_okC 9 cX9_readOld kX9_readOld = true := by decide +kernel
def kX9_readBody : mL := [(21, [(0, .aload_n 0, 1, 0, 0, .null, []), (1, .iconst 0, 2, 0, 0, .int 0, []), (2, .putfield 236, 5, 9, 35, .null, []), (5, .aload_n 0, 6, 0, 0, .null, []), (6, .iconst 0, 7, 0, 0, .int 0, []), (7, .putfield 245, 10, 9, 36, .null, []), (10, .aload_n 0, 11, 0, 0, .null, []), (11, .iconst 4, 12, 0, 0, .int 4, []), (12, .invokevirtual 279, 15, 127, 146, .null, []), (15, .aload_n 0, 16, 0, 0, .null, []), (16, .bipush 123, 18, 0, 0, .int 123, []), (18, .invokevirtual 174, 21, 114, 146, .null, [])]),
  (45, [(21, .ifCond .eq 24, 24, 45, 0, .null, []), (24, .aload_n 0, 25, 0, 0, .null, []), (25, .invokevirtual 266, 28, 131, 145, .null, []), (28, .aload_n 0, 29, 0, 0, .null, []), (29, .invokevirtual 177, 32, 107, 145, .null, []), (32, .aload_n 0, 33, 0, 0, .null, []), (33, .iconst 1, 34, 0, 0, .int 1, []), (34, .invokevirtual 279, 37, 127, 146, .null, []), (37, .aload_n 0, 38, 0, 0, .null, []), (38, .iconst 1, 39, 0, 0, .int 1, []), (39, .invokevirtual 300, 42, 140, 146, .null, []), (42, .goto 90, 45, 132, 0, .null, [])]),
  (70, [(45, .aload_n 0, 46, 0, 0, .null, []), (46, .getfield 200, 49, 9, 16, .null, []), (49, .ifCond .eq 46, 52, 95, 0, .null, []), (52, .aload_n 0, 53, 0, 0, .null, []), (53, .bipush 45, 55, 0, 0, .int 45, []), (55, .invokevirtual 174, 58, 114, 146, .null, []), (58, .ifCond .ne 11, 61, 69, 0, .null, []), (61, .aload_n 0, 62, 0, 0, .null, []), (62, .getfield 138, 65, 9, 4, .null, []), (65, .iconst 2, 66, 0, 0, .int 2, []), (66, .if_icmp .ne 29, 69, 95, 0, .null, []), (69, .aload_n 0, 70, 0, 0, .null, [])]),
  (91, [(70, .invokevirtual 266, 73, 131, 145, .null, []), (73, .aload_n 0, 74, 0, 0, .null, []), (74, .invokevirtual 215, 77, 118, 145, .null, []), (77, .istore_n 1, 78, 1, 0, .null, []), (78, .aload_n 0, 79, 0, 0, .null, []), (79, .bipush 59, 81, 0, 0, .int 59, []), (81, .invokevirtual 190, 84, 116, 146, .null, []), (84, .aload_n 0, 85, 0, 0, .null, []), (85, .iconst 4, 86, 0, 0, .int 4, []), (86, .iload_n 1, 87, 1, 0, .null, []), (87, .iconst 0, 88, 0, 0, .int 0, []), (88, .invokevirtual 248, 91, 125, 148, .null, [])]),
  (118, [(91, .pop, 92, 0, 0, .null, []), (92, .goto 40, 95, 132, 0, .null, []), (95, .aload_n 0, 96, 0, 0, .null, []), (96, .getfield 200, 99, 9, 16, .null, []), (99, .ifCond .eq 15, 102, 114, 0, .null, []), (102, .aload_n 0, 103, 0, 0, .null, []), (103, .bipush 12, 105, 0, 0, .int 12, []), (105, .invokevirtual 197, 108, 115, 146, .null, []), (108, .ifCond .eq 20, 111, 128, 0, .null, []), (111, .goto 10, 114, 121, 0, .null, []), (114, .aload_n 0, 115, 0, 0, .null, []), (115, .invokevirtual 288, 118, 137, 145, .null, [])]),
  (142, [(118, .ifCond .eq 10, 121, 128, 0, .null, []), (121, .aload_n 0, 122, 0, 0, .null, []), (122, .invokevirtual 291, 125, 133, 145, .null, []), (125, .goto 7, 128, 132, 0, .null, []), (128, .aload_n 0, 129, 0, 0, .null, []), (129, .invokevirtual 180, 132, 113, 145, .null, []), (132, .aload_n 0, 133, 0, 0, .null, []), (133, .iconst 0, 134, 0, 0, .int 0, []), (134, .putfield 239, 137, 9, 44, .null, []), (137, .aload_n 0, 138, 0, 0, .null, []), (138, .iconst 0, 139, 0, 0, .int 0, []), (139, .putfield 242, 142, 9, 45, .null, [])]),
  (151, [(142, .aload_n 0, 143, 0, 0, .null, []), (143, .iconst 3, 144, 0, 0, .int 3, []), (144, .iconst 0, 145, 0, 0, .int 0, []), (145, .iconst 0, 146, 0, 0, .int 0, []), (146, .invokevirtual 248, 149, 125, 148, .null, []), (149, .pop, 150, 0, 0, .null, []), (150, .return_, 151, 0, 0, .null, [])])]
theorem kX9_readBody_ok : m_okC 9 cX9_readBody kX9_readBody = true := by decide +kernel
def kX9_readArm : mL := [(23, [(0, .aload_n 0, 1, 0, 0, .null, []), (1, .bipush 6, 3, 0, 0, .int 6, []), (3, .invokevirtual 197, 6, 115, 146, .null, []), (6, .istore_n 1, 7, 1, 0, .null, []), (7, .iload_n 1, 8, 1, 0, .null, []), (8, .ifCond .eq 16, 11, 24, 0, .null, []), (11, .aload_n 0, 12, 0, 0, .null, []), (12, .getfield 306, 15, 9, 27, .null, []), (15, .ifCond .lt 9, 18, 24, 0, .null, []), (18, .aload_n 0, 19, 0, 0, .null, []), (19, .iconst 3, 20, 0, 0, .int 3, []), (20, .invokevirtual 170, 23, 111, 146, .null, [])]),
  (45, [(23, .return_, 24, 0, 0, .null, []), (24, .aload_n 0, 25, 0, 0, .null, []), (25, .getfield 230, 28, 9, 19, .null, []), (28, .bipush 20, 30, 0, 0, .int 20, []), (30, .if_icmp .ne 10, 33, 40, 0, .null, []), (33, .aload_n 0, 34, 0, 0, .null, []), (34, .bipush 12, 36, 0, 0, .int 12, []), (36, .invokevirtual 170, 39, 111, 146, .null, []), (39, .return_, 40, 0, 0, .null, []), (40, .aload_n 0, 41, 0, 0, .null, []), (41, .invokevirtual 177, 44, 107, 145, .null, []), (44, .iload_n 1, 45, 1, 0, .null, [])]),
  (71, [(45, .ifCond .eq 14, 48, 59, 0, .null, []), (48, .aload_n 0, 49, 0, 0, .null, []), (49, .aload_n 0, 50, 0, 0, .null, []), (50, .getfield 230, 53, 9, 19, .null, []), (53, .putfield 306, 56, 9, 27, .null, []), (56, .goto 34, 59, 90, 0, .null, []), (59, .aload_n 0, 60, 0, 0, .null, []), (60, .invokevirtual 309, 63, 124, 145, .null, []), (63, .aload_n 0, 64, 0, 0, .null, []), (64, .getfield 164, 67, 9, 8, .null, []), (67, .ifCond .ne 23, 70, 90, 0, .null, []), (70, .aload_n 0, 71, 0, 0, .null, [])]),
  (98, [(71, .bipush 44, 73, 0, 0, .int 44, []), (73, .invokevirtual 174, 76, 114, 146, .null, []), (76, .ifCond .eq 14, 79, 90, 0, .null, []), (79, .aload_n 0, 80, 0, 0, .null, []), (80, .invokevirtual 177, 83, 107, 145, .null, []), (83, .aload_n 0, 84, 0, 0, .null, []), (84, .invokevirtual 309, 87, 124, 145, .null, []), (87, .goto (-24), 90, 63, 0, .null, []), (90, .aload_n 0, 91, 0, 0, .null, []), (91, .getfield 164, 94, 9, 8, .null, []), (94, .ifCond .le 4, 97, 98, 0, .null, []), (97, .return_, 98, 0, 0, .null, [])]),
  (121, [(98, .aload_n 0, 99, 0, 0, .null, []), (99, .getfield 31, 102, 9, 20, .null, []), (102, .aload_n 0, 103, 0, 0, .null, []), (103, .getfield 230, 106, 9, 19, .null, []), (106, .aload_n 0, 107, 0, 0, .null, []), (107, .getfield 233, 110, 9, 33, .null, []), (110, .iastore, 111, 0, 0, .null, []), (111, .aload_n 0, 112, 0, 0, .null, []), (112, .bipush 58, 114, 0, 0, .int 58, []), (114, .invokevirtual 174, 117, 114, 146, .null, []), (117, .ifCond .eq 42, 120, 159, 0, .null, []), (120, .aload_n 0, 121, 0, 0, .null, [])]),
  (143, [(121, .getfield 312, 124, 9, 29, .null, []), (124, .ifCond .eq 9, 127, 133, 0, .null, []), (127, .aload_n 0, 128, 0, 0, .null, []), (128, .iconst 4, 129, 0, 0, .int 4, []), (129, .invokevirtual 170, 132, 111, 146, .null, []), (132, .return_, 133, 0, 0, .null, []), (133, .aload_n 0, 134, 0, 0, .null, []), (134, .iconst 1, 135, 0, 0, .int 1, []), (135, .putfield 315, 138, 9, 28, .null, []), (138, .aload_n 0, 139, 0, 0, .null, []), (139, .dup, 140, 0, 0, .null, []), (140, .getfield 230, 143, 9, 19, .null, [])]),
  (168, [(143, .iconst 1, 144, 0, 0, .int 1, []), (144, .iadd, 145, 0, 0, .null, []), (145, .putfield 230, 148, 9, 19, .null, []), (148, .aload_n 0, 149, 0, 0, .null, []), (149, .invokevirtual 177, 152, 107, 145, .null, []), (152, .aload_n 0, 153, 0, 0, .null, []), (153, .invokevirtual 318, 156, 141, 145, .null, []), (156, .goto 55, 159, 211, 0, .null, []), (159, .aload_n 0, 160, 0, 0, .null, []), (160, .bipush 62, 162, 0, 0, .int 62, []), (162, .invokevirtual 174, 165, 114, 146, .null, []), (165, .ifCond .eq 42, 168, 207, 0, .null, [])]),
  (188, [(168, .aload_n 0, 169, 0, 0, .null, []), (169, .getfield 315, 172, 9, 28, .null, []), (172, .ifCond .eq 9, 175, 181, 0, .null, []), (175, .aload_n 0, 176, 0, 0, .null, []), (176, .iconst 4, 177, 0, 0, .int 4, []), (177, .invokevirtual 170, 180, 111, 146, .null, []), (180, .return_, 181, 0, 0, .null, []), (181, .aload_n 0, 182, 0, 0, .null, []), (182, .iconst 1, 183, 0, 0, .int 1, []), (183, .putfield 312, 186, 9, 29, .null, []), (186, .aload_n 0, 187, 0, 0, .null, []), (187, .dup, 188, 0, 0, .null, [])]),
  (212, [(188, .getfield 230, 191, 9, 19, .null, []), (191, .iconst 1, 192, 0, 0, .int 1, []), (192, .iadd, 193, 0, 0, .null, []), (193, .putfield 230, 196, 9, 19, .null, []), (196, .aload_n 0, 197, 0, 0, .null, []), (197, .invokevirtual 177, 200, 107, 145, .null, []), (200, .aload_n 0, 201, 0, 0, .null, []), (201, .invokevirtual 321, 204, 142, 145, .null, []), (204, .goto 7, 207, 211, 0, .null, []), (207, .aload_n 0, 208, 0, 0, .null, []), (208, .invokevirtual 180, 211, 113, 145, .null, []), (211, .return_, 212, 0, 0, .null, [])])]
theorem kX9_readArm_ok : m_okC 9 cX9_readArm kX9_readArm = true := by decide +kernel
def kX9_read : mL := [(20, [(0, .aload_n 0, 1, 0, 0, .null, []), (1, .iconst 0, 2, 0, 0, .int 0, []), (2, .putfield 128, 5, 9, 3, .null, []), (5, .aload_n 0, 6, 0, 0, .null, []), (6, .iconst 0, 7, 0, 0, .int 0, []), (7, .putfield 164, 10, 9, 8, .null, []), (10, .aload_n 0, 11, 0, 0, .null, []), (11, .iconst 0, 12, 0, 0, .int 0, []), (12, .putfield 324, 15, 9, 11, .null, []), (15, .aload_n 0, 16, 0, 0, .null, []), (16, .iconst 0, 17, 0, 0, .int 0, []), (17, .putfield 327, 20, 9, 47, .null, [])]),
  (40, [(20, .aload_n 0, 21, 0, 0, .null, []), (21, .iconst 0, 22, 0, 0, .int 0, []), (22, .putfield 330, 25, 9, 48, .null, []), (25, .aload_n 0, 26, 0, 0, .null, []), (26, .iconst 0, 27, 0, 0, .int 0, []), (27, .putfield 187, 30, 9, 12, .null, []), (30, .aload_n 0, 31, 0, 0, .null, []), (31, .iconst 0, 32, 0, 0, .int 0, []), (32, .putfield 230, 35, 9, 19, .null, []), (35, .aload_n 0, 36, 0, 0, .null, []), (36, .iconst 0, 37, 0, 0, .int 0, []), (37, .putfield 210, 40, 9, 21, .null, [])]),
  (60, [(40, .aload_n 0, 41, 0, 0, .null, []), (41, .iconst 0, 42, 0, 0, .int 0, []), (42, .putfield 259, 45, 9, 26, .null, []), (45, .aload_n 0, 46, 0, 0, .null, []), (46, .iconst 0, 47, 0, 0, .int 0, []), (47, .putfield 233, 50, 9, 33, .null, []), (50, .aload_n 0, 51, 0, 0, .null, []), (51, .iconst 0, 52, 0, 0, .int 0, []), (52, .putfield 236, 55, 9, 35, .null, []), (55, .aload_n 0, 56, 0, 0, .null, []), (56, .iconst 0, 57, 0, 0, .int 0, []), (57, .putfield 239, 60, 9, 44, .null, [])]),
  (80, [(60, .aload_n 0, 61, 0, 0, .null, []), (61, .iconst 0, 62, 0, 0, .int 0, []), (62, .putfield 242, 65, 9, 45, .null, []), (65, .aload_n 0, 66, 0, 0, .null, []), (66, .iconst (-1), 67, 0, 0, .int (-1), []), (67, .putfield 306, 70, 9, 27, .null, []), (70, .aload_n 0, 71, 0, 0, .null, []), (71, .iconst 0, 72, 0, 0, .int 0, []), (72, .putfield 315, 75, 9, 28, .null, []), (75, .aload_n 0, 76, 0, 0, .null, []), (76, .iconst 0, 77, 0, 0, .int 0, []), (77, .putfield 312, 80, 9, 29, .null, [])]),
  (106, [(80, .aload_n 0, 81, 0, 0, .null, []), (81, .invokevirtual 177, 84, 107, 145, .null, []), (84, .aload_n 0, 85, 0, 0, .null, []), (85, .getfield 164, 88, 9, 8, .null, []), (88, .ifCond .ne 18, 91, 106, 0, .null, []), (91, .aload_n 0, 92, 0, 0, .null, []), (92, .iconst 0, 93, 0, 0, .int 0, []), (93, .invokevirtual 197, 96, 115, 146, .null, []), (96, .ifCond .eq 10, 99, 106, 0, .null, []), (99, .aload_n 0, 100, 0, 0, .null, []), (100, .invokevirtual 333, 103, 119, 145, .null, []), (103, .goto (-19), 106, 84, 0, .null, [])]),
  (132, [(106, .aload_n 0, 107, 0, 0, .null, []), (107, .getfield 164, 110, 9, 8, .null, []), (110, .ifCond .ne 7, 113, 117, 0, .null, []), (113, .aload_n 0, 114, 0, 0, .null, []), (114, .invokevirtual 336, 117, 121, 145, .null, []), (117, .aload_n 0, 118, 0, 0, .null, []), (118, .getfield 164, 121, 9, 8, .null, []), (121, .ifCond .ne 27, 124, 148, 0, .null, []), (124, .aload_n 0, 125, 0, 0, .null, []), (125, .iconst 5, 126, 0, 0, .int 5, []), (126, .invokevirtual 197, 129, 115, 146, .null, []), (129, .ifCond .ne 12, 132, 141, 0, .null, [])]),
  (158, [(132, .aload_n 0, 133, 0, 0, .null, []), (133, .bipush 6, 135, 0, 0, .int 6, []), (135, .invokevirtual 197, 138, 115, 146, .null, []), (138, .ifCond .eq 10, 141, 148, 0, .null, []), (141, .aload_n 0, 142, 0, 0, .null, []), (142, .invokevirtual 339, 145, 143, 145, .null, []), (145, .goto (-28), 148, 117, 0, .null, []), (148, .aload_n 0, 149, 0, 0, .null, []), (149, .getfield 164, 152, 9, 8, .null, []), (152, .ifCond .ne 16, 155, 168, 0, .null, []), (155, .aload_n 0, 156, 0, 0, .null, []), (156, .bipush 125, 158, 0, 0, .int 125, [])]),
  (186, [(158, .invokevirtual 174, 161, 114, 146, .null, []), (161, .ifCond .ne 7, 164, 168, 0, .null, []), (164, .aload_n 0, 165, 0, 0, .null, []), (165, .invokevirtual 180, 168, 113, 145, .null, []), (168, .aload_n 0, 169, 0, 0, .null, []), (169, .getfield 164, 172, 9, 8, .null, []), (172, .ifCond .ne 30, 175, 202, 0, .null, []), (175, .aload_n 0, 176, 0, 0, .null, []), (176, .getfield 200, 179, 9, 16, .null, []), (179, .ifCond .eq 23, 182, 202, 0, .null, []), (182, .aload_n 0, 183, 0, 0, .null, []), (183, .getfield 315, 186, 9, 28, .null, [])]),
  (213, [(186, .ifCond .eq 16, 189, 202, 0, .null, []), (189, .aload_n 0, 190, 0, 0, .null, []), (190, .getfield 303, 193, 9, 46, .null, []), (193, .ifCond .eq 9, 196, 202, 0, .null, []), (196, .aload_n 0, 197, 0, 0, .null, []), (197, .bipush 10, 199, 0, 0, .int 10, []), (199, .invokevirtual 170, 202, 111, 146, .null, []), (202, .aload_n 0, 203, 0, 0, .null, []), (203, .getfield 164, 206, 9, 8, .null, []), (206, .ifCond .ne 47, 209, 253, 0, .null, []), (209, .aload_n 0, 210, 0, 0, .null, []), (210, .getfield 200, 213, 9, 16, .null, [])]),
  (239, [(213, .ifCond .eq 40, 216, 253, 0, .null, []), (216, .aload_n 0, 217, 0, 0, .null, []), (217, .getfield 306, 220, 9, 27, .null, []), (220, .ifCond .ge 33, 223, 253, 0, .null, []), (223, .aload_n 0, 224, 0, 0, .null, []), (224, .getfield 204, 227, 9, 17, .null, []), (227, .iconst 2, 228, 0, 0, .int 2, []), (228, .if_icmp .ne 19, 231, 247, 0, .null, []), (231, .aload_n 0, 232, 0, 0, .null, []), (232, .getfield 210, 235, 9, 21, .null, []), (235, .aload_n 0, 236, 0, 0, .null, []), (236, .getfield 24, 239, 9, 14, .null, [])]),
  (264, [(239, .aload_n 0, 240, 0, 0, .null, []), (240, .getfield 207, 243, 9, 18, .null, []), (243, .iaload, 244, 0, 0, .null, []), (244, .if_icmp .ge 9, 247, 253, 0, .null, []), (247, .aload_n 0, 248, 0, 0, .null, []), (248, .bipush 11, 250, 0, 0, .int 11, []), (250, .invokevirtual 170, 253, 111, 146, .null, []), (253, .aload_n 0, 254, 0, 0, .null, []), (254, .getfield 164, 257, 9, 8, .null, []), (257, .ifCond .ne 7, 260, 264, 0, .null, []), (260, .aload_n 0, 261, 0, 0, .null, []), (261, .invokevirtual 177, 264, 107, 145, .null, [])]),
  (288, [(264, .aload_n 0, 265, 0, 0, .null, []), (265, .getfield 164, 268, 9, 8, .null, []), (268, .ifCond .ne 14, 271, 282, 0, .null, []), (271, .aload_n 0, 272, 0, 0, .null, []), (272, .getfield 138, 275, 9, 4, .null, []), (275, .ifCond .eq 7, 278, 282, 0, .null, []), (278, .aload_n 0, 279, 0, 0, .null, []), (279, .invokevirtual 180, 282, 113, 145, .null, []), (282, .aload_n 0, 283, 0, 0, .null, []), (283, .invokevirtual 342, 286, 145, 145, .null, []), (286, .aload_n 0, 287, 0, 0, .null, []), (287, .iconst 0, 288, 0, 0, .int 0, [])]),
  (312, [(288, .putfield 125, 291, 9, 2, .null, []), (291, .aload_n 0, 292, 0, 0, .null, []), (292, .aload_n 0, 293, 0, 0, .null, []), (293, .getfield 164, 296, 9, 8, .null, []), (296, .ifCond .le 10, 299, 306, 0, .null, []), (299, .aload_n 0, 300, 0, 0, .null, []), (300, .getfield 167, 303, 9, 9, .null, []), (303, .goto 4, 306, 307, 0, .null, []), (306, .iconst (-1), 307, 0, 0, .int (-1), []), (307, .putfield 17, 310, 9, 10, .null, []), (310, .aload_n 0, 311, 0, 0, .null, []), (311, .aload_n 0, 312, 0, 0, .null, [])]),
  (338, [(312, .getfield 164, 315, 9, 8, .null, []), (315, .ifCond .ne 7, 318, 322, 0, .null, []), (318, .iconst 1, 319, 0, 0, .int 1, []), (319, .goto 4, 322, 323, 0, .null, []), (322, .iconst 0, 323, 0, 0, .int 0, []), (323, .putfield 324, 326, 9, 11, .null, []), (326, .aload_n 0, 327, 0, 0, .null, []), (327, .invokevirtual 345, 330, 156, 145, .null, []), (330, .aload_n 0, 331, 0, 0, .null, []), (331, .getfield 324, 334, 9, 11, .null, []), (334, .ifCond .eq 10, 337, 344, 0, .null, []), (337, .aload_n 0, 338, 0, 0, .null, [])]),
  (352, [(338, .getfield 230, 341, 9, 19, .null, []), (341, .goto 10, 344, 351, 0, .null, []), (344, .bipush (-10), 346, 0, 0, .int (-10), []), (346, .aload_n 0, 347, 0, 0, .null, []), (347, .getfield 164, 350, 9, 8, .null, []), (350, .isub, 351, 0, 0, .null, []), (351, .ireturn, 352, 0, 0, .null, [])])]
theorem kX9_read_ok : m_okC 9 cX9_read kX9_read = true := by decide +kernel
def kX9_emitEnd : mL := [(9, [(0, .aload_n 0, 1, 0, 0, .null, []), (1, .iconst 3, 2, 0, 0, .int 3, []), (2, .iconst 0, 3, 0, 0, .int 0, []), (3, .iconst 0, 4, 0, 0, .int 0, []), (4, .invokevirtual 248, 7, 125, 148, .null, []), (7, .pop, 8, 0, 0, .null, []), (8, .return_, 9, 0, 0, .null, [])])]
theorem kX9_emitEnd_ok : m_okC 9 cX9_emitEnd kX9_emitEnd = true := by decide +kernel
def kX9_place : mL := [(5, [(0, .aload_n 0, 1, 0, 0, .null, []), (1, .getfield 17, 4, 9, 10, .null, []), (4, .ireturn, 5, 0, 0, .null, [])])]
theorem kX9_place_ok : m_okC 9 cX9_place kX9_place = true := by decide +kernel
def kX9_told : mL := [(23, [(0, .iload_n 1, 1, 1, 0, .null, []), (1, .ifCond .lt 9, 4, 10, 0, .null, []), (4, .iload_n 1, 5, 1, 0, .null, []), (5, .bipush 7, 7, 0, 0, .int 7, []), (7, .if_icmp .le 6, 10, 13, 0, .null, []), (10, .bipush (-2), 12, 0, 0, .int (-2), []), (12, .ireturn, 13, 0, 0, .null, []), (13, .aload_n 0, 14, 0, 0, .null, []), (14, .getfield 324, 17, 9, 11, .null, []), (17, .ifCond .ne 6, 20, 23, 0, .null, []), (20, .bipush (-3), 22, 0, 0, .int (-3), []), (22, .ireturn, 23, 0, 0, .null, [])]),
  (86, [(23, .iload_n 1, 24, 1, 0, .null, []), (24, .tableswitch 95 0 6 #[44, 57, 62, 67, 72, 77, 82], 68, 119, 0, .null, [(0, 68), (1, 81), (2, 86), (3, 91), (4, 96), (5, 101), (6, 106)]), (68, .aload_n 0, 69, 0, 0, .null, []), (69, .getfield 200, 72, 9, 16, .null, []), (72, .ifCond .eq 7, 75, 79, 0, .null, []), (75, .iconst 1, 76, 0, 0, .int 1, []), (76, .goto 4, 79, 80, 0, .null, []), (79, .iconst 0, 80, 0, 0, .int 0, []), (80, .ireturn, 81, 0, 0, .null, []), (81, .aload_n 0, 82, 0, 0, .null, []), (82, .getfield 204, 85, 9, 17, .null, []), (85, .ireturn, 86, 0, 0, .null, [])]),
  (106, [(86, .aload_n 0, 87, 0, 0, .null, []), (87, .getfield 230, 90, 9, 19, .null, []), (90, .ireturn, 91, 0, 0, .null, []), (91, .aload_n 0, 92, 0, 0, .null, []), (92, .getfield 210, 95, 9, 21, .null, []), (95, .ireturn, 96, 0, 0, .null, []), (96, .aload_n 0, 97, 0, 0, .null, []), (97, .getfield 259, 100, 9, 26, .null, []), (100, .ireturn, 101, 0, 0, .null, []), (101, .aload_n 0, 102, 0, 0, .null, []), (102, .getfield 306, 105, 9, 27, .null, []), (105, .ireturn, 106, 0, 0, .null, [])]),
  (128, [(106, .aload_n 0, 107, 0, 0, .null, []), (107, .getfield 315, 110, 9, 28, .null, []), (110, .ifCond .eq 7, 113, 117, 0, .null, []), (113, .iconst 1, 114, 0, 0, .int 1, []), (114, .goto 4, 117, 118, 0, .null, []), (117, .iconst 0, 118, 0, 0, .int 0, []), (118, .ireturn, 119, 0, 0, .null, []), (119, .aload_n 0, 120, 0, 0, .null, []), (120, .getfield 204, 123, 9, 17, .null, []), (123, .iconst 2, 124, 0, 0, .int 2, []), (124, .if_icmp .ne 15, 127, 139, 0, .null, []), (127, .aload_n 0, 128, 0, 0, .null, [])]),
  (141, [(128, .getfield 24, 131, 9, 14, .null, []), (131, .aload_n 0, 132, 0, 0, .null, []), (132, .getfield 207, 135, 9, 18, .null, []), (135, .iaload, 136, 0, 0, .null, []), (136, .goto 4, 139, 140, 0, .null, []), (139, .iconst 0, 140, 0, 0, .int 0, []), (140, .ireturn, 141, 0, 0, .null, [])])]
theorem kX9_told_ok : m_okC 9 cX9_told kX9_told = true := by decide +kernel
def kX9_label : mL := [(23, [(0, .aload_n 0, 1, 0, 0, .null, []), (1, .getfield 324, 4, 9, 11, .null, []), (4, .ifCond .ne 6, 7, 10, 0, .null, []), (7, .bipush (-3), 9, 0, 0, .int (-3), []), (9, .ireturn, 10, 0, 0, .null, []), (10, .iload_n 1, 11, 1, 0, .null, []), (11, .ifCond .lt 11, 14, 22, 0, .null, []), (14, .iload_n 1, 15, 1, 0, .null, []), (15, .aload_n 0, 16, 0, 0, .null, []), (16, .getfield 210, 19, 9, 21, .null, []), (19, .if_icmp .lt 5, 22, 24, 0, .null, []), (22, .iconst (-1), 23, 0, 0, .int (-1), [])]),
  (43, [(23, .ireturn, 24, 0, 0, .null, []), (24, .iload_n 2, 25, 2, 0, .null, []), (25, .ifCond .ne 12, 28, 37, 0, .null, []), (28, .aload_n 0, 29, 0, 0, .null, []), (29, .getfield 34, 32, 9, 22, .null, []), (32, .iload_n 1, 33, 1, 0, .null, []), (33, .iaload, 34, 0, 0, .null, []), (34, .goto 19, 37, 53, 0, .null, []), (37, .iload_n 2, 38, 2, 0, .null, []), (38, .iconst 1, 39, 0, 0, .int 1, []), (39, .if_icmp .ne 12, 42, 51, 0, .null, []), (42, .aload_n 0, 43, 0, 0, .null, [])]),
  (54, [(43, .getfield 37, 46, 9, 23, .null, []), (46, .iload_n 1, 47, 1, 0, .null, []), (47, .iaload, 48, 0, 0, .null, []), (48, .goto 5, 51, 53, 0, .null, []), (51, .bipush (-2), 53, 0, 0, .int (-2), []), (53, .ireturn, 54, 0, 0, .null, [])])]
theorem kX9_label_ok : m_okC 9 cX9_label kX9_label = true := by decide +kernel
def kX9_armFor : mL := [(20, [(0, .iconst 0, 1, 0, 0, .int 0, []), (1, .istore_n 2, 2, 2, 0, .null, []), (2, .iload_n 2, 3, 2, 0, .null, []), (3, .aload_n 0, 4, 0, 0, .null, []), (4, .getfield 210, 7, 9, 21, .null, []), (7, .if_icmp .ge 45, 10, 52, 0, .null, []), (10, .aload_n 0, 11, 0, 0, .null, []), (11, .getfield 204, 14, 9, 17, .null, []), (14, .iconst 1, 15, 0, 0, .int 1, []), (15, .if_icmp .ne 14, 18, 29, 0, .null, []), (18, .aload_n 0, 19, 0, 0, .null, []), (19, .iload_n 2, 20, 2, 0, .null, [])]),
  (44, [(20, .invokevirtual 348, 23, 150, 146, .null, []), (23, .ifCond .eq 23, 26, 46, 0, .null, []), (26, .goto 13, 29, 39, 0, .null, []), (29, .aload_n 0, 30, 0, 0, .null, []), (30, .getfield 37, 33, 9, 23, .null, []), (33, .iload_n 2, 34, 2, 0, .null, []), (34, .iaload, 35, 0, 0, .null, []), (35, .iload_n 1, 36, 1, 0, .null, []), (36, .if_icmp .ne 10, 39, 46, 0, .null, []), (39, .aload_n 0, 40, 0, 0, .null, []), (40, .getfield 34, 43, 9, 22, .null, []), (43, .iload_n 2, 44, 2, 0, .null, [])]),
  (57, [(44, .iaload, 45, 0, 0, .null, []), (45, .ireturn, 46, 0, 0, .null, []), (46, .iinc 2 1, 49, 2, 0, .int 1, []), (49, .goto (-47), 52, 2, 0, .null, []), (52, .aload_n 0, 53, 0, 0, .null, []), (53, .getfield 306, 56, 9, 27, .null, []), (56, .ireturn, 57, 0, 0, .null, [])])]
theorem kX9_armFor_ok : m_okC 9 cX9_armFor kX9_armFor = true := by decide +kernel
def kX9_isTextAt : mL := [(20, [(0, .aload_n 0, 1, 0, 0, .null, []), (1, .getfield 43, 4, 9, 25, .null, []), (4, .iload_n 1, 5, 1, 0, .null, []), (5, .iaload, 6, 0, 0, .null, []), (6, .aload_n 0, 7, 0, 0, .null, []), (7, .getfield 125, 10, 9, 2, .null, []), (10, .if_icmp .ne 7, 13, 17, 0, .null, []), (13, .iconst 1, 14, 0, 0, .int 1, []), (14, .goto 4, 17, 18, 0, .null, []), (17, .iconst 0, 18, 0, 0, .int 0, []), (18, .istore_n 2, 19, 2, 0, .null, []), (19, .iconst 0, 20, 0, 0, .int 0, [])]),
  (42, [(20, .istore_n 3, 21, 3, 0, .null, []), (21, .iload_n 3, 22, 3, 0, .null, []), (22, .aload_n 0, 23, 0, 0, .null, []), (23, .getfield 125, 26, 9, 2, .null, []), (26, .if_icmp .ge 50, 29, 76, 0, .null, []), (29, .iload_n 2, 30, 2, 0, .null, []), (30, .ifCond .eq 46, 33, 76, 0, .null, []), (33, .aload_n 0, 34, 0, 0, .null, []), (34, .iload_n 3, 35, 3, 0, .null, []), (35, .invokevirtual 131, 38, 104, 146, .null, []), (38, .aload_n 0, 39, 0, 0, .null, []), (39, .getfield 40, 42, 9, 24, .null, [])]),
  (59, [(42, .iload_n 1, 43, 1, 0, .null, []), (43, .laload, 44, 0, 0, .null, []), (44, .bipush 8, 46, 0, 0, .int 8, []), (46, .aload_n 0, 47, 0, 0, .null, []), (47, .getfield 125, 50, 9, 2, .null, []), (50, .iconst 1, 51, 0, 0, .int 1, []), (51, .isub, 52, 0, 0, .null, []), (52, .iload_n 3, 53, 3, 0, .null, []), (53, .isub, 54, 0, 0, .null, []), (54, .imul, 55, 0, 0, .null, []), (55, .lushr, 56, 0, 0, .null, []), (56, .ldc2_w 213, 59, 0, 0, .long 255, [])]),
  (78, [(59, .land, 60, 0, 0, .null, []), (60, .l2i, 61, 0, 0, .null, []), (61, .if_icmp .ne 7, 64, 68, 0, .null, []), (64, .iconst 1, 65, 0, 0, .int 1, []), (65, .goto 4, 68, 69, 0, .null, []), (68, .iconst 0, 69, 0, 0, .int 0, []), (69, .istore_n 2, 70, 2, 0, .null, []), (70, .iinc 3 1, 73, 3, 0, .int 1, []), (73, .goto (-52), 76, 21, 0, .null, []), (76, .iload_n 2, 77, 2, 0, .null, []), (77, .ireturn, 78, 0, 0, .null, [])])]
theorem kX9_isTextAt_ok : m_okC 9 cX9_isTextAt kX9_isTextAt = true := by decide +kernel
def kX9_run : mL := [(24, [(0, .aload_n 0, 1, 0, 0, .null, []), (1, .getfield 324, 4, 9, 11, .null, []), (4, .ifCond .ne 6, 7, 10, 0, .null, []), (7, .bipush (-3), 9, 0, 0, .int (-3), []), (9, .ireturn, 10, 0, 0, .null, []), (10, .aload_n 0, 11, 0, 0, .null, []), (11, .getfield 204, 14, 9, 17, .null, []), (14, .iconst 2, 15, 0, 0, .int 2, []), (15, .if_icmp .ne 10, 18, 25, 0, .null, []), (18, .iload_n 1, 19, 1, 0, .null, []), (19, .ifCond .ge 6, 22, 25, 0, .null, []), (22, .bipush (-2), 24, 0, 0, .int (-2), [])]),
  (42, [(24, .ireturn, 25, 0, 0, .null, []), (25, .aload_n 0, 26, 0, 0, .null, []), (26, .iconst 1, 27, 0, 0, .int 1, []), (27, .putfield 327, 30, 9, 47, .null, []), (30, .aload_n 0, 31, 0, 0, .null, []), (31, .iconst 0, 32, 0, 0, .int 0, []), (32, .putfield 351, 35, 9, 49, .null, []), (35, .aload_n 0, 36, 0, 0, .null, []), (36, .iconst 0, 37, 0, 0, .int 0, []), (37, .putfield 330, 40, 9, 48, .null, []), (40, .aload_n 0, 41, 0, 0, .null, []), (41, .iload_n 1, 42, 1, 0, .null, [])]),
  (64, [(42, .invokevirtual 354, 45, 149, 146, .null, []), (45, .istore_n 3, 46, 3, 0, .null, []), (46, .iload_n 3, 47, 3, 0, .null, []), (47, .ifCond .ge 16, 50, 63, 0, .null, []), (50, .aload_n 0, 51, 0, 0, .null, []), (51, .getfield 200, 54, 9, 16, .null, []), (54, .ifCond .eq 7, 57, 61, 0, .null, []), (57, .iconst 5, 58, 0, 0, .int 5, []), (58, .goto 4, 61, 62, 0, .null, []), (61, .iconst 1, 62, 0, 0, .int 1, []), (62, .ireturn, 63, 0, 0, .null, []), (63, .aload_n 0, 64, 0, 0, .null, [])]),
  (84, [(64, .getfield 31, 67, 9, 20, .null, []), (67, .iload_n 3, 68, 3, 0, .null, []), (68, .iaload, 69, 0, 0, .null, []), (69, .istore 4, 71, 4, 0, .null, []), (71, .iload_n 2, 72, 2, 0, .null, []), (72, .istore 5, 74, 5, 0, .null, []), (74, .aload_n 0, 75, 0, 0, .null, []), (75, .getfield 49, 78, 9, 31, .null, []), (78, .iload 4, 80, 4, 0, .null, []), (80, .iaload, 81, 0, 0, .null, []), (81, .istore 6, 83, 6, 0, .null, []), (83, .aload_n 0, 84, 0, 0, .null, [])]),
  (145, [(84, .getfield 46, 87, 9, 30, .null, []), (87, .iload 4, 89, 4, 0, .null, []), (89, .iaload, 90, 0, 0, .null, []), (90, .tableswitch 158 0 6 #[42, 66, 95, 112, 114, 122, 130], 132, 248, 0, .null, [(0, 132), (1, 156), (2, 185), (3, 202), (4, 204), (5, 212), (6, 220)]), (132, .aload_n 0, 133, 0, 0, .null, []), (133, .getfield 80, 136, 9, 50, .null, []), (136, .aload_n 0, 137, 0, 0, .null, []), (137, .getfield 351, 140, 9, 49, .null, []), (140, .iload 6, 142, 6, 0, .null, []), (142, .iastore, 143, 0, 0, .null, []), (143, .aload_n 0, 144, 0, 0, .null, []), (144, .dup, 145, 0, 0, .null, [])]),
  (170, [(145, .getfield 351, 148, 9, 49, .null, []), (148, .iconst 1, 149, 0, 0, .int 1, []), (149, .iadd, 150, 0, 0, .null, []), (150, .putfield 351, 153, 9, 49, .null, []), (153, .goto 101, 156, 254, 0, .null, []), (156, .aload_n 0, 157, 0, 0, .null, []), (157, .getfield 80, 160, 9, 50, .null, []), (160, .aload_n 0, 161, 0, 0, .null, []), (161, .getfield 351, 164, 9, 49, .null, []), (164, .aload_n 0, 165, 0, 0, .null, []), (165, .getfield 83, 168, 9, 51, .null, []), (168, .iload 6, 170, 6, 0, .null, [])]),
  (191, [(170, .iaload, 171, 0, 0, .null, []), (171, .iastore, 172, 0, 0, .null, []), (172, .aload_n 0, 173, 0, 0, .null, []), (173, .dup, 174, 0, 0, .null, []), (174, .getfield 351, 177, 9, 49, .null, []), (177, .iconst 1, 178, 0, 0, .int 1, []), (178, .iadd, 179, 0, 0, .null, []), (179, .putfield 351, 182, 9, 49, .null, []), (182, .goto 72, 185, 254, 0, .null, []), (185, .aload_n 0, 186, 0, 0, .null, []), (186, .getfield 83, 189, 9, 51, .null, []), (189, .iload 6, 191, 6, 0, .null, [])]),
  (211, [(191, .aload_n 0, 192, 0, 0, .null, []), (192, .getfield 52, 195, 9, 32, .null, []), (195, .iload 4, 197, 4, 0, .null, []), (197, .iaload, 198, 0, 0, .null, []), (198, .iastore, 199, 0, 0, .null, []), (199, .goto 55, 202, 254, 0, .null, []), (202, .iconst 1, 203, 0, 0, .int 1, []), (203, .ireturn, 204, 0, 0, .null, []), (204, .aload_n 0, 205, 0, 0, .null, []), (205, .iload 6, 207, 6, 0, .null, []), (207, .putfield 330, 210, 9, 48, .null, []), (210, .iconst 2, 211, 0, 0, .int 2, [])]),
  (230, [(211, .ireturn, 212, 0, 0, .null, []), (212, .aload_n 0, 213, 0, 0, .null, []), (213, .iload 6, 215, 6, 0, .null, []), (215, .putfield 330, 218, 9, 48, .null, []), (218, .iconst 3, 219, 0, 0, .int 3, []), (219, .ireturn, 220, 0, 0, .null, []), (220, .iload 5, 222, 5, 0, .null, []), (222, .iconst 1, 223, 0, 0, .int 1, []), (223, .iand, 224, 0, 0, .null, []), (224, .iconst 1, 225, 0, 0, .int 1, []), (225, .if_icmp .ne 8, 228, 233, 0, .null, []), (228, .iload 4, 230, 4, 0, .null, [])]),
  (251, [(230, .goto 7, 233, 237, 0, .null, []), (233, .iload 6, 235, 6, 0, .null, []), (235, .iconst 1, 236, 0, 0, .int 1, []), (236, .isub, 237, 0, 0, .null, []), (237, .istore 4, 239, 4, 0, .null, []), (239, .iload 5, 241, 5, 0, .null, []), (241, .iconst 1, 242, 0, 0, .int 1, []), (242, .iushr, 243, 0, 0, .null, []), (243, .istore 5, 245, 5, 0, .null, []), (245, .goto 9, 248, 254, 0, .null, []), (248, .iload 6, 250, 6, 0, .null, []), (250, .iconst 1, 251, 0, 0, .int 1, [])]),
  (260, [(251, .isub, 252, 0, 0, .null, []), (252, .istore 4, 254, 4, 0, .null, []), (254, .iinc 4 1, 257, 4, 0, .int 1, []), (257, .goto (-183), 260, 74, 0, .null, [])])]
theorem kX9_run_ok : m_okC 9 cX9_run kX9_run = true := by decide +kernel
def kX9_runNone : mL := [(21, [(0, .aload_n 0, 1, 0, 0, .null, []), (1, .getfield 324, 4, 9, 11, .null, []), (4, .ifCond .ne 6, 7, 10, 0, .null, []), (7, .bipush (-3), 9, 0, 0, .int (-3), []), (9, .ireturn, 10, 0, 0, .null, []), (10, .aload_n 0, 11, 0, 0, .null, []), (11, .iconst 1, 12, 0, 0, .int 1, []), (12, .putfield 327, 15, 9, 47, .null, []), (15, .aload_n 0, 16, 0, 0, .null, []), (16, .iconst 0, 17, 0, 0, .int 0, []), (17, .putfield 351, 20, 9, 49, .null, []), (20, .aload_n 0, 21, 0, 0, .null, [])]),
  (27, [(21, .iconst 0, 22, 0, 0, .int 0, []), (22, .putfield 330, 25, 9, 48, .null, []), (25, .iconst 4, 26, 0, 0, .int 4, []), (26, .ireturn, 27, 0, 0, .null, [])])]
theorem kX9_runNone_ok : m_okC 9 cX9_runNone kX9_runNone = true := by decide +kernel
def kX9_traced : mL := [(17, [(0, .aload_n 0, 1, 0, 0, .null, []), (1, .getfield 327, 4, 9, 47, .null, []), (4, .ifCond .eq 10, 7, 14, 0, .null, []), (7, .aload_n 0, 8, 0, 0, .null, []), (8, .getfield 351, 11, 9, 49, .null, []), (11, .goto 5, 14, 16, 0, .null, []), (14, .bipush (-3), 16, 0, 0, .int (-3), []), (16, .ireturn, 17, 0, 0, .null, [])])]
theorem kX9_traced_ok : m_okC 9 cX9_traced kX9_traced = true := by decide +kernel
def kX9_trace : mL := [(24, [(0, .aload_n 0, 1, 0, 0, .null, []), (1, .getfield 327, 4, 9, 47, .null, []), (4, .ifCond .eq 24, 7, 28, 0, .null, []), (7, .iload_n 1, 8, 1, 0, .null, []), (8, .ifCond .lt 20, 11, 28, 0, .null, []), (11, .iload_n 1, 12, 1, 0, .null, []), (12, .aload_n 0, 13, 0, 0, .null, []), (13, .getfield 351, 16, 9, 49, .null, []), (16, .if_icmp .ge 12, 19, 28, 0, .null, []), (19, .aload_n 0, 20, 0, 0, .null, []), (20, .getfield 80, 23, 9, 50, .null, []), (23, .iload_n 1, 24, 1, 0, .null, [])]),
  (30, [(24, .iaload, 25, 0, 0, .null, []), (25, .goto 4, 28, 29, 0, .null, []), (28, .iconst 0, 29, 0, 0, .int 0, []), (29, .ireturn, 30, 0, 0, .null, [])])]
theorem kX9_trace_ok : m_okC 9 cX9_trace kX9_trace = true := by decide +kernel
def kX9_value : mL := [(5, [(0, .aload_n 0, 1, 0, 0, .null, []), (1, .getfield 330, 4, 9, 48, .null, []), (4, .ireturn, 5, 0, 0, .null, [])])]
theorem kX9_value_ok : m_okC 9 cX9_value kX9_value = true := by decide +kernel
def kX9_findKeys : mL := [(22, [(0, .aload_n 0, 1, 0, 0, .null, []), (1, .iconst 0, 2, 0, 0, .int 0, []), (2, .putfield 357, 5, 9, 52, .null, []), (5, .iconst 0, 6, 0, 0, .int 0, []), (6, .istore_n 1, 7, 1, 0, .null, []), (7, .iload_n 1, 8, 1, 0, .null, []), (8, .aload_n 0, 9, 0, 0, .null, []), (9, .getfield 210, 12, 9, 21, .null, []), (12, .if_icmp .ge 182, 15, 194, 0, .null, []), (15, .aload_n 0, 16, 0, 0, .null, []), (16, .getfield 324, 19, 9, 11, .null, []), (19, .ifCond .eq 175, 22, 194, 0, .null, [])]),
  (42, [(22, .iconst 0, 23, 0, 0, .int 0, []), (23, .istore_n 2, 24, 2, 0, .null, []), (24, .iload_n 2, 25, 2, 0, .null, []), (25, .aload_n 0, 26, 0, 0, .null, []), (26, .getfield 357, 29, 9, 52, .null, []), (29, .if_icmp .ge 24, 32, 53, 0, .null, []), (32, .aload_n 0, 33, 0, 0, .null, []), (33, .getfield 86, 36, 9, 53, .null, []), (36, .iload_n 2, 37, 2, 0, .null, []), (37, .iaload, 38, 0, 0, .null, []), (38, .aload_n 0, 39, 0, 0, .null, []), (39, .getfield 37, 42, 9, 23, .null, [])]),
  (66, [(42, .iload_n 1, 43, 1, 0, .null, []), (43, .iaload, 44, 0, 0, .null, []), (44, .if_icmp .ge 9, 47, 53, 0, .null, []), (47, .iinc 2 1, 50, 2, 0, .int 1, []), (50, .goto (-26), 53, 24, 0, .null, []), (53, .iload_n 2, 54, 2, 0, .null, []), (54, .aload_n 0, 55, 0, 0, .null, []), (55, .getfield 357, 58, 9, 52, .null, []), (58, .if_icmp .ge 31, 61, 89, 0, .null, []), (61, .aload_n 0, 62, 0, 0, .null, []), (62, .getfield 86, 65, 9, 53, .null, []), (65, .iload_n 2, 66, 2, 0, .null, [])]),
  (84, [(66, .iaload, 67, 0, 0, .null, []), (67, .aload_n 0, 68, 0, 0, .null, []), (68, .getfield 37, 71, 9, 23, .null, []), (71, .iload_n 1, 72, 1, 0, .null, []), (72, .iaload, 73, 0, 0, .null, []), (73, .if_icmp .ne 16, 76, 89, 0, .null, []), (76, .aload_n 0, 77, 0, 0, .null, []), (77, .getfield 92, 80, 9, 55, .null, []), (80, .iload_n 2, 81, 2, 0, .null, []), (81, .dup2, 82, 0, 0, .null, []), (82, .iaload, 83, 0, 0, .null, []), (83, .iconst 1, 84, 0, 0, .int 1, [])]),
  (104, [(84, .iadd, 85, 0, 0, .null, []), (85, .iastore, 86, 0, 0, .null, []), (86, .goto 102, 89, 188, 0, .null, []), (89, .aload_n 0, 90, 0, 0, .null, []), (90, .getfield 357, 93, 9, 52, .null, []), (93, .istore_n 3, 94, 3, 0, .null, []), (94, .iload_n 3, 95, 3, 0, .null, []), (95, .iload_n 2, 96, 2, 0, .null, []), (96, .if_icmp .le 51, 99, 147, 0, .null, []), (99, .aload_n 0, 100, 0, 0, .null, []), (100, .getfield 86, 103, 9, 53, .null, []), (103, .iload_n 3, 104, 3, 0, .null, [])]),
  (122, [(104, .aload_n 0, 105, 0, 0, .null, []), (105, .getfield 86, 108, 9, 53, .null, []), (108, .iload_n 3, 109, 3, 0, .null, []), (109, .iconst 1, 110, 0, 0, .int 1, []), (110, .isub, 111, 0, 0, .null, []), (111, .iaload, 112, 0, 0, .null, []), (112, .iastore, 113, 0, 0, .null, []), (113, .aload_n 0, 114, 0, 0, .null, []), (114, .getfield 89, 117, 9, 54, .null, []), (117, .iload_n 3, 118, 3, 0, .null, []), (118, .aload_n 0, 119, 0, 0, .null, []), (119, .getfield 89, 122, 9, 54, .null, [])]),
  (138, [(122, .iload_n 3, 123, 3, 0, .null, []), (123, .iconst 1, 124, 0, 0, .int 1, []), (124, .isub, 125, 0, 0, .null, []), (125, .iaload, 126, 0, 0, .null, []), (126, .iastore, 127, 0, 0, .null, []), (127, .aload_n 0, 128, 0, 0, .null, []), (128, .getfield 92, 131, 9, 55, .null, []), (131, .iload_n 3, 132, 3, 0, .null, []), (132, .aload_n 0, 133, 0, 0, .null, []), (133, .getfield 92, 136, 9, 55, .null, []), (136, .iload_n 3, 137, 3, 0, .null, []), (137, .iconst 1, 138, 0, 0, .int 1, [])]),
  (158, [(138, .isub, 139, 0, 0, .null, []), (139, .iaload, 140, 0, 0, .null, []), (140, .iastore, 141, 0, 0, .null, []), (141, .iinc 3 (-1), 144, 3, 0, .int (-1), []), (144, .goto (-50), 147, 94, 0, .null, []), (147, .aload_n 0, 148, 0, 0, .null, []), (148, .getfield 86, 151, 9, 53, .null, []), (151, .iload_n 2, 152, 2, 0, .null, []), (152, .aload_n 0, 153, 0, 0, .null, []), (153, .getfield 37, 156, 9, 23, .null, []), (156, .iload_n 1, 157, 1, 0, .null, []), (157, .iaload, 158, 0, 0, .null, [])]),
  (176, [(158, .iastore, 159, 0, 0, .null, []), (159, .aload_n 0, 160, 0, 0, .null, []), (160, .getfield 89, 163, 9, 54, .null, []), (163, .iload_n 2, 164, 2, 0, .null, []), (164, .aload_n 0, 165, 0, 0, .null, []), (165, .getfield 34, 168, 9, 22, .null, []), (168, .iload_n 1, 169, 1, 0, .null, []), (169, .iaload, 170, 0, 0, .null, []), (170, .iastore, 171, 0, 0, .null, []), (171, .aload_n 0, 172, 0, 0, .null, []), (172, .getfield 92, 175, 9, 55, .null, []), (175, .iload_n 2, 176, 2, 0, .null, [])]),
  (195, [(176, .iconst 1, 177, 0, 0, .int 1, []), (177, .iastore, 178, 0, 0, .null, []), (178, .aload_n 0, 179, 0, 0, .null, []), (179, .dup, 180, 0, 0, .null, []), (180, .getfield 357, 183, 9, 52, .null, []), (183, .iconst 1, 184, 0, 0, .int 1, []), (184, .iadd, 185, 0, 0, .null, []), (185, .putfield 357, 188, 9, 52, .null, []), (188, .iinc 1 1, 191, 1, 0, .int 1, []), (191, .goto (-184), 194, 7, 0, .null, []), (194, .return_, 195, 0, 0, .null, [])])]
theorem kX9_findKeys_ok : m_okC 9 cX9_findKeys kX9_findKeys = true := by decide +kernel
def kX9_form : mL := [(23, [(0, .aload_n 0, 1, 0, 0, .null, []), (1, .getfield 324, 4, 9, 11, .null, []), (4, .ifCond .ne 6, 7, 10, 0, .null, []), (7, .bipush (-3), 9, 0, 0, .int (-3), []), (9, .ireturn, 10, 0, 0, .null, []), (10, .aload_n 0, 11, 0, 0, .null, []), (11, .getfield 357, 14, 9, 52, .null, []), (14, .ifCond .ne 5, 17, 19, 0, .null, []), (17, .iconst 2, 18, 0, 0, .int 2, []), (18, .ireturn, 19, 0, 0, .null, []), (19, .aload_n 0, 20, 0, 0, .null, []), (20, .getfield 86, 23, 9, 53, .null, [])]),
  (39, [(23, .aload_n 0, 24, 0, 0, .null, []), (24, .getfield 357, 27, 9, 52, .null, []), (27, .iconst 1, 28, 0, 0, .int 1, []), (28, .isub, 29, 0, 0, .null, []), (29, .iaload, 30, 0, 0, .null, []), (30, .i2l, 31, 0, 0, .null, []), (31, .aload_n 0, 32, 0, 0, .null, []), (32, .getfield 86, 35, 9, 53, .null, []), (35, .iconst 0, 36, 0, 0, .int 0, []), (36, .iaload, 37, 0, 0, .null, []), (37, .i2l, 38, 0, 0, .null, []), (38, .lsub, 39, 0, 0, .null, [])]),
  (61, [(39, .lconst 1, 40, 0, 0, .long 1, []), (40, .ladd, 41, 0, 0, .null, []), (41, .lstore_n 1, 42, 1, 0, .null, []), (42, .ldc2_w 360, 45, 0, 0, .long 4, []), (45, .lload_n 1, 46, 1, 0, .null, []), (46, .ladd, 47, 0, 0, .null, []), (47, .ldc2_w 362, 50, 0, 0, .long 9, []), (50, .ladd, 51, 0, 0, .null, []), (51, .ldc2_w 364, 54, 0, 0, .long 3, []), (54, .ldc2_w 366, 57, 0, 0, .long 5, []), (57, .aload_n 0, 58, 0, 0, .null, []), (58, .getfield 357, 61, 9, 52, .null, [])]),
  (74, [(61, .i2l, 62, 0, 0, .null, []), (62, .lmul, 63, 0, 0, .null, []), (63, .ladd, 64, 0, 0, .null, []), (64, .lcmp, 65, 0, 0, .null, []), (65, .ifCond .gt 7, 68, 72, 0, .null, []), (68, .iconst 1, 69, 0, 0, .int 1, []), (69, .goto 4, 72, 73, 0, .null, []), (72, .iconst 2, 73, 0, 0, .int 2, []), (73, .ireturn, 74, 0, 0, .null, [])])]
theorem kX9_form_ok : m_okC 9 cX9_form kX9_form = true := by decide +kernel
def kX9_keys : mL := [(17, [(0, .aload_n 0, 1, 0, 0, .null, []), (1, .getfield 324, 4, 9, 11, .null, []), (4, .ifCond .eq 10, 7, 14, 0, .null, []), (7, .aload_n 0, 8, 0, 0, .null, []), (8, .getfield 357, 11, 9, 52, .null, []), (11, .goto 5, 14, 16, 0, .null, []), (14, .bipush (-3), 16, 0, 0, .int (-3), []), (16, .ireturn, 17, 0, 0, .null, [])])]
theorem kX9_keys_ok : m_okC 9 cX9_keys kX9_keys = true := by decide +kernel
def kX9_key : mL := [(24, [(0, .aload_n 0, 1, 0, 0, .null, []), (1, .getfield 324, 4, 9, 11, .null, []), (4, .ifCond .eq 24, 7, 28, 0, .null, []), (7, .iload_n 1, 8, 1, 0, .null, []), (8, .ifCond .lt 20, 11, 28, 0, .null, []), (11, .iload_n 1, 12, 1, 0, .null, []), (12, .aload_n 0, 13, 0, 0, .null, []), (13, .getfield 357, 16, 9, 52, .null, []), (16, .if_icmp .ge 12, 19, 28, 0, .null, []), (19, .aload_n 0, 20, 0, 0, .null, []), (20, .getfield 86, 23, 9, 53, .null, []), (23, .iload_n 1, 24, 1, 0, .null, [])]),
  (30, [(24, .iaload, 25, 0, 0, .null, []), (25, .goto 4, 28, 29, 0, .null, []), (28, .iconst 0, 29, 0, 0, .int 0, []), (29, .ireturn, 30, 0, 0, .null, [])])]
theorem kX9_key_ok : m_okC 9 cX9_key kX9_key = true := by decide +kernel
def kX9_target : mL := [(25, [(0, .aload_n 0, 1, 0, 0, .null, []), (1, .getfield 324, 4, 9, 11, .null, []), (4, .ifCond .ne 8, 7, 12, 0, .null, []), (7, .bipush (-3), 9, 0, 0, .int (-3), []), (9, .goto 25, 12, 34, 0, .null, []), (12, .iload_n 1, 13, 1, 0, .null, []), (13, .ifCond .lt 20, 16, 33, 0, .null, []), (16, .iload_n 1, 17, 1, 0, .null, []), (17, .aload_n 0, 18, 0, 0, .null, []), (18, .getfield 357, 21, 9, 52, .null, []), (21, .if_icmp .ge 12, 24, 33, 0, .null, []), (24, .aload_n 0, 25, 0, 0, .null, [])]),
  (35, [(25, .getfield 89, 28, 9, 54, .null, []), (28, .iload_n 1, 29, 1, 0, .null, []), (29, .iaload, 30, 0, 0, .null, []), (30, .goto 4, 33, 34, 0, .null, []), (33, .iconst (-1), 34, 0, 0, .int (-1), []), (34, .ireturn, 35, 0, 0, .null, [])])]
theorem kX9_target_ok : m_okC 9 cX9_target kX9_target = true := by decide +kernel
def kX9_alike : mL := [(25, [(0, .aload_n 0, 1, 0, 0, .null, []), (1, .getfield 324, 4, 9, 11, .null, []), (4, .ifCond .ne 8, 7, 12, 0, .null, []), (7, .bipush (-3), 9, 0, 0, .int (-3), []), (9, .goto 25, 12, 34, 0, .null, []), (12, .iload_n 1, 13, 1, 0, .null, []), (13, .ifCond .lt 20, 16, 33, 0, .null, []), (16, .iload_n 1, 17, 1, 0, .null, []), (17, .aload_n 0, 18, 0, 0, .null, []), (18, .getfield 357, 21, 9, 52, .null, []), (21, .if_icmp .ge 12, 24, 33, 0, .null, []), (24, .aload_n 0, 25, 0, 0, .null, [])]),
  (35, [(25, .getfield 92, 28, 9, 55, .null, []), (28, .iload_n 1, 29, 1, 0, .null, []), (29, .iaload, 30, 0, 0, .null, []), (30, .goto 4, 33, 34, 0, .null, []), (33, .iconst (-1), 34, 0, 0, .int (-1), []), (34, .ireturn, 35, 0, 0, .null, [])])]
theorem kX9_alike_ok : m_okC 9 cX9_alike kX9_alike = true := by decide +kernel
def kX9_hash : mL := [(17, [(0, .iconst 0, 1, 0, 0, .int 0, []), (1, .istore_n 1, 2, 1, 0, .null, []), (2, .iconst 0, 3, 0, 0, .int 0, []), (3, .istore_n 2, 4, 2, 0, .null, []), (4, .iload_n 2, 5, 2, 0, .null, []), (5, .aload_n 0, 6, 0, 0, .null, []), (6, .getfield 125, 9, 9, 2, .null, []), (9, .if_icmp .ge 20, 12, 29, 0, .null, []), (12, .bipush 31, 14, 0, 0, .int 31, []), (14, .iload_n 1, 15, 1, 0, .null, []), (15, .imul, 16, 0, 0, .null, []), (16, .aload_n 0, 17, 0, 0, .null, [])]),
  (31, [(17, .iload_n 2, 18, 2, 0, .null, []), (18, .invokevirtual 131, 21, 104, 146, .null, []), (21, .iadd, 22, 0, 0, .null, []), (22, .istore_n 1, 23, 1, 0, .null, []), (23, .iinc 2 1, 26, 2, 0, .int 1, []), (26, .goto (-22), 29, 4, 0, .null, []), (29, .iload_n 1, 30, 1, 0, .null, []), (30, .ireturn, 31, 0, 0, .null, [])])]
theorem kX9_hash_ok : m_okC 9 cX9_hash kX9_hash = true := by decide +kernel
end
section
def kL_law : mL := [(20, [(0, .new 7, 3, 8, 0, .null, []), (3, .dup, 4, 0, 0, .null, []), (4, .invokespecial 9, 7, 85, 129, .null, []), (7, .astore_n 1, 8, 1, 0, .null, []), (8, .new 10, 11, 9, 0, .null, []), (11, .dup, 12, 0, 0, .null, []), (12, .invokespecial 12, 15, 102, 145, .null, []), (15, .astore_n 2, 16, 2, 0, .null, []), (16, .iconst 0, 17, 0, 0, .int 0, []), (17, .istore_n 3, 18, 3, 0, .null, []), (18, .iload_n 3, 19, 3, 0, .null, []), (19, .aload_n 0, 20, 0, 0, .null, [])]),
  (114, [(20, .arraylength, 21, 0, 0, .null, []), (21, .iconst 4, 22, 0, 0, .int 4, []), (22, .isub, 23, 0, 0, .null, []), (23, .if_icmp .gt 443, 26, 466, 0, .null, []), (26, .aload_n 0, 27, 0, 0, .null, []), (27, .iload_n 3, 28, 3, 0, .null, []), (28, .iaload, 29, 0, 0, .null, []), (29, .bipush 15, 31, 0, 0, .int 15, []), (31, .iand, 32, 0, 0, .null, []), (32, .tableswitch 428 0 15 #[80, 143, 156, 169, 192, 225, 258, 271, 284, 307, 320, 333, 346, 369, 392, 415], 112, 460, 0, .null, [(0, 112), (1, 175), (2, 188), (3, 201), (4, 224), (5, 257), (6, 290), (7, 303), (8, 316), (9, 339), (10, 352), (11, 365), (12, 378), (13, 401), (14, 424), (15, 447)]), (112, .aload_n 1, 113, 1, 0, .null, []), (113, .aload_n 0, 114, 0, 0, .null, [])]),
  (127, [(114, .iload_n 3, 115, 3, 0, .null, []), (115, .iconst 1, 116, 0, 0, .int 1, []), (116, .iadd, 117, 0, 0, .null, []), (117, .iaload, 118, 0, 0, .null, []), (118, .i2l, 119, 0, 0, .null, []), (119, .bipush 32, 121, 0, 0, .int 32, []), (121, .lshl, 122, 0, 0, .null, []), (122, .aload_n 0, 123, 0, 0, .null, []), (123, .iload_n 3, 124, 3, 0, .null, []), (124, .iconst 2, 125, 0, 0, .int 2, []), (125, .iadd, 126, 0, 0, .null, []), (126, .iaload, 127, 0, 0, .null, [])]),
  (143, [(127, .i2l, 128, 0, 0, .null, []), (128, .ldc2_w 13, 131, 0, 0, .long 4294967295, []), (131, .land, 132, 0, 0, .null, []), (132, .lor, 133, 0, 0, .null, []), (133, .aload_n 0, 134, 0, 0, .null, []), (134, .iload_n 3, 135, 3, 0, .null, []), (135, .iconst 3, 136, 0, 0, .int 3, []), (136, .iadd, 137, 0, 0, .null, []), (137, .iaload, 138, 0, 0, .null, []), (138, .invokevirtual 15, 141, 86, 131, .null, []), (141, .aload_n 2, 142, 2, 0, .null, []), (142, .aload_n 0, 143, 0, 0, .null, [])]),
  (156, [(143, .iload_n 3, 144, 3, 0, .null, []), (144, .iconst 1, 145, 0, 0, .int 1, []), (145, .iadd, 146, 0, 0, .null, []), (146, .iaload, 147, 0, 0, .null, []), (147, .i2l, 148, 0, 0, .null, []), (148, .bipush 32, 150, 0, 0, .int 32, []), (150, .lshl, 151, 0, 0, .null, []), (151, .aload_n 0, 152, 0, 0, .null, []), (152, .iload_n 3, 153, 3, 0, .null, []), (153, .iconst 2, 154, 0, 0, .int 2, []), (154, .iadd, 155, 0, 0, .null, []), (155, .iaload, 156, 0, 0, .null, [])]),
  (174, [(156, .i2l, 157, 0, 0, .null, []), (157, .ldc2_w 13, 160, 0, 0, .long 4294967295, []), (160, .land, 161, 0, 0, .null, []), (161, .lor, 162, 0, 0, .null, []), (162, .aload_n 0, 163, 0, 0, .null, []), (163, .iload_n 3, 164, 3, 0, .null, []), (164, .iconst 3, 165, 0, 0, .int 3, []), (165, .iadd, 166, 0, 0, .null, []), (166, .iaload, 167, 0, 0, .null, []), (167, .invokevirtual 19, 170, 103, 147, .null, []), (170, .if_icmp .eq 290, 173, 460, 0, .null, []), (173, .iconst 0, 174, 0, 0, .int 0, [])]),
  (196, [(174, .ireturn, 175, 0, 0, .null, []), (175, .aload_n 1, 176, 1, 0, .null, []), (176, .invokevirtual 20, 179, 87, 129, .null, []), (179, .aload_n 2, 180, 2, 0, .null, []), (180, .invokevirtual 24, 183, 144, 145, .null, []), (183, .if_icmp .eq 277, 186, 460, 0, .null, []), (186, .iconst 0, 187, 0, 0, .int 0, []), (187, .ireturn, 188, 0, 0, .null, []), (188, .aload_n 1, 189, 1, 0, .null, []), (189, .invokevirtual 25, 192, 88, 129, .null, []), (192, .aload_n 2, 193, 2, 0, .null, []), (193, .invokevirtual 28, 196, 146, 145, .null, [])]),
  (212, [(196, .if_icmp .eq 264, 199, 460, 0, .null, []), (199, .iconst 0, 200, 0, 0, .int 0, []), (200, .ireturn, 201, 0, 0, .null, []), (201, .aload_n 1, 202, 1, 0, .null, []), (202, .aload_n 0, 203, 0, 0, .null, []), (203, .iload_n 3, 204, 3, 0, .null, []), (204, .iconst 1, 205, 0, 0, .int 1, []), (205, .iadd, 206, 0, 0, .null, []), (206, .iaload, 207, 0, 0, .null, []), (207, .invokevirtual 29, 210, 89, 130, .null, []), (210, .aload_n 2, 211, 2, 0, .null, []), (211, .aload_n 0, 212, 0, 0, .null, [])]),
  (228, [(212, .iload_n 3, 213, 3, 0, .null, []), (213, .iconst 1, 214, 0, 0, .int 1, []), (214, .iadd, 215, 0, 0, .null, []), (215, .iaload, 216, 0, 0, .null, []), (216, .invokevirtual 33, 219, 147, 146, .null, []), (219, .if_icmp .eq 241, 222, 460, 0, .null, []), (222, .iconst 0, 223, 0, 0, .int 0, []), (223, .ireturn, 224, 0, 0, .null, []), (224, .aload_n 1, 225, 1, 0, .null, []), (225, .aload_n 0, 226, 0, 0, .null, []), (226, .iload_n 3, 227, 3, 0, .null, []), (227, .iconst 1, 228, 0, 0, .int 1, [])]),
  (242, [(228, .iadd, 229, 0, 0, .null, []), (229, .iaload, 230, 0, 0, .null, []), (230, .aload_n 0, 231, 0, 0, .null, []), (231, .iload_n 3, 232, 3, 0, .null, []), (232, .iconst 2, 233, 0, 0, .int 2, []), (233, .iadd, 234, 0, 0, .null, []), (234, .iaload, 235, 0, 0, .null, []), (235, .invokevirtual 34, 238, 90, 131, .null, []), (238, .aload_n 2, 239, 2, 0, .null, []), (239, .aload_n 0, 240, 0, 0, .null, []), (240, .iload_n 3, 241, 3, 0, .null, []), (241, .iconst 1, 242, 0, 0, .int 1, [])]),
  (258, [(242, .iadd, 243, 0, 0, .null, []), (243, .iaload, 244, 0, 0, .null, []), (244, .aload_n 0, 245, 0, 0, .null, []), (245, .iload_n 3, 246, 3, 0, .null, []), (246, .iconst 2, 247, 0, 0, .int 2, []), (247, .iadd, 248, 0, 0, .null, []), (248, .iaload, 249, 0, 0, .null, []), (249, .invokevirtual 38, 252, 148, 147, .null, []), (252, .if_icmp .eq 208, 255, 460, 0, .null, []), (255, .iconst 0, 256, 0, 0, .int 0, []), (256, .ireturn, 257, 0, 0, .null, []), (257, .aload_n 1, 258, 1, 0, .null, [])]),
  (272, [(258, .aload_n 0, 259, 0, 0, .null, []), (259, .iload_n 3, 260, 3, 0, .null, []), (260, .iconst 1, 261, 0, 0, .int 1, []), (261, .iadd, 262, 0, 0, .null, []), (262, .iaload, 263, 0, 0, .null, []), (263, .aload_n 0, 264, 0, 0, .null, []), (264, .iload_n 3, 265, 3, 0, .null, []), (265, .iconst 2, 266, 0, 0, .int 2, []), (266, .iadd, 267, 0, 0, .null, []), (267, .iaload, 268, 0, 0, .null, []), (268, .invokevirtual 39, 271, 91, 131, .null, []), (271, .aload_n 2, 272, 2, 0, .null, [])]),
  (288, [(272, .aload_n 0, 273, 0, 0, .null, []), (273, .iload_n 3, 274, 3, 0, .null, []), (274, .iconst 1, 275, 0, 0, .int 1, []), (275, .iadd, 276, 0, 0, .null, []), (276, .iaload, 277, 0, 0, .null, []), (277, .aload_n 0, 278, 0, 0, .null, []), (278, .iload_n 3, 279, 3, 0, .null, []), (279, .iconst 2, 280, 0, 0, .int 2, []), (280, .iadd, 281, 0, 0, .null, []), (281, .iaload, 282, 0, 0, .null, []), (282, .invokevirtual 42, 285, 151, 147, .null, []), (285, .if_icmp .eq 175, 288, 460, 0, .null, [])]),
  (308, [(288, .iconst 0, 289, 0, 0, .int 0, []), (289, .ireturn, 290, 0, 0, .null, []), (290, .aload_n 1, 291, 1, 0, .null, []), (291, .invokevirtual 43, 294, 92, 129, .null, []), (294, .aload_n 2, 295, 2, 0, .null, []), (295, .invokevirtual 46, 298, 152, 145, .null, []), (298, .if_icmp .eq 162, 301, 460, 0, .null, []), (301, .iconst 0, 302, 0, 0, .int 0, []), (302, .ireturn, 303, 0, 0, .null, []), (303, .aload_n 1, 304, 1, 0, .null, []), (304, .invokevirtual 47, 307, 93, 129, .null, []), (307, .aload_n 2, 308, 2, 0, .null, [])]),
  (326, [(308, .invokevirtual 50, 311, 153, 145, .null, []), (311, .if_icmp .eq 149, 314, 460, 0, .null, []), (314, .iconst 0, 315, 0, 0, .int 0, []), (315, .ireturn, 316, 0, 0, .null, []), (316, .aload_n 1, 317, 1, 0, .null, []), (317, .aload_n 0, 318, 0, 0, .null, []), (318, .iload_n 3, 319, 3, 0, .null, []), (319, .iconst 1, 320, 0, 0, .int 1, []), (320, .iadd, 321, 0, 0, .null, []), (321, .iaload, 322, 0, 0, .null, []), (322, .invokevirtual 51, 325, 94, 130, .null, []), (325, .aload_n 2, 326, 2, 0, .null, [])]),
  (344, [(326, .aload_n 0, 327, 0, 0, .null, []), (327, .iload_n 3, 328, 3, 0, .null, []), (328, .iconst 1, 329, 0, 0, .int 1, []), (329, .iadd, 330, 0, 0, .null, []), (330, .iaload, 331, 0, 0, .null, []), (331, .invokevirtual 54, 334, 154, 146, .null, []), (334, .if_icmp .eq 126, 337, 460, 0, .null, []), (337, .iconst 0, 338, 0, 0, .int 0, []), (338, .ireturn, 339, 0, 0, .null, []), (339, .aload_n 1, 340, 1, 0, .null, []), (340, .invokevirtual 55, 343, 95, 129, .null, []), (343, .aload_n 2, 344, 2, 0, .null, [])]),
  (366, [(344, .invokevirtual 58, 347, 155, 145, .null, []), (347, .if_icmp .eq 113, 350, 460, 0, .null, []), (350, .iconst 0, 351, 0, 0, .int 0, []), (351, .ireturn, 352, 0, 0, .null, []), (352, .aload_n 1, 353, 1, 0, .null, []), (353, .invokevirtual 59, 356, 96, 129, .null, []), (356, .aload_n 2, 357, 2, 0, .null, []), (357, .invokevirtual 62, 360, 157, 145, .null, []), (360, .if_icmp .eq 100, 363, 460, 0, .null, []), (363, .iconst 0, 364, 0, 0, .int 0, []), (364, .ireturn, 365, 0, 0, .null, []), (365, .aload_n 1, 366, 1, 0, .null, [])]),
  (384, [(366, .invokevirtual 63, 369, 97, 129, .null, []), (369, .aload_n 2, 370, 2, 0, .null, []), (370, .invokevirtual 66, 373, 158, 145, .null, []), (373, .if_icmp .eq 87, 376, 460, 0, .null, []), (376, .iconst 0, 377, 0, 0, .int 0, []), (377, .ireturn, 378, 0, 0, .null, []), (378, .aload_n 1, 379, 1, 0, .null, []), (379, .aload_n 0, 380, 0, 0, .null, []), (380, .iload_n 3, 381, 3, 0, .null, []), (381, .iconst 1, 382, 0, 0, .int 1, []), (382, .iadd, 383, 0, 0, .null, []), (383, .iaload, 384, 0, 0, .null, [])]),
  (402, [(384, .invokevirtual 67, 387, 98, 130, .null, []), (387, .aload_n 2, 388, 2, 0, .null, []), (388, .aload_n 0, 389, 0, 0, .null, []), (389, .iload_n 3, 390, 3, 0, .null, []), (390, .iconst 1, 391, 0, 0, .int 1, []), (391, .iadd, 392, 0, 0, .null, []), (392, .iaload, 393, 0, 0, .null, []), (393, .invokevirtual 70, 396, 159, 146, .null, []), (396, .if_icmp .eq 64, 399, 460, 0, .null, []), (399, .iconst 0, 400, 0, 0, .int 0, []), (400, .ireturn, 401, 0, 0, .null, []), (401, .aload_n 1, 402, 1, 0, .null, [])]),
  (416, [(402, .aload_n 0, 403, 0, 0, .null, []), (403, .iload_n 3, 404, 3, 0, .null, []), (404, .iconst 1, 405, 0, 0, .int 1, []), (405, .iadd, 406, 0, 0, .null, []), (406, .iaload, 407, 0, 0, .null, []), (407, .invokevirtual 71, 410, 99, 130, .null, []), (410, .aload_n 2, 411, 2, 0, .null, []), (411, .aload_n 0, 412, 0, 0, .null, []), (412, .iload_n 3, 413, 3, 0, .null, []), (413, .iconst 1, 414, 0, 0, .int 1, []), (414, .iadd, 415, 0, 0, .null, []), (415, .iaload, 416, 0, 0, .null, [])]),
  (434, [(416, .invokevirtual 74, 419, 160, 146, .null, []), (419, .if_icmp .eq 41, 422, 460, 0, .null, []), (422, .iconst 0, 423, 0, 0, .int 0, []), (423, .ireturn, 424, 0, 0, .null, []), (424, .aload_n 1, 425, 1, 0, .null, []), (425, .aload_n 0, 426, 0, 0, .null, []), (426, .iload_n 3, 427, 3, 0, .null, []), (427, .iconst 1, 428, 0, 0, .int 1, []), (428, .iadd, 429, 0, 0, .null, []), (429, .iaload, 430, 0, 0, .null, []), (430, .invokevirtual 75, 433, 100, 130, .null, []), (433, .aload_n 2, 434, 2, 0, .null, [])]),
  (452, [(434, .aload_n 0, 435, 0, 0, .null, []), (435, .iload_n 3, 436, 3, 0, .null, []), (436, .iconst 1, 437, 0, 0, .int 1, []), (437, .iadd, 438, 0, 0, .null, []), (438, .iaload, 439, 0, 0, .null, []), (439, .invokevirtual 78, 442, 161, 146, .null, []), (442, .if_icmp .eq 18, 445, 460, 0, .null, []), (445, .iconst 0, 446, 0, 0, .int 0, []), (446, .ireturn, 447, 0, 0, .null, []), (447, .aload_n 1, 448, 1, 0, .null, []), (448, .invokevirtual 79, 451, 101, 129, .null, []), (451, .aload_n 2, 452, 2, 0, .null, [])]),
  (468, [(452, .invokevirtual 82, 455, 162, 145, .null, []), (455, .if_icmp .eq 5, 458, 460, 0, .null, []), (458, .iconst 0, 459, 0, 0, .int 0, []), (459, .ireturn, 460, 0, 0, .null, []), (460, .iinc 3 4, 463, 3, 0, .int 4, []), (463, .goto (-445), 466, 18, 0, .null, []), (466, .iconst 1, 467, 0, 0, .int 1, []), (467, .ireturn, 468, 0, 0, .null, [])])]
theorem kL_law_ok : m_okC 10 cL_law kL_law = true := by decide +kernel
end
section
abbrev mM : Type := MethodName × ByteArray × Nat × Option FieldType × Nat × Nat × Nat × mL
def m_tab : List mM := [(yX0_init, cX0_init, 1, none, 2, 0, 1, kX0_init),
  (yX0_step, cX0_step, 4, none, 0, 0, 4, kX0_step),
  (yX0_leadHere, cX0_leadHere, 2, none, 0, 0, 2, kX0_leadHere),
  (yX1_init, cX1_init, 3, none, 2, 1, 3, kX1_init),
  (yX1_begin, cX1_begin, 1, none, 0, 1, 1, kX1_begin),
  (yX1_kind, cX1_kind, 1, (some .int), 0, 1, 1, kX1_kind),
  (yX1_tokenValue, cX1_tokenValue, 1, (some .long), 0, 1, 1, kX1_tokenValue),
  (yX1_fail, cX1_fail, 3, none, 0, 1, 3, kX1_fail),
  (yX1_expect, cX1_expect, 2, none, 0, 1, 2, kX1_expect),
  (yX1_enumerations, cX1_enumerations, 2, none, 0, 1, 1, kX1_enumerations),
  (yX1_enumeration, cX1_enumeration, 1, none, 0, 1, 1, kX1_enumeration),
  (yX1_constants, cX1_constants, 3, none, 0, 1, 2, kX1_constants),
  (yX1_constant, cX1_constant, 3, none, 0, 1, 2, kX1_constant),
  (yX1_findEnumeration, cX1_findEnumeration, 4, (some .int), 0, 1, 2, kX1_findEnumeration),
  (yX1_constantCount, cX1_constantCount, 2, (some .int), 0, 1, 2, kX1_constantCount),
  (yX1_findConstant, cX1_findConstant, 6, (some .int), 0, 1, 3, kX1_findConstant),
  (yX1_selector, cX1_selector, 1, none, 0, 1, 1, kX1_selector),
  (yX1_chooseEnumeration, cX1_chooseEnumeration, 1, none, 0, 1, 1, kX1_chooseEnumeration),
  (yX1_arms, cX1_arms, 2, none, 0, 1, 1, kX1_arms),
  (yX1_arm, cX1_arm, 4, none, 0, 1, 2, kX1_arm),
  (yX1_labels, cX1_labels, 2, none, 0, 1, 1, kX1_labels),
  (yX1_oneLabel, cX1_oneLabel, 7, none, 0, 1, 1, kX1_oneLabel),
  (yX1_body, cX1_body, 4, none, 0, 1, 1, kX1_body),
  (yX1_stmts, cX1_stmts, 3, none, 0, 1, 2, kX1_stmts),
  (yX1_beginsStmt, cX1_beginsStmt, 1, (some .boolean), 1, 1, 1, kX1_beginsStmt),
  (yX1_openStmt, cX1_openStmt, 3, none, 0, 1, 2, kX1_openStmt),
  (yX1_stmt, cX1_stmt, 2, none, 0, 1, 2, kX1_stmt),
  (yX1_block, cX1_block, 3, none, 0, 1, 2, kX1_block),
  (yX1_branches, cX1_branches, 6, none, 0, 1, 2, kX1_branches),
  (yX1_let, cX1_let, 2, none, 0, 1, 1, kX1_let),
  (yX1_setName, cX1_setName, 3, none, 0, 1, 3, kX1_setName),
  (yX1_simple, cX1_simple, 3, none, 0, 1, 1, kX1_simple),
  (yX1_useName, cX1_useName, 2, none, 0, 1, 1, kX1_useName),
  (yX1_yieldNumber, cX1_yieldNumber, 3, none, 0, 1, 1, kX1_yieldNumber),
  (yX1_leave, cX1_leave, 3, none, 0, 1, 3, kX1_leave),
  (yX1_number, cX1_number, 2, (some .int), 0, 1, 1, kX1_number),
  (yX1_end, cX1_end, 1, none, 0, 1, 1, kX1_end),
  (yX2_init, cX2_init, 1, none, 2, 2, 1, kX2_init),
  (yX2_at, cX2_at, 2, (some .int), 0, 2, 2, kX2_at),
  (yX2_append, cX2_append, 5, (some .boolean), 0, 2, 3, kX2_append),
  (yX2_packed, cX2_packed, 6, (some .long), 0, 2, 3, kX2_packed),
  (yX2_whole, cX2_whole, 2, (some .long), 0, 2, 1, kX2_whole),
  (yX2_wholeHash, cX2_wholeHash, 3, (some .int), 0, 2, 1, kX2_wholeHash),
  (yX3_init, cX3_init, 1, none, 2, 3, 1, kX3_init),
  (yX3_forget, cX3_forget, 1, none, 0, 3, 1, kX3_forget),
  (yX3_begin, cX3_begin, 1, none, 0, 3, 1, kX3_begin),
  (yX3_go, cX3_go, 10, (some .int), 0, 3, 4, kX3_go),
  (yX3_isName, cX3_isName, 1, (some .boolean), 1, 3, 1, kX3_isName),
  (yX3_addToTrace, cX3_addToTrace, 2, none, 0, 3, 2, kX3_addToTrace),
  (yX4_init, cX4_init, 1, none, 2, 4, 1, kX4_init),
  (yX4_find, cX4_find, 4, (some .int), 0, 4, 2, kX4_find),
  (yX4_add, cX4_add, 3, (some .int), 0, 4, 2, kX4_add),
  (yX4_shrink, cX4_shrink, 2, none, 0, 4, 2, kX4_shrink),
  (yX4_isSet, cX4_isSet, 2, (some .boolean), 0, 4, 2, kX4_isSet),
  (yX4_makeSet, cX4_makeSet, 2, none, 0, 4, 2, kX4_makeSet),
  (yX4_isReached, cX4_isReached, 1, (some .boolean), 0, 4, 1, kX4_isReached),
  (yX5_init, cX5_init, 1, none, 2, 5, 1, kX5_init),
  (yX5_make, cX5_make, 3, none, 0, 5, 2, kX5_make),
  (yX5_put, cX5_put, 5, none, 0, 5, 3, kX5_put),
  (yX5_has, cX5_has, 2, (some .boolean), 0, 5, 2, kX5_has),
  (yX5_isDense, cX5_isDense, 3, (some .boolean), 0, 5, 1, kX5_isDense),
  (yX6_init, cX6_init, 1, none, 2, 6, 1, kX6_init),
  (yX6_packedWord, cX6_packedWord, 4, (some .long), 1, 6, 1, []),
  (yX6_cut, cX6_cut, 6, none, 0, 6, 2, kX6_cut),
  (yX6_behindBlanks, cX6_behindBlanks, 4, (some .int), 1, 6, 2, kX6_behindBlanks),
  (yX6_cutOne, cX6_cutOne, 5, (some .int), 0, 6, 4, kX6_cutOne),
  (yX6_cutName, cX6_cutName, 6, (some .int), 0, 6, 3, kX6_cutName),
  (yX6_nameKind, cX6_nameKind, 4, (some .int), 0, 6, 2, kX6_nameKind),
  (yX6_cutNumber, cX6_cutNumber, 6, (some .int), 0, 6, 3, kX6_cutNumber),
  (yX6_cutText, cX6_cutText, 4, (some .int), 0, 6, 3, kX6_cutText),
  (yX6_isSmall, cX6_isSmall, 1, (some .boolean), 1, 6, 1, kX6_isSmall),
  (yX6_isFigure, cX6_isFigure, 1, (some .boolean), 1, 6, 1, kX6_isFigure),
  (yX6_isTextSign, cX6_isTextSign, 1, (some .boolean), 1, 6, 1, kX6_isTextSign),
  (yX6_signKind, cX6_signKind, 1, (some .int), 1, 6, 1, kX6_signKind),
  (yX6_keep, cX6_keep, 5, none, 0, 6, 4, kX6_keep),
  (yX7_init, cX7_init, 1, none, 2, 7, 1, kX7_init),
  (yX7_clear, cX7_clear, 1, none, 0, 7, 1, kX7_clear),
  (yX7_addArm, cX7_addArm, 1, none, 0, 7, 1, kX7_addArm),
  (yX7_startOf, cX7_startOf, 2, (some .int), 0, 7, 2, kX7_startOf),
  (yX7_addLabel, cX7_addLabel, 3, none, 0, 7, 2, kX7_addLabel),
  (yX7_packedHash, cX7_packedHash, 4, (some .int), 1, 7, 1, kX7_packedHash),
  (yX7_hasLabel, cX7_hasLabel, 3, (some .boolean), 0, 7, 2, kX7_hasLabel),
  (yX7_labelWith, cX7_labelWith, 4, (some .int), 0, 7, 2, kX7_labelWith),
  (yX7_armFor, cX7_armFor, 4, (some .int), 0, 7, 2, kX7_armFor),
  (yX7_isExhaustive, cX7_isExhaustive, 1, (some .boolean), 0, 7, 1, kX7_isExhaustive),
  (yX8_init, cX8_init, 1, none, 2, 8, 1, kX8_init),
  (yX8_type, cX8_type, 4, (some .int), 0, 8, 3, kX8_type),
  (yX8_read, cX8_read, 1, (some .int), 0, 8, 1, kX8_read),
  (yX8_place, cX8_place, 1, (some .int), 0, 8, 1, kX8_place),
  (yX8_told, cX8_told, 2, (some .int), 0, 8, 2, kX8_told),
  (yX8_label, cX8_label, 3, (some .int), 0, 8, 3, kX8_label),
  (yX8_run, cX8_run, 4, (some .int), 0, 8, 3, kX8_run),
  (yX8_runNone, cX8_runNone, 1, (some .int), 0, 8, 1, kX8_runNone),
  (yX8_traced, cX8_traced, 1, (some .int), 0, 8, 1, kX8_traced),
  (yX8_trace, cX8_trace, 2, (some .int), 0, 8, 2, kX8_trace),
  (yX8_value, cX8_value, 1, (some .int), 0, 8, 1, kX8_value),
  (yX8_form, cX8_form, 1, (some .int), 0, 8, 1, kX8_form),
  (yX8_keys, cX8_keys, 1, (some .int), 0, 8, 1, kX8_keys),
  (yX8_key, cX8_key, 2, (some .int), 0, 8, 2, kX8_key),
  (yX8_target, cX8_target, 2, (some .int), 0, 8, 2, kX8_target),
  (yX8_alike, cX8_alike, 2, (some .int), 0, 8, 2, kX8_alike),
  (yX8_hash, cX8_hash, 1, (some .int), 0, 8, 1, kX8_hash),
  (yX9_init, cX9_init, 1, none, 2, 9, 1, kX9_init),
  (yX9_type, cX9_type, 5, (some .int), 0, 9, 3, kX9_type),
  (yX9_octet, cX9_octet, 2, (some .int), 0, 9, 2, kX9_octet),
  (yX9_isSmall, cX9_isSmall, 1, (some .boolean), 1, 9, 1, kX9_isSmall),
  (yX9_isFigure, cX9_isFigure, 1, (some .boolean), 1, 9, 1, kX9_isFigure),
  (yX9_next, cX9_next, 2, none, 0, 9, 1, kX9_next),
  (yX9_nextName, cX9_nextName, 3, none, 0, 9, 1, kX9_nextName),
  (yX9_nextNumber, cX9_nextNumber, 2, none, 0, 9, 1, kX9_nextNumber),
  (yX9_nextText, cX9_nextText, 2, none, 0, 9, 1, kX9_nextText),
  (yX9_wrong, cX9_wrong, 2, none, 0, 9, 2, kX9_wrong),
  (yX9_wrongAt, cX9_wrongAt, 3, none, 0, 9, 3, kX9_wrongAt),
  (yX9_cannot, cX9_cannot, 1, none, 0, 9, 1, kX9_cannot),
  (yX9_isSign, cX9_isSign, 2, (some .boolean), 0, 9, 2, kX9_isSign),
  (yX9_isWord, cX9_isWord, 2, (some .boolean), 0, 9, 2, kX9_isWord),
  (yX9_wantsSign, cX9_wantsSign, 2, none, 0, 9, 2, kX9_wantsSign),
  (yX9_number, cX9_number, 2, (some .int), 0, 9, 1, kX9_number),
  (yX9_signed, cX9_signed, 3, (some .int), 0, 9, 1, kX9_signed),
  (yX9_readEnum, cX9_readEnum, 3, none, 0, 9, 1, kX9_readEnum),
  (yX9_constantOf, cX9_constantOf, 5, (some .int), 0, 9, 3, kX9_constantOf),
  (yX9_readHead, cX9_readHead, 2, none, 0, 9, 1, kX9_readHead),
  (yX9_isOther, cX9_isOther, 6, (some .boolean), 0, 9, 4, kX9_isOther),
  (yX9_hashOf, cX9_hashOf, 5, (some .int), 1, 9, 2, kX9_hashOf),
  (yX9_readLabel, cX9_readLabel, 8, none, 0, 9, 1, kX9_readLabel),
  (yX9_emit, cX9_emit, 4, (some .int), 0, 9, 4, kX9_emit),
  (yX9_inScope, cX9_inScope, 4, (some .int), 0, 9, 2, kX9_inScope),
  (yX9_push, cX9_push, 2, none, 0, 9, 2, kX9_push),
  (yX9_pop, cX9_pop, 1, none, 0, 9, 1, kX9_pop),
  (yX9_through, cX9_through, 5, none, 0, 9, 2, kX9_through),
  (yX9_isList, cX9_isList, 1, (some .boolean), 0, 9, 1, kX9_isList),
  (yX9_begin, cX9_begin, 1, none, 0, 9, 1, kX9_begin),
  (yX9_dead, cX9_dead, 1, none, 0, 9, 1, kX9_dead),
  (yX9_simple, cX9_simple, 3, none, 0, 9, 1, kX9_simple),
  (yX9_use, cX9_use, 2, none, 0, 9, 1, kX9_use),
  (yX9_let, cX9_let, 2, none, 0, 9, 1, kX9_let),
  (yX9_yieldStmt, cX9_yieldStmt, 1, none, 0, 9, 1, kX9_yieldStmt),
  (yX9_isSimple, cX9_isSimple, 1, (some .boolean), 0, 9, 1, kX9_isSimple),
  (yX9_stmt, cX9_stmt, 1, none, 0, 9, 1, kX9_stmt),
  (yX9_endBlock, cX9_endBlock, 3, none, 0, 9, 1, kX9_endBlock),
  (yX9_readStmts, cX9_readStmts, 3, none, 0, 9, 2, kX9_readStmts),
  (yX9_readOld, cX9_readOld, 1, none, 0, 9, 1, kX9_readOld),
  (yX9_readBody, cX9_readBody, 2, none, 0, 9, 1, kX9_readBody),
  (yX9_readArm, cX9_readArm, 2, none, 0, 9, 1, kX9_readArm),
  (yX9_read, cX9_read, 1, (some .int), 0, 9, 1, kX9_read),
  (yX9_emitEnd, cX9_emitEnd, 1, none, 0, 9, 1, kX9_emitEnd),
  (yX9_place, cX9_place, 1, (some .int), 0, 9, 1, kX9_place),
  (yX9_told, cX9_told, 2, (some .int), 0, 9, 2, kX9_told),
  (yX9_label, cX9_label, 3, (some .int), 0, 9, 3, kX9_label),
  (yX9_armFor, cX9_armFor, 3, (some .int), 0, 9, 2, kX9_armFor),
  (yX9_isTextAt, cX9_isTextAt, 4, (some .boolean), 0, 9, 2, kX9_isTextAt),
  (yX9_run, cX9_run, 7, (some .int), 0, 9, 3, kX9_run),
  (yX9_runNone, cX9_runNone, 1, (some .int), 0, 9, 1, kX9_runNone),
  (yX9_traced, cX9_traced, 1, (some .int), 0, 9, 1, kX9_traced),
  (yX9_trace, cX9_trace, 2, (some .int), 0, 9, 2, kX9_trace),
  (yX9_value, cX9_value, 1, (some .int), 0, 9, 1, kX9_value),
  (yX9_findKeys, cX9_findKeys, 4, none, 0, 9, 1, kX9_findKeys),
  (yX9_form, cX9_form, 3, (some .int), 0, 9, 1, kX9_form),
  (yX9_keys, cX9_keys, 1, (some .int), 0, 9, 1, kX9_keys),
  (yX9_key, cX9_key, 2, (some .int), 0, 9, 2, kX9_key),
  (yX9_target, cX9_target, 2, (some .int), 0, 9, 2, kX9_target),
  (yX9_alike, cX9_alike, 2, (some .int), 0, 9, 2, kX9_alike),
  (yX9_hash, cX9_hash, 3, (some .int), 0, 9, 1, kX9_hash)]
/-- what is known of each method -/
def m_Mok (q : mM) : Prop := Cond.code q.1 q.2.1 q.2.2.1 q.2.2.2.1 ∈ m_ws ∧ Cond.initialized q.1.cls ∈ m_ws ∧ (match q.2.2.2.2.1 with | 0 => Cond.instanceMethod q.1 ∈ m_ws ∧ Cond.selects q.1.cls q.1 q.1 ∈ m_ws | 1 => Cond.static q.1 ∈ m_ws | _ => Cond.instanceMethod q.1 ∈ m_ws ∧ q.1.name = "<init>" ∧ q.2.2.2.1 = none) ∧ (plainName q.1.cls = true ∧ q.1.cls = m_RR q.2.2.2.2.2.1 ∧ q.1.cls ≠ "java/lang/invoke/MethodHandle" ∧ q.1.cls ≠ "java/lang/invoke/VarHandle" ∧ (parseMethodDescriptor q.1.desc).map (fun d => d.parameters.length + (if q.2.2.2.2.1 = 1 then 0 else 1)) = some q.2.2.2.2.2.2.1 ∧ q.2.2.1 ≤ 45 ∧ q.2.2.2.2.1 ≤ 2 ∧ q.2.2.2.2.2.1 ≤ 9) ∧ m_okC q.2.2.2.2.2.1 q.2.1 q.2.2.2.2.2.2.2 = true
theorem m_MX0_init : m_Mok (yX0_init, cX0_init, 1, none, 2, 0, 1, kX0_init) := ⟨m_in 221 (by decide +kernel) rfl, m_in 86 (by decide +kernel) rfl, ⟨m_in 220 (by decide +kernel) rfl, rfl, rfl⟩, by decide +kernel, kX0_init_ok⟩
theorem m_MX0_step : m_Mok (yX0_step, cX0_step, 4, none, 0, 0, 4, kX0_step) := ⟨m_in 644 (by decide +kernel) rfl, m_in 86 (by decide +kernel) rfl, ⟨m_in 642 (by decide +kernel) rfl, m_in 643 (by decide +kernel) rfl⟩, by decide +kernel, kX0_step_ok⟩
theorem m_MX0_leadHere : m_Mok (yX0_leadHere, cX0_leadHere, 2, none, 0, 0, 2, kX0_leadHere) := ⟨m_in 648 (by decide +kernel) rfl, m_in 86 (by decide +kernel) rfl, ⟨m_in 646 (by decide +kernel) rfl, m_in 647 (by decide +kernel) rfl⟩, by decide +kernel, kX0_leadHere_ok⟩
theorem m_MX1_init : m_Mok (yX1_init, cX1_init, 3, none, 2, 1, 3, kX1_init) := ⟨m_in 312 (by decide +kernel) rfl, m_in 87 (by decide +kernel) rfl, ⟨m_in 311 (by decide +kernel) rfl, rfl, rfl⟩, by decide +kernel, kX1_init_ok⟩
theorem m_MX1_begin : m_Mok (yX1_begin, cX1_begin, 1, none, 0, 1, 1, kX1_begin) := ⟨m_in 513 (by decide +kernel) rfl, m_in 87 (by decide +kernel) rfl, ⟨m_in 511 (by decide +kernel) rfl, m_in 512 (by decide +kernel) rfl⟩, by decide +kernel, kX1_begin_ok⟩
theorem m_MX1_kind : m_Mok (yX1_kind, cX1_kind, 1, (some .int), 0, 1, 1, kX1_kind) := ⟨m_in 525 (by decide +kernel) rfl, m_in 87 (by decide +kernel) rfl, ⟨m_in 524 (by decide +kernel) rfl, m_in 6 (by decide +kernel) rfl⟩, by decide +kernel, kX1_kind_ok⟩
theorem m_MX1_tokenValue : m_Mok (yX1_tokenValue, cX1_tokenValue, 1, (some .long), 0, 1, 1, kX1_tokenValue) := ⟨m_in 537 (by decide +kernel) rfl, m_in 87 (by decide +kernel) rfl, ⟨m_in 536 (by decide +kernel) rfl, m_in 9 (by decide +kernel) rfl⟩, by decide +kernel, kX1_tokenValue_ok⟩
theorem m_MX1_fail : m_Mok (yX1_fail, cX1_fail, 3, none, 0, 1, 3, kX1_fail) := ⟨m_in 533 (by decide +kernel) rfl, m_in 87 (by decide +kernel) rfl, ⟨m_in 532 (by decide +kernel) rfl, m_in 8 (by decide +kernel) rfl⟩, by decide +kernel, kX1_fail_ok⟩
theorem m_MX1_expect : m_Mok (yX1_expect, cX1_expect, 2, none, 0, 1, 2, kX1_expect) := ⟨m_in 545 (by decide +kernel) rfl, m_in 87 (by decide +kernel) rfl, ⟨m_in 544 (by decide +kernel) rfl, m_in 11 (by decide +kernel) rfl⟩, by decide +kernel, kX1_expect_ok⟩
theorem m_MX1_enumerations : m_Mok (yX1_enumerations, cX1_enumerations, 2, none, 0, 1, 1, kX1_enumerations) := ⟨m_in 521 (by decide +kernel) rfl, m_in 87 (by decide +kernel) rfl, ⟨m_in 519 (by decide +kernel) rfl, m_in 520 (by decide +kernel) rfl⟩, by decide +kernel, kX1_enumerations_ok⟩
theorem m_MX1_enumeration : m_Mok (yX1_enumeration, cX1_enumeration, 1, none, 0, 1, 1, kX1_enumeration) := ⟨m_in 529 (by decide +kernel) rfl, m_in 87 (by decide +kernel) rfl, ⟨m_in 528 (by decide +kernel) rfl, m_in 7 (by decide +kernel) rfl⟩, by decide +kernel, kX1_enumeration_ok⟩
theorem m_MX1_constants : m_Mok (yX1_constants, cX1_constants, 3, none, 0, 1, 2, kX1_constants) := ⟨m_in 549 (by decide +kernel) rfl, m_in 87 (by decide +kernel) rfl, ⟨m_in 548 (by decide +kernel) rfl, m_in 12 (by decide +kernel) rfl⟩, by decide +kernel, kX1_constants_ok⟩
theorem m_MX1_constant : m_Mok (yX1_constant, cX1_constant, 3, none, 0, 1, 2, kX1_constant) := ⟨m_in 553 (by decide +kernel) rfl, m_in 87 (by decide +kernel) rfl, ⟨m_in 552 (by decide +kernel) rfl, m_in 13 (by decide +kernel) rfl⟩, by decide +kernel, kX1_constant_ok⟩
theorem m_MX1_findEnumeration : m_Mok (yX1_findEnumeration, cX1_findEnumeration, 4, (some .int), 0, 1, 2, kX1_findEnumeration) := ⟨m_in 541 (by decide +kernel) rfl, m_in 87 (by decide +kernel) rfl, ⟨m_in 540 (by decide +kernel) rfl, m_in 10 (by decide +kernel) rfl⟩, by decide +kernel, kX1_findEnumeration_ok⟩
theorem m_MX1_constantCount : m_Mok (yX1_constantCount, cX1_constantCount, 2, (some .int), 0, 1, 2, kX1_constantCount) := ⟨m_in 557 (by decide +kernel) rfl, m_in 87 (by decide +kernel) rfl, ⟨m_in 556 (by decide +kernel) rfl, m_in 14 (by decide +kernel) rfl⟩, by decide +kernel, kX1_constantCount_ok⟩
theorem m_MX1_findConstant : m_Mok (yX1_findConstant, cX1_findConstant, 6, (some .int), 0, 1, 3, kX1_findConstant) := ⟨m_in 561 (by decide +kernel) rfl, m_in 87 (by decide +kernel) rfl, ⟨m_in 560 (by decide +kernel) rfl, m_in 15 (by decide +kernel) rfl⟩, by decide +kernel, kX1_findConstant_ok⟩
theorem m_MX1_selector : m_Mok (yX1_selector, cX1_selector, 1, none, 0, 1, 1, kX1_selector) := ⟨m_in 565 (by decide +kernel) rfl, m_in 87 (by decide +kernel) rfl, ⟨m_in 563 (by decide +kernel) rfl, m_in 564 (by decide +kernel) rfl⟩, by decide +kernel, kX1_selector_ok⟩
theorem m_MX1_chooseEnumeration : m_Mok (yX1_chooseEnumeration, cX1_chooseEnumeration, 1, none, 0, 1, 1, kX1_chooseEnumeration) := ⟨m_in 569 (by decide +kernel) rfl, m_in 87 (by decide +kernel) rfl, ⟨m_in 568 (by decide +kernel) rfl, m_in 16 (by decide +kernel) rfl⟩, by decide +kernel, kX1_chooseEnumeration_ok⟩
theorem m_MX1_arms : m_Mok (yX1_arms, cX1_arms, 2, none, 0, 1, 1, kX1_arms) := ⟨m_in 573 (by decide +kernel) rfl, m_in 87 (by decide +kernel) rfl, ⟨m_in 571 (by decide +kernel) rfl, m_in 572 (by decide +kernel) rfl⟩, by decide +kernel, kX1_arms_ok⟩
theorem m_MX1_arm : m_Mok (yX1_arm, cX1_arm, 4, none, 0, 1, 2, kX1_arm) := ⟨m_in 577 (by decide +kernel) rfl, m_in 87 (by decide +kernel) rfl, ⟨m_in 576 (by decide +kernel) rfl, m_in 17 (by decide +kernel) rfl⟩, by decide +kernel, kX1_arm_ok⟩
theorem m_MX1_labels : m_Mok (yX1_labels, cX1_labels, 2, none, 0, 1, 1, kX1_labels) := ⟨m_in 585 (by decide +kernel) rfl, m_in 87 (by decide +kernel) rfl, ⟨m_in 584 (by decide +kernel) rfl, m_in 18 (by decide +kernel) rfl⟩, by decide +kernel, kX1_labels_ok⟩
theorem m_MX1_oneLabel : m_Mok (yX1_oneLabel, cX1_oneLabel, 7, none, 0, 1, 1, kX1_oneLabel) := ⟨m_in 589 (by decide +kernel) rfl, m_in 87 (by decide +kernel) rfl, ⟨m_in 588 (by decide +kernel) rfl, m_in 19 (by decide +kernel) rfl⟩, by decide +kernel, kX1_oneLabel_ok⟩
theorem m_MX1_body : m_Mok (yX1_body, cX1_body, 4, none, 0, 1, 1, kX1_body) := ⟨m_in 692 (by decide +kernel) rfl, m_in 87 (by decide +kernel) rfl, ⟨m_in 691 (by decide +kernel) rfl, m_in 33 (by decide +kernel) rfl⟩, by decide +kernel, kX1_body_ok⟩
theorem m_MX1_stmts : m_Mok (yX1_stmts, cX1_stmts, 3, none, 0, 1, 2, kX1_stmts) := ⟨m_in 609 (by decide +kernel) rfl, m_in 87 (by decide +kernel) rfl, ⟨m_in 608 (by decide +kernel) rfl, m_in 21 (by decide +kernel) rfl⟩, by decide +kernel, kX1_stmts_ok⟩
theorem m_MX1_beginsStmt : m_Mok (yX1_beginsStmt, cX1_beginsStmt, 1, (some .boolean), 1, 1, 1, kX1_beginsStmt) := ⟨m_in 612 (by decide +kernel) rfl, m_in 87 (by decide +kernel) rfl, m_in 611 (by decide +kernel) rfl, by decide +kernel, kX1_beginsStmt_ok⟩
theorem m_MX1_openStmt : m_Mok (yX1_openStmt, cX1_openStmt, 3, none, 0, 1, 2, kX1_openStmt) := ⟨m_in 620 (by decide +kernel) rfl, m_in 87 (by decide +kernel) rfl, ⟨m_in 619 (by decide +kernel) rfl, m_in 23 (by decide +kernel) rfl⟩, by decide +kernel, kX1_openStmt_ok⟩
theorem m_MX1_stmt : m_Mok (yX1_stmt, cX1_stmt, 2, none, 0, 1, 2, kX1_stmt) := ⟨m_in 616 (by decide +kernel) rfl, m_in 87 (by decide +kernel) rfl, ⟨m_in 615 (by decide +kernel) rfl, m_in 22 (by decide +kernel) rfl⟩, by decide +kernel, kX1_stmt_ok⟩
theorem m_MX1_block : m_Mok (yX1_block, cX1_block, 3, none, 0, 1, 2, kX1_block) := ⟨m_in 632 (by decide +kernel) rfl, m_in 87 (by decide +kernel) rfl, ⟨m_in 631 (by decide +kernel) rfl, m_in 24 (by decide +kernel) rfl⟩, by decide +kernel, kX1_block_ok⟩
theorem m_MX1_branches : m_Mok (yX1_branches, cX1_branches, 6, none, 0, 1, 2, kX1_branches) := ⟨m_in 640 (by decide +kernel) rfl, m_in 87 (by decide +kernel) rfl, ⟨m_in 639 (by decide +kernel) rfl, m_in 25 (by decide +kernel) rfl⟩, by decide +kernel, kX1_branches_ok⟩
theorem m_MX1_let : m_Mok (yX1_let, cX1_let, 2, none, 0, 1, 1, kX1_let) := ⟨m_in 652 (by decide +kernel) rfl, m_in 87 (by decide +kernel) rfl, ⟨m_in 651 (by decide +kernel) rfl, m_in 26 (by decide +kernel) rfl⟩, by decide +kernel, kX1_let_ok⟩
theorem m_MX1_setName : m_Mok (yX1_setName, cX1_setName, 3, none, 0, 1, 3, kX1_setName) := ⟨m_in 664 (by decide +kernel) rfl, m_in 87 (by decide +kernel) rfl, ⟨m_in 663 (by decide +kernel) rfl, m_in 28 (by decide +kernel) rfl⟩, by decide +kernel, kX1_setName_ok⟩
theorem m_MX1_simple : m_Mok (yX1_simple, cX1_simple, 3, none, 0, 1, 1, kX1_simple) := ⟨m_in 680 (by decide +kernel) rfl, m_in 87 (by decide +kernel) rfl, ⟨m_in 679 (by decide +kernel) rfl, m_in 31 (by decide +kernel) rfl⟩, by decide +kernel, kX1_simple_ok⟩
theorem m_MX1_useName : m_Mok (yX1_useName, cX1_useName, 2, none, 0, 1, 1, kX1_useName) := ⟨m_in 684 (by decide +kernel) rfl, m_in 87 (by decide +kernel) rfl, ⟨m_in 683 (by decide +kernel) rfl, m_in 32 (by decide +kernel) rfl⟩, by decide +kernel, kX1_useName_ok⟩
theorem m_MX1_yieldNumber : m_Mok (yX1_yieldNumber, cX1_yieldNumber, 3, none, 0, 1, 1, kX1_yieldNumber) := ⟨m_in 672 (by decide +kernel) rfl, m_in 87 (by decide +kernel) rfl, ⟨m_in 671 (by decide +kernel) rfl, m_in 29 (by decide +kernel) rfl⟩, by decide +kernel, kX1_yieldNumber_ok⟩
theorem m_MX1_leave : m_Mok (yX1_leave, cX1_leave, 3, none, 0, 1, 3, kX1_leave) := ⟨m_in 676 (by decide +kernel) rfl, m_in 87 (by decide +kernel) rfl, ⟨m_in 675 (by decide +kernel) rfl, m_in 30 (by decide +kernel) rfl⟩, by decide +kernel, kX1_leave_ok⟩
theorem m_MX1_number : m_Mok (yX1_number, cX1_number, 2, (some .int), 0, 1, 1, kX1_number) := ⟨m_in 660 (by decide +kernel) rfl, m_in 87 (by decide +kernel) rfl, ⟨m_in 659 (by decide +kernel) rfl, m_in 27 (by decide +kernel) rfl⟩, by decide +kernel, kX1_number_ok⟩
theorem m_MX1_end : m_Mok (yX1_end, cX1_end, 1, none, 0, 1, 1, kX1_end) := ⟨m_in 696 (by decide +kernel) rfl, m_in 87 (by decide +kernel) rfl, ⟨m_in 694 (by decide +kernel) rfl, m_in 695 (by decide +kernel) rfl⟩, by decide +kernel, kX1_end_ok⟩
theorem m_MX2_init : m_Mok (yX2_init, cX2_init, 1, none, 2, 2, 1, kX2_init) := ⟨m_in 104 (by decide +kernel) rfl, m_in 79 (by decide +kernel) rfl, ⟨m_in 103 (by decide +kernel) rfl, rfl, rfl⟩, by decide +kernel, kX2_init_ok⟩
theorem m_MX2_at : m_Mok (yX2_at, cX2_at, 2, (some .int), 0, 2, 2, kX2_at) := ⟨m_in 459 (by decide +kernel) rfl, m_in 79 (by decide +kernel) rfl, ⟨m_in 457 (by decide +kernel) rfl, m_in 458 (by decide +kernel) rfl⟩, by decide +kernel, kX2_at_ok⟩
theorem m_MX2_append : m_Mok (yX2_append, cX2_append, 5, (some .boolean), 0, 2, 3, kX2_append) := ⟨m_in 443 (by decide +kernel) rfl, m_in 79 (by decide +kernel) rfl, ⟨m_in 441 (by decide +kernel) rfl, m_in 442 (by decide +kernel) rfl⟩, by decide +kernel, kX2_append_ok⟩
theorem m_MX2_packed : m_Mok (yX2_packed, cX2_packed, 6, (some .long), 0, 2, 3, kX2_packed) := ⟨m_in 481 (by decide +kernel) rfl, m_in 79 (by decide +kernel) rfl, ⟨m_in 479 (by decide +kernel) rfl, m_in 480 (by decide +kernel) rfl⟩, by decide +kernel, kX2_packed_ok⟩
theorem m_MX2_whole : m_Mok (yX2_whole, cX2_whole, 2, (some .long), 0, 2, 1, kX2_whole) := ⟨m_in 728 (by decide +kernel) rfl, m_in 79 (by decide +kernel) rfl, ⟨m_in 726 (by decide +kernel) rfl, m_in 727 (by decide +kernel) rfl⟩, by decide +kernel, kX2_whole_ok⟩
theorem m_MX2_wholeHash : m_Mok (yX2_wholeHash, cX2_wholeHash, 3, (some .int), 0, 2, 1, kX2_wholeHash) := ⟨m_in 806 (by decide +kernel) rfl, m_in 79 (by decide +kernel) rfl, ⟨m_in 804 (by decide +kernel) rfl, m_in 805 (by decide +kernel) rfl⟩, by decide +kernel, kX2_wholeHash_ok⟩
theorem m_MX3_init : m_Mok (yX3_init, cX3_init, 1, none, 2, 3, 1, kX3_init) := ⟨m_in 395 (by decide +kernel) rfl, m_in 90 (by decide +kernel) rfl, ⟨m_in 394 (by decide +kernel) rfl, rfl, rfl⟩, by decide +kernel, kX3_init_ok⟩
theorem m_MX3_forget : m_Mok (yX3_forget, cX3_forget, 1, none, 0, 3, 1, kX3_forget) := ⟨m_in 505 (by decide +kernel) rfl, m_in 90 (by decide +kernel) rfl, ⟨m_in 503 (by decide +kernel) rfl, m_in 504 (by decide +kernel) rfl⟩, by decide +kernel, kX3_forget_ok⟩
theorem m_MX3_begin : m_Mok (yX3_begin, cX3_begin, 1, none, 0, 3, 1, kX3_begin) := ⟨m_in 509 (by decide +kernel) rfl, m_in 90 (by decide +kernel) rfl, ⟨m_in 507 (by decide +kernel) rfl, m_in 508 (by decide +kernel) rfl⟩, by decide +kernel, kX3_begin_ok⟩
theorem m_MX3_go : m_Mok (yX3_go, cX3_go, 10, (some .int), 0, 3, 4, kX3_go) := ⟨m_in 743 (by decide +kernel) rfl, m_in 90 (by decide +kernel) rfl, ⟨m_in 741 (by decide +kernel) rfl, m_in 742 (by decide +kernel) rfl⟩, by decide +kernel, kX3_go_ok⟩
theorem m_MX3_isName : m_Mok (yX3_isName, cX3_isName, 1, (some .boolean), 1, 3, 1, kX3_isName) := ⟨m_in 750 (by decide +kernel) rfl, m_in 90 (by decide +kernel) rfl, m_in 749 (by decide +kernel) rfl, by decide +kernel, kX3_isName_ok⟩
theorem m_MX3_addToTrace : m_Mok (yX3_addToTrace, cX3_addToTrace, 2, none, 0, 3, 2, kX3_addToTrace) := ⟨m_in 747 (by decide +kernel) rfl, m_in 90 (by decide +kernel) rfl, ⟨m_in 746 (by decide +kernel) rfl, m_in 35 (by decide +kernel) rfl⟩, by decide +kernel, kX3_addToTrace_ok⟩
theorem m_MX4_init : m_Mok (yX4_init, cX4_init, 1, none, 2, 4, 1, kX4_init) := ⟨m_in 318 (by decide +kernel) rfl, m_in 88 (by decide +kernel) rfl, ⟨m_in 317 (by decide +kernel) rfl, rfl, rfl⟩, by decide +kernel, kX4_init_ok⟩
theorem m_MX4_find : m_Mok (yX4_find, cX4_find, 4, (some .int), 0, 4, 2, kX4_find) := ⟨m_in 624 (by decide +kernel) rfl, m_in 88 (by decide +kernel) rfl, ⟨m_in 622 (by decide +kernel) rfl, m_in 623 (by decide +kernel) rfl⟩, by decide +kernel, kX4_find_ok⟩
theorem m_MX4_add : m_Mok (yX4_add, cX4_add, 3, (some .int), 0, 4, 2, kX4_add) := ⟨m_in 656 (by decide +kernel) rfl, m_in 88 (by decide +kernel) rfl, ⟨m_in 654 (by decide +kernel) rfl, m_in 655 (by decide +kernel) rfl⟩, by decide +kernel, kX4_add_ok⟩
theorem m_MX4_shrink : m_Mok (yX4_shrink, cX4_shrink, 2, none, 0, 4, 2, kX4_shrink) := ⟨m_in 636 (by decide +kernel) rfl, m_in 88 (by decide +kernel) rfl, ⟨m_in 634 (by decide +kernel) rfl, m_in 635 (by decide +kernel) rfl⟩, by decide +kernel, kX4_shrink_ok⟩
theorem m_MX4_isSet : m_Mok (yX4_isSet, cX4_isSet, 2, (some .boolean), 0, 4, 2, kX4_isSet) := ⟨m_in 688 (by decide +kernel) rfl, m_in 88 (by decide +kernel) rfl, ⟨m_in 686 (by decide +kernel) rfl, m_in 687 (by decide +kernel) rfl⟩, by decide +kernel, kX4_isSet_ok⟩
theorem m_MX4_makeSet : m_Mok (yX4_makeSet, cX4_makeSet, 2, none, 0, 4, 2, kX4_makeSet) := ⟨m_in 668 (by decide +kernel) rfl, m_in 88 (by decide +kernel) rfl, ⟨m_in 666 (by decide +kernel) rfl, m_in 667 (by decide +kernel) rfl⟩, by decide +kernel, kX4_makeSet_ok⟩
theorem m_MX4_isReached : m_Mok (yX4_isReached, cX4_isReached, 1, (some .boolean), 0, 4, 1, kX4_isReached) := ⟨m_in 628 (by decide +kernel) rfl, m_in 88 (by decide +kernel) rfl, ⟨m_in 626 (by decide +kernel) rfl, m_in 627 (by decide +kernel) rfl⟩, by decide +kernel, kX4_isReached_ok⟩
theorem m_MX5_init : m_Mok (yX5_init, cX5_init, 1, none, 2, 5, 1, kX5_init) := ⟨m_in 372 (by decide +kernel) rfl, m_in 89 (by decide +kernel) rfl, ⟨m_in 371 (by decide +kernel) rfl, rfl, rfl⟩, by decide +kernel, kX5_init_ok⟩
theorem m_MX5_make : m_Mok (yX5_make, cX5_make, 3, none, 0, 5, 2, kX5_make) := ⟨m_in 704 (by decide +kernel) rfl, m_in 89 (by decide +kernel) rfl, ⟨m_in 702 (by decide +kernel) rfl, m_in 703 (by decide +kernel) rfl⟩, by decide +kernel, kX5_make_ok⟩
theorem m_MX5_put : m_Mok (yX5_put, cX5_put, 5, none, 0, 5, 3, kX5_put) := ⟨m_in 708 (by decide +kernel) rfl, m_in 89 (by decide +kernel) rfl, ⟨m_in 707 (by decide +kernel) rfl, m_in 34 (by decide +kernel) rfl⟩, by decide +kernel, kX5_put_ok⟩
theorem m_MX5_has : m_Mok (yX5_has, cX5_has, 2, (some .boolean), 0, 5, 2, kX5_has) := ⟨m_in 790 (by decide +kernel) rfl, m_in 89 (by decide +kernel) rfl, ⟨m_in 788 (by decide +kernel) rfl, m_in 789 (by decide +kernel) rfl⟩, by decide +kernel, kX5_has_ok⟩
theorem m_MX5_isDense : m_Mok (yX5_isDense, cX5_isDense, 3, (some .boolean), 0, 5, 1, kX5_isDense) := ⟨m_in 774 (by decide +kernel) rfl, m_in 89 (by decide +kernel) rfl, ⟨m_in 772 (by decide +kernel) rfl, m_in 773 (by decide +kernel) rfl⟩, by decide +kernel, kX5_isDense_ok⟩
theorem m_MX6_init : m_Mok (yX6_init, cX6_init, 1, none, 2, 6, 1, kX6_init) := ⟨m_in 120 (by decide +kernel) rfl, m_in 80 (by decide +kernel) rfl, ⟨m_in 119 (by decide +kernel) rfl, rfl, rfl⟩, by decide +kernel, kX6_init_ok⟩
theorem m_MX6_packedWord : m_Mok (yX6_packedWord, cX6_packedWord, 4, (some .long), 1, 6, 1, []) := ⟨m_in 125 (by decide +kernel) rfl, m_in 80 (by decide +kernel) rfl, m_in 124 (by decide +kernel) rfl, by decide +kernel, rfl⟩
theorem m_MX6_cut : m_Mok (yX6_cut, cX6_cut, 6, none, 0, 6, 2, kX6_cut) := ⟨m_in 452 (by decide +kernel) rfl, m_in 80 (by decide +kernel) rfl, ⟨m_in 450 (by decide +kernel) rfl, m_in 451 (by decide +kernel) rfl⟩, by decide +kernel, kX6_cut_ok⟩
theorem m_MX6_behindBlanks : m_Mok (yX6_behindBlanks, cX6_behindBlanks, 4, (some .int), 1, 6, 2, kX6_behindBlanks) := ⟨m_in 455 (by decide +kernel) rfl, m_in 80 (by decide +kernel) rfl, m_in 454 (by decide +kernel) rfl, by decide +kernel, kX6_behindBlanks_ok⟩
theorem m_MX6_cutOne : m_Mok (yX6_cutOne, cX6_cutOne, 5, (some .int), 0, 6, 4, kX6_cutOne) := ⟨m_in 467 (by decide +kernel) rfl, m_in 80 (by decide +kernel) rfl, ⟨m_in 466 (by decide +kernel) rfl, m_in 1 (by decide +kernel) rfl⟩, by decide +kernel, kX6_cutOne_ok⟩
theorem m_MX6_cutName : m_Mok (yX6_cutName, cX6_cutName, 6, (some .int), 0, 6, 3, kX6_cutName) := ⟨m_in 474 (by decide +kernel) rfl, m_in 80 (by decide +kernel) rfl, ⟨m_in 473 (by decide +kernel) rfl, m_in 2 (by decide +kernel) rfl⟩, by decide +kernel, kX6_cutName_ok⟩
theorem m_MX6_nameKind : m_Mok (yX6_nameKind, cX6_nameKind, 4, (some .int), 0, 6, 2, kX6_nameKind) := ⟨m_in 486 (by decide +kernel) rfl, m_in 80 (by decide +kernel) rfl, ⟨m_in 485 (by decide +kernel) rfl, m_in 3 (by decide +kernel) rfl⟩, by decide +kernel, kX6_nameKind_ok⟩
theorem m_MX6_cutNumber : m_Mok (yX6_cutNumber, cX6_cutNumber, 6, (some .int), 0, 6, 3, kX6_cutNumber) := ⟨m_in 490 (by decide +kernel) rfl, m_in 80 (by decide +kernel) rfl, ⟨m_in 489 (by decide +kernel) rfl, m_in 4 (by decide +kernel) rfl⟩, by decide +kernel, kX6_cutNumber_ok⟩
theorem m_MX6_cutText : m_Mok (yX6_cutText, cX6_cutText, 4, (some .int), 0, 6, 3, kX6_cutText) := ⟨m_in 495 (by decide +kernel) rfl, m_in 80 (by decide +kernel) rfl, ⟨m_in 494 (by decide +kernel) rfl, m_in 5 (by decide +kernel) rfl⟩, by decide +kernel, kX6_cutText_ok⟩
theorem m_MX6_isSmall : m_Mok (yX6_isSmall, cX6_isSmall, 1, (some .boolean), 1, 6, 1, kX6_isSmall) := ⟨m_in 470 (by decide +kernel) rfl, m_in 80 (by decide +kernel) rfl, m_in 469 (by decide +kernel) rfl, by decide +kernel, kX6_isSmall_ok⟩
theorem m_MX6_isFigure : m_Mok (yX6_isFigure, cX6_isFigure, 1, (some .boolean), 1, 6, 1, kX6_isFigure) := ⟨m_in 477 (by decide +kernel) rfl, m_in 80 (by decide +kernel) rfl, m_in 476 (by decide +kernel) rfl, by decide +kernel, kX6_isFigure_ok⟩
theorem m_MX6_isTextSign : m_Mok (yX6_isTextSign, cX6_isTextSign, 1, (some .boolean), 1, 6, 1, kX6_isTextSign) := ⟨m_in 498 (by decide +kernel) rfl, m_in 80 (by decide +kernel) rfl, m_in 497 (by decide +kernel) rfl, by decide +kernel, kX6_isTextSign_ok⟩
theorem m_MX6_signKind : m_Mok (yX6_signKind, cX6_signKind, 1, (some .int), 1, 6, 1, kX6_signKind) := ⟨m_in 501 (by decide +kernel) rfl, m_in 80 (by decide +kernel) rfl, m_in 500 (by decide +kernel) rfl, by decide +kernel, kX6_signKind_ok⟩
theorem m_MX6_keep : m_Mok (yX6_keep, cX6_keep, 5, none, 0, 6, 4, kX6_keep) := ⟨m_in 463 (by decide +kernel) rfl, m_in 80 (by decide +kernel) rfl, ⟨m_in 462 (by decide +kernel) rfl, m_in 0 (by decide +kernel) rfl⟩, by decide +kernel, kX6_keep_ok⟩
theorem m_MX7_init : m_Mok (yX7_init, cX7_init, 1, none, 2, 7, 1, kX7_init) := ⟨m_in 215 (by decide +kernel) rfl, m_in 85 (by decide +kernel) rfl, ⟨m_in 214 (by decide +kernel) rfl, rfl, rfl⟩, by decide +kernel, kX7_init_ok⟩
theorem m_MX7_clear : m_Mok (yX7_clear, cX7_clear, 1, none, 0, 7, 1, kX7_clear) := ⟨m_in 517 (by decide +kernel) rfl, m_in 85 (by decide +kernel) rfl, ⟨m_in 515 (by decide +kernel) rfl, m_in 516 (by decide +kernel) rfl⟩, by decide +kernel, kX7_clear_ok⟩
theorem m_MX7_addArm : m_Mok (yX7_addArm, cX7_addArm, 1, none, 0, 7, 1, kX7_addArm) := ⟨m_in 581 (by decide +kernel) rfl, m_in 85 (by decide +kernel) rfl, ⟨m_in 579 (by decide +kernel) rfl, m_in 580 (by decide +kernel) rfl⟩, by decide +kernel, kX7_addArm_ok⟩
theorem m_MX7_startOf : m_Mok (yX7_startOf, cX7_startOf, 2, (some .int), 0, 7, 2, kX7_startOf) := ⟨m_in 739 (by decide +kernel) rfl, m_in 85 (by decide +kernel) rfl, ⟨m_in 737 (by decide +kernel) rfl, m_in 738 (by decide +kernel) rfl⟩, by decide +kernel, kX7_startOf_ok⟩
theorem m_MX7_addLabel : m_Mok (yX7_addLabel, cX7_addLabel, 3, none, 0, 7, 2, kX7_addLabel) := ⟨m_in 601 (by decide +kernel) rfl, m_in 85 (by decide +kernel) rfl, ⟨m_in 599 (by decide +kernel) rfl, m_in 600 (by decide +kernel) rfl⟩, by decide +kernel, kX7_addLabel_ok⟩
theorem m_MX7_packedHash : m_Mok (yX7_packedHash, cX7_packedHash, 4, (some .int), 1, 7, 1, kX7_packedHash) := ⟨m_in 604 (by decide +kernel) rfl, m_in 85 (by decide +kernel) rfl, m_in 603 (by decide +kernel) rfl, by decide +kernel, kX7_packedHash_ok⟩
theorem m_MX7_hasLabel : m_Mok (yX7_hasLabel, cX7_hasLabel, 3, (some .boolean), 0, 7, 2, kX7_hasLabel) := ⟨m_in 593 (by decide +kernel) rfl, m_in 85 (by decide +kernel) rfl, ⟨m_in 591 (by decide +kernel) rfl, m_in 592 (by decide +kernel) rfl⟩, by decide +kernel, kX7_hasLabel_ok⟩
theorem m_MX7_labelWith : m_Mok (yX7_labelWith, cX7_labelWith, 4, (some .int), 0, 7, 2, kX7_labelWith) := ⟨m_in 597 (by decide +kernel) rfl, m_in 85 (by decide +kernel) rfl, ⟨m_in 596 (by decide +kernel) rfl, m_in 20 (by decide +kernel) rfl⟩, by decide +kernel, kX7_labelWith_ok⟩
theorem m_MX7_armFor : m_Mok (yX7_armFor, cX7_armFor, 4, (some .int), 0, 7, 2, kX7_armFor) := ⟨m_in 734 (by decide +kernel) rfl, m_in 85 (by decide +kernel) rfl, ⟨m_in 732 (by decide +kernel) rfl, m_in 733 (by decide +kernel) rfl⟩, by decide +kernel, kX7_armFor_ok⟩
theorem m_MX7_isExhaustive : m_Mok (yX7_isExhaustive, cX7_isExhaustive, 1, (some .boolean), 0, 7, 1, kX7_isExhaustive) := ⟨m_in 700 (by decide +kernel) rfl, m_in 85 (by decide +kernel) rfl, ⟨m_in 698 (by decide +kernel) rfl, m_in 699 (by decide +kernel) rfl⟩, by decide +kernel, kX7_isExhaustive_ok⟩
theorem m_MX8_init : m_Mok (yX8_init, cX8_init, 1, none, 2, 8, 1, kX8_init) := ⟨m_in 96 (by decide +kernel) rfl, m_in 78 (by decide +kernel) rfl, ⟨m_in 95 (by decide +kernel) rfl, rfl, rfl⟩, by decide +kernel, kX8_init_ok⟩
theorem m_MX8_type : m_Mok (yX8_type, cX8_type, 4, (some .int), 0, 8, 3, kX8_type) := ⟨m_in 439 (by decide +kernel) rfl, m_in 78 (by decide +kernel) rfl, ⟨m_in 437 (by decide +kernel) rfl, m_in 438 (by decide +kernel) rfl⟩, by decide +kernel, kX8_type_ok⟩
theorem m_MX8_read : m_Mok (yX8_read, cX8_read, 1, (some .int), 0, 8, 1, kX8_read) := ⟨m_in 448 (by decide +kernel) rfl, m_in 78 (by decide +kernel) rfl, ⟨m_in 446 (by decide +kernel) rfl, m_in 447 (by decide +kernel) rfl⟩, by decide +kernel, kX8_read_ok⟩
theorem m_MX8_place : m_Mok (yX8_place, cX8_place, 1, (some .int), 0, 8, 1, kX8_place) := ⟨m_in 712 (by decide +kernel) rfl, m_in 78 (by decide +kernel) rfl, ⟨m_in 710 (by decide +kernel) rfl, m_in 711 (by decide +kernel) rfl⟩, by decide +kernel, kX8_place_ok⟩
theorem m_MX8_told : m_Mok (yX8_told, cX8_told, 2, (some .int), 0, 8, 2, kX8_told) := ⟨m_in 716 (by decide +kernel) rfl, m_in 78 (by decide +kernel) rfl, ⟨m_in 714 (by decide +kernel) rfl, m_in 715 (by decide +kernel) rfl⟩, by decide +kernel, kX8_told_ok⟩
theorem m_MX8_label : m_Mok (yX8_label, cX8_label, 3, (some .int), 0, 8, 3, kX8_label) := ⟨m_in 720 (by decide +kernel) rfl, m_in 78 (by decide +kernel) rfl, ⟨m_in 718 (by decide +kernel) rfl, m_in 719 (by decide +kernel) rfl⟩, by decide +kernel, kX8_label_ok⟩
theorem m_MX8_run : m_Mok (yX8_run, cX8_run, 4, (some .int), 0, 8, 3, kX8_run) := ⟨m_in 724 (by decide +kernel) rfl, m_in 78 (by decide +kernel) rfl, ⟨m_in 722 (by decide +kernel) rfl, m_in 723 (by decide +kernel) rfl⟩, by decide +kernel, kX8_run_ok⟩
theorem m_MX8_runNone : m_Mok (yX8_runNone, cX8_runNone, 1, (some .int), 0, 8, 1, kX8_runNone) := ⟨m_in 754 (by decide +kernel) rfl, m_in 78 (by decide +kernel) rfl, ⟨m_in 752 (by decide +kernel) rfl, m_in 753 (by decide +kernel) rfl⟩, by decide +kernel, kX8_runNone_ok⟩
theorem m_MX8_traced : m_Mok (yX8_traced, cX8_traced, 1, (some .int), 0, 8, 1, kX8_traced) := ⟨m_in 758 (by decide +kernel) rfl, m_in 78 (by decide +kernel) rfl, ⟨m_in 756 (by decide +kernel) rfl, m_in 757 (by decide +kernel) rfl⟩, by decide +kernel, kX8_traced_ok⟩
theorem m_MX8_trace : m_Mok (yX8_trace, cX8_trace, 2, (some .int), 0, 8, 2, kX8_trace) := ⟨m_in 762 (by decide +kernel) rfl, m_in 78 (by decide +kernel) rfl, ⟨m_in 760 (by decide +kernel) rfl, m_in 761 (by decide +kernel) rfl⟩, by decide +kernel, kX8_trace_ok⟩
theorem m_MX8_value : m_Mok (yX8_value, cX8_value, 1, (some .int), 0, 8, 1, kX8_value) := ⟨m_in 766 (by decide +kernel) rfl, m_in 78 (by decide +kernel) rfl, ⟨m_in 764 (by decide +kernel) rfl, m_in 765 (by decide +kernel) rfl⟩, by decide +kernel, kX8_value_ok⟩
theorem m_MX8_form : m_Mok (yX8_form, cX8_form, 1, (some .int), 0, 8, 1, kX8_form) := ⟨m_in 770 (by decide +kernel) rfl, m_in 78 (by decide +kernel) rfl, ⟨m_in 768 (by decide +kernel) rfl, m_in 769 (by decide +kernel) rfl⟩, by decide +kernel, kX8_form_ok⟩
theorem m_MX8_keys : m_Mok (yX8_keys, cX8_keys, 1, (some .int), 0, 8, 1, kX8_keys) := ⟨m_in 782 (by decide +kernel) rfl, m_in 78 (by decide +kernel) rfl, ⟨m_in 780 (by decide +kernel) rfl, m_in 781 (by decide +kernel) rfl⟩, by decide +kernel, kX8_keys_ok⟩
theorem m_MX8_key : m_Mok (yX8_key, cX8_key, 2, (some .int), 0, 8, 2, kX8_key) := ⟨m_in 786 (by decide +kernel) rfl, m_in 78 (by decide +kernel) rfl, ⟨m_in 784 (by decide +kernel) rfl, m_in 785 (by decide +kernel) rfl⟩, by decide +kernel, kX8_key_ok⟩
theorem m_MX8_target : m_Mok (yX8_target, cX8_target, 2, (some .int), 0, 8, 2, kX8_target) := ⟨m_in 794 (by decide +kernel) rfl, m_in 78 (by decide +kernel) rfl, ⟨m_in 792 (by decide +kernel) rfl, m_in 793 (by decide +kernel) rfl⟩, by decide +kernel, kX8_target_ok⟩
theorem m_MX8_alike : m_Mok (yX8_alike, cX8_alike, 2, (some .int), 0, 8, 2, kX8_alike) := ⟨m_in 798 (by decide +kernel) rfl, m_in 78 (by decide +kernel) rfl, ⟨m_in 796 (by decide +kernel) rfl, m_in 797 (by decide +kernel) rfl⟩, by decide +kernel, kX8_alike_ok⟩
theorem m_MX8_hash : m_Mok (yX8_hash, cX8_hash, 1, (some .int), 0, 8, 1, kX8_hash) := ⟨m_in 802 (by decide +kernel) rfl, m_in 78 (by decide +kernel) rfl, ⟨m_in 800 (by decide +kernel) rfl, m_in 801 (by decide +kernel) rfl⟩, by decide +kernel, kX8_hash_ok⟩
theorem m_MX9_init : m_Mok (yX9_init, cX9_init, 1, none, 2, 9, 1, kX9_init) := ⟨m_in 811 (by decide +kernel) rfl, m_in 91 (by decide +kernel) rfl, ⟨m_in 810 (by decide +kernel) rfl, rfl, rfl⟩, by decide +kernel, kX9_init_ok⟩
theorem m_MX9_type : m_Mok (yX9_type, cX9_type, 5, (some .int), 0, 9, 3, kX9_type) := ⟨m_in 1001 (by decide +kernel) rfl, m_in 91 (by decide +kernel) rfl, ⟨m_in 999 (by decide +kernel) rfl, m_in 1000 (by decide +kernel) rfl⟩, by decide +kernel, kX9_type_ok⟩
theorem m_MX9_octet : m_Mok (yX9_octet, cX9_octet, 2, (some .int), 0, 9, 2, kX9_octet) := ⟨m_in 1013 (by decide +kernel) rfl, m_in 91 (by decide +kernel) rfl, ⟨m_in 1012 (by decide +kernel) rfl, m_in 37 (by decide +kernel) rfl⟩, by decide +kernel, kX9_octet_ok⟩
theorem m_MX9_isSmall : m_Mok (yX9_isSmall, cX9_isSmall, 1, (some .boolean), 1, 9, 1, kX9_isSmall) := ⟨m_in 1016 (by decide +kernel) rfl, m_in 91 (by decide +kernel) rfl, m_in 1015 (by decide +kernel) rfl, by decide +kernel, kX9_isSmall_ok⟩
theorem m_MX9_isFigure : m_Mok (yX9_isFigure, cX9_isFigure, 1, (some .boolean), 1, 9, 1, kX9_isFigure) := ⟨m_in 1023 (by decide +kernel) rfl, m_in 91 (by decide +kernel) rfl, m_in 1022 (by decide +kernel) rfl, by decide +kernel, kX9_isFigure_ok⟩
theorem m_MX9_next : m_Mok (yX9_next, cX9_next, 2, none, 0, 9, 1, kX9_next) := ⟨m_in 1009 (by decide +kernel) rfl, m_in 91 (by decide +kernel) rfl, ⟨m_in 1008 (by decide +kernel) rfl, m_in 36 (by decide +kernel) rfl⟩, by decide +kernel, kX9_next_ok⟩
theorem m_MX9_nextName : m_Mok (yX9_nextName, cX9_nextName, 3, none, 0, 9, 1, kX9_nextName) := ⟨m_in 1020 (by decide +kernel) rfl, m_in 91 (by decide +kernel) rfl, ⟨m_in 1019 (by decide +kernel) rfl, m_in 38 (by decide +kernel) rfl⟩, by decide +kernel, kX9_nextName_ok⟩
theorem m_MX9_nextNumber : m_Mok (yX9_nextNumber, cX9_nextNumber, 2, none, 0, 9, 1, kX9_nextNumber) := ⟨m_in 1027 (by decide +kernel) rfl, m_in 91 (by decide +kernel) rfl, ⟨m_in 1026 (by decide +kernel) rfl, m_in 39 (by decide +kernel) rfl⟩, by decide +kernel, kX9_nextNumber_ok⟩
theorem m_MX9_nextText : m_Mok (yX9_nextText, cX9_nextText, 2, none, 0, 9, 1, kX9_nextText) := ⟨m_in 1031 (by decide +kernel) rfl, m_in 91 (by decide +kernel) rfl, ⟨m_in 1030 (by decide +kernel) rfl, m_in 40 (by decide +kernel) rfl⟩, by decide +kernel, kX9_nextText_ok⟩
theorem m_MX9_wrong : m_Mok (yX9_wrong, cX9_wrong, 2, none, 0, 9, 2, kX9_wrong) := ⟨m_in 1047 (by decide +kernel) rfl, m_in 91 (by decide +kernel) rfl, ⟨m_in 1046 (by decide +kernel) rfl, m_in 44 (by decide +kernel) rfl⟩, by decide +kernel, kX9_wrong_ok⟩
theorem m_MX9_wrongAt : m_Mok (yX9_wrongAt, cX9_wrongAt, 3, none, 0, 9, 3, kX9_wrongAt) := ⟨m_in 1091 (by decide +kernel) rfl, m_in 91 (by decide +kernel) rfl, ⟨m_in 1090 (by decide +kernel) rfl, m_in 54 (by decide +kernel) rfl⟩, by decide +kernel, kX9_wrongAt_ok⟩
theorem m_MX9_cannot : m_Mok (yX9_cannot, cX9_cannot, 1, none, 0, 9, 1, kX9_cannot) := ⟨m_in 1043 (by decide +kernel) rfl, m_in 91 (by decide +kernel) rfl, ⟨m_in 1042 (by decide +kernel) rfl, m_in 43 (by decide +kernel) rfl⟩, by decide +kernel, kX9_cannot_ok⟩
theorem m_MX9_isSign : m_Mok (yX9_isSign, cX9_isSign, 2, (some .boolean), 0, 9, 2, kX9_isSign) := ⟨m_in 1055 (by decide +kernel) rfl, m_in 91 (by decide +kernel) rfl, ⟨m_in 1054 (by decide +kernel) rfl, m_in 46 (by decide +kernel) rfl⟩, by decide +kernel, kX9_isSign_ok⟩
theorem m_MX9_isWord : m_Mok (yX9_isWord, cX9_isWord, 2, (some .boolean), 0, 9, 2, kX9_isWord) := ⟨m_in 1035 (by decide +kernel) rfl, m_in 91 (by decide +kernel) rfl, ⟨m_in 1034 (by decide +kernel) rfl, m_in 41 (by decide +kernel) rfl⟩, by decide +kernel, kX9_isWord_ok⟩
theorem m_MX9_wantsSign : m_Mok (yX9_wantsSign, cX9_wantsSign, 2, none, 0, 9, 2, kX9_wantsSign) := ⟨m_in 1051 (by decide +kernel) rfl, m_in 91 (by decide +kernel) rfl, ⟨m_in 1050 (by decide +kernel) rfl, m_in 45 (by decide +kernel) rfl⟩, by decide +kernel, kX9_wantsSign_ok⟩
theorem m_MX9_number : m_Mok (yX9_number, cX9_number, 2, (some .int), 0, 9, 1, kX9_number) := ⟨m_in 1079 (by decide +kernel) rfl, m_in 91 (by decide +kernel) rfl, ⟨m_in 1078 (by decide +kernel) rfl, m_in 52 (by decide +kernel) rfl⟩, by decide +kernel, kX9_number_ok⟩
theorem m_MX9_signed : m_Mok (yX9_signed, cX9_signed, 3, (some .int), 0, 9, 1, kX9_signed) := ⟨m_in 1075 (by decide +kernel) rfl, m_in 91 (by decide +kernel) rfl, ⟨m_in 1074 (by decide +kernel) rfl, m_in 51 (by decide +kernel) rfl⟩, by decide +kernel, kX9_signed_ok⟩
theorem m_MX9_readEnum : m_Mok (yX9_readEnum, cX9_readEnum, 3, none, 0, 9, 1, kX9_readEnum) := ⟨m_in 1039 (by decide +kernel) rfl, m_in 91 (by decide +kernel) rfl, ⟨m_in 1038 (by decide +kernel) rfl, m_in 42 (by decide +kernel) rfl⟩, by decide +kernel, kX9_readEnum_ok⟩
theorem m_MX9_constantOf : m_Mok (yX9_constantOf, cX9_constantOf, 5, (some .int), 0, 9, 3, kX9_constantOf) := ⟨m_in 1059 (by decide +kernel) rfl, m_in 91 (by decide +kernel) rfl, ⟨m_in 1058 (by decide +kernel) rfl, m_in 47 (by decide +kernel) rfl⟩, by decide +kernel, kX9_constantOf_ok⟩
theorem m_MX9_readHead : m_Mok (yX9_readHead, cX9_readHead, 2, none, 0, 9, 1, kX9_readHead) := ⟨m_in 1063 (by decide +kernel) rfl, m_in 91 (by decide +kernel) rfl, ⟨m_in 1062 (by decide +kernel) rfl, m_in 48 (by decide +kernel) rfl⟩, by decide +kernel, kX9_readHead_ok⟩
theorem m_MX9_isOther : m_Mok (yX9_isOther, cX9_isOther, 6, (some .boolean), 0, 9, 4, kX9_isOther) := ⟨m_in 1087 (by decide +kernel) rfl, m_in 91 (by decide +kernel) rfl, ⟨m_in 1086 (by decide +kernel) rfl, m_in 53 (by decide +kernel) rfl⟩, by decide +kernel, kX9_isOther_ok⟩
theorem m_MX9_hashOf : m_Mok (yX9_hashOf, cX9_hashOf, 5, (some .int), 1, 9, 2, kX9_hashOf) := ⟨m_in 1082 (by decide +kernel) rfl, m_in 91 (by decide +kernel) rfl, m_in 1081 (by decide +kernel) rfl, by decide +kernel, kX9_hashOf_ok⟩
theorem m_MX9_readLabel : m_Mok (yX9_readLabel, cX9_readLabel, 8, none, 0, 9, 1, kX9_readLabel) := ⟨m_in 1071 (by decide +kernel) rfl, m_in 91 (by decide +kernel) rfl, ⟨m_in 1070 (by decide +kernel) rfl, m_in 50 (by decide +kernel) rfl⟩, by decide +kernel, kX9_readLabel_ok⟩
theorem m_MX9_emit : m_Mok (yX9_emit, cX9_emit, 4, (some .int), 0, 9, 4, kX9_emit) := ⟨m_in 1119 (by decide +kernel) rfl, m_in 91 (by decide +kernel) rfl, ⟨m_in 1118 (by decide +kernel) rfl, m_in 61 (by decide +kernel) rfl⟩, by decide +kernel, kX9_emit_ok⟩
theorem m_MX9_inScope : m_Mok (yX9_inScope, cX9_inScope, 4, (some .int), 0, 9, 2, kX9_inScope) := ⟨m_in 1139 (by decide +kernel) rfl, m_in 91 (by decide +kernel) rfl, ⟨m_in 1138 (by decide +kernel) rfl, m_in 66 (by decide +kernel) rfl⟩, by decide +kernel, kX9_inScope_ok⟩
theorem m_MX9_push : m_Mok (yX9_push, cX9_push, 2, none, 0, 9, 2, kX9_push) := ⟨m_in 1099 (by decide +kernel) rfl, m_in 91 (by decide +kernel) rfl, ⟨m_in 1098 (by decide +kernel) rfl, m_in 56 (by decide +kernel) rfl⟩, by decide +kernel, kX9_push_ok⟩
theorem m_MX9_pop : m_Mok (yX9_pop, cX9_pop, 1, none, 0, 9, 1, kX9_pop) := ⟨m_in 1111 (by decide +kernel) rfl, m_in 91 (by decide +kernel) rfl, ⟨m_in 1110 (by decide +kernel) rfl, m_in 59 (by decide +kernel) rfl⟩, by decide +kernel, kX9_pop_ok⟩
theorem m_MX9_through : m_Mok (yX9_through, cX9_through, 5, none, 0, 9, 2, kX9_through) := ⟨m_in 1115 (by decide +kernel) rfl, m_in 91 (by decide +kernel) rfl, ⟨m_in 1114 (by decide +kernel) rfl, m_in 60 (by decide +kernel) rfl⟩, by decide +kernel, kX9_through_ok⟩
theorem m_MX9_isList : m_Mok (yX9_isList, cX9_isList, 1, (some .boolean), 0, 9, 1, kX9_isList) := ⟨m_in 1131 (by decide +kernel) rfl, m_in 91 (by decide +kernel) rfl, ⟨m_in 1130 (by decide +kernel) rfl, m_in 64 (by decide +kernel) rfl⟩, by decide +kernel, kX9_isList_ok⟩
theorem m_MX9_begin : m_Mok (yX9_begin, cX9_begin, 1, none, 0, 9, 1, kX9_begin) := ⟨m_in 1127 (by decide +kernel) rfl, m_in 91 (by decide +kernel) rfl, ⟨m_in 1126 (by decide +kernel) rfl, m_in 63 (by decide +kernel) rfl⟩, by decide +kernel, kX9_begin_ok⟩
theorem m_MX9_dead : m_Mok (yX9_dead, cX9_dead, 1, none, 0, 9, 1, kX9_dead) := ⟨m_in 1147 (by decide +kernel) rfl, m_in 91 (by decide +kernel) rfl, ⟨m_in 1146 (by decide +kernel) rfl, m_in 68 (by decide +kernel) rfl⟩, by decide +kernel, kX9_dead_ok⟩
theorem m_MX9_simple : m_Mok (yX9_simple, cX9_simple, 3, none, 0, 9, 1, kX9_simple) := ⟨m_in 1155 (by decide +kernel) rfl, m_in 91 (by decide +kernel) rfl, ⟨m_in 1154 (by decide +kernel) rfl, m_in 70 (by decide +kernel) rfl⟩, by decide +kernel, kX9_simple_ok⟩
theorem m_MX9_use : m_Mok (yX9_use, cX9_use, 2, none, 0, 9, 1, kX9_use) := ⟨m_in 1159 (by decide +kernel) rfl, m_in 91 (by decide +kernel) rfl, ⟨m_in 1158 (by decide +kernel) rfl, m_in 71 (by decide +kernel) rfl⟩, by decide +kernel, kX9_use_ok⟩
theorem m_MX9_let : m_Mok (yX9_let, cX9_let, 2, none, 0, 9, 1, kX9_let) := ⟨m_in 1135 (by decide +kernel) rfl, m_in 91 (by decide +kernel) rfl, ⟨m_in 1134 (by decide +kernel) rfl, m_in 65 (by decide +kernel) rfl⟩, by decide +kernel, kX9_let_ok⟩
theorem m_MX9_yieldStmt : m_Mok (yX9_yieldStmt, cX9_yieldStmt, 1, none, 0, 9, 1, kX9_yieldStmt) := ⟨m_in 1143 (by decide +kernel) rfl, m_in 91 (by decide +kernel) rfl, ⟨m_in 1142 (by decide +kernel) rfl, m_in 67 (by decide +kernel) rfl⟩, by decide +kernel, kX9_yieldStmt_ok⟩
theorem m_MX9_isSimple : m_Mok (yX9_isSimple, cX9_isSimple, 1, (some .boolean), 0, 9, 1, kX9_isSimple) := ⟨m_in 1151 (by decide +kernel) rfl, m_in 91 (by decide +kernel) rfl, ⟨m_in 1150 (by decide +kernel) rfl, m_in 69 (by decide +kernel) rfl⟩, by decide +kernel, kX9_isSimple_ok⟩
theorem m_MX9_stmt : m_Mok (yX9_stmt, cX9_stmt, 1, none, 0, 9, 1, kX9_stmt) := ⟨m_in 1123 (by decide +kernel) rfl, m_in 91 (by decide +kernel) rfl, ⟨m_in 1122 (by decide +kernel) rfl, m_in 62 (by decide +kernel) rfl⟩, by decide +kernel, kX9_stmt_ok⟩
theorem m_MX9_endBlock : m_Mok (yX9_endBlock, cX9_endBlock, 3, none, 0, 9, 1, kX9_endBlock) := ⟨m_in 1107 (by decide +kernel) rfl, m_in 91 (by decide +kernel) rfl, ⟨m_in 1106 (by decide +kernel) rfl, m_in 58 (by decide +kernel) rfl⟩, by decide +kernel, kX9_endBlock_ok⟩
theorem m_MX9_readStmts : m_Mok (yX9_readStmts, cX9_readStmts, 3, none, 0, 9, 2, kX9_readStmts) := ⟨m_in 1103 (by decide +kernel) rfl, m_in 91 (by decide +kernel) rfl, ⟨m_in 1102 (by decide +kernel) rfl, m_in 57 (by decide +kernel) rfl⟩, by decide +kernel, kX9_readStmts_ok⟩
theorem m_MX9_readOld : m_Mok (yX9_readOld, cX9_readOld, 1, none, 0, 9, 1, kX9_readOld) := ⟨m_in 1095 (by decide +kernel) rfl, m_in 91 (by decide +kernel) rfl, ⟨m_in 1094 (by decide +kernel) rfl, m_in 55 (by decide +kernel) rfl⟩, by decide +kernel, kX9_readOld_ok⟩
theorem m_MX9_readBody : m_Mok (yX9_readBody, cX9_readBody, 2, none, 0, 9, 1, kX9_readBody) := ⟨m_in 1163 (by decide +kernel) rfl, m_in 91 (by decide +kernel) rfl, ⟨m_in 1162 (by decide +kernel) rfl, m_in 72 (by decide +kernel) rfl⟩, by decide +kernel, kX9_readBody_ok⟩
theorem m_MX9_readArm : m_Mok (yX9_readArm, cX9_readArm, 2, none, 0, 9, 1, kX9_readArm) := ⟨m_in 1067 (by decide +kernel) rfl, m_in 91 (by decide +kernel) rfl, ⟨m_in 1066 (by decide +kernel) rfl, m_in 49 (by decide +kernel) rfl⟩, by decide +kernel, kX9_readArm_ok⟩
theorem m_MX9_read : m_Mok (yX9_read, cX9_read, 1, (some .int), 0, 9, 1, kX9_read) := ⟨m_in 1005 (by decide +kernel) rfl, m_in 91 (by decide +kernel) rfl, ⟨m_in 1003 (by decide +kernel) rfl, m_in 1004 (by decide +kernel) rfl⟩, by decide +kernel, kX9_read_ok⟩
theorem m_MX9_emitEnd : m_Mok (yX9_emitEnd, cX9_emitEnd, 1, none, 0, 9, 1, kX9_emitEnd) := ⟨m_in 1167 (by decide +kernel) rfl, m_in 91 (by decide +kernel) rfl, ⟨m_in 1166 (by decide +kernel) rfl, m_in 73 (by decide +kernel) rfl⟩, by decide +kernel, kX9_emitEnd_ok⟩
theorem m_MX9_place : m_Mok (yX9_place, cX9_place, 1, (some .int), 0, 9, 1, kX9_place) := ⟨m_in 1175 (by decide +kernel) rfl, m_in 91 (by decide +kernel) rfl, ⟨m_in 1173 (by decide +kernel) rfl, m_in 1174 (by decide +kernel) rfl⟩, by decide +kernel, kX9_place_ok⟩
theorem m_MX9_told : m_Mok (yX9_told, cX9_told, 2, (some .int), 0, 9, 2, kX9_told) := ⟨m_in 1179 (by decide +kernel) rfl, m_in 91 (by decide +kernel) rfl, ⟨m_in 1177 (by decide +kernel) rfl, m_in 1178 (by decide +kernel) rfl⟩, by decide +kernel, kX9_told_ok⟩
theorem m_MX9_label : m_Mok (yX9_label, cX9_label, 3, (some .int), 0, 9, 3, kX9_label) := ⟨m_in 1183 (by decide +kernel) rfl, m_in 91 (by decide +kernel) rfl, ⟨m_in 1181 (by decide +kernel) rfl, m_in 1182 (by decide +kernel) rfl⟩, by decide +kernel, kX9_label_ok⟩
theorem m_MX9_armFor : m_Mok (yX9_armFor, cX9_armFor, 3, (some .int), 0, 9, 2, kX9_armFor) := ⟨m_in 1191 (by decide +kernel) rfl, m_in 91 (by decide +kernel) rfl, ⟨m_in 1190 (by decide +kernel) rfl, m_in 75 (by decide +kernel) rfl⟩, by decide +kernel, kX9_armFor_ok⟩
theorem m_MX9_isTextAt : m_Mok (yX9_isTextAt, cX9_isTextAt, 4, (some .boolean), 0, 9, 2, kX9_isTextAt) := ⟨m_in 1195 (by decide +kernel) rfl, m_in 91 (by decide +kernel) rfl, ⟨m_in 1194 (by decide +kernel) rfl, m_in 76 (by decide +kernel) rfl⟩, by decide +kernel, kX9_isTextAt_ok⟩
theorem m_MX9_run : m_Mok (yX9_run, cX9_run, 7, (some .int), 0, 9, 3, kX9_run) := ⟨m_in 1187 (by decide +kernel) rfl, m_in 91 (by decide +kernel) rfl, ⟨m_in 1185 (by decide +kernel) rfl, m_in 1186 (by decide +kernel) rfl⟩, by decide +kernel, kX9_run_ok⟩
theorem m_MX9_runNone : m_Mok (yX9_runNone, cX9_runNone, 1, (some .int), 0, 9, 1, kX9_runNone) := ⟨m_in 1199 (by decide +kernel) rfl, m_in 91 (by decide +kernel) rfl, ⟨m_in 1197 (by decide +kernel) rfl, m_in 1198 (by decide +kernel) rfl⟩, by decide +kernel, kX9_runNone_ok⟩
theorem m_MX9_traced : m_Mok (yX9_traced, cX9_traced, 1, (some .int), 0, 9, 1, kX9_traced) := ⟨m_in 1203 (by decide +kernel) rfl, m_in 91 (by decide +kernel) rfl, ⟨m_in 1201 (by decide +kernel) rfl, m_in 1202 (by decide +kernel) rfl⟩, by decide +kernel, kX9_traced_ok⟩
theorem m_MX9_trace : m_Mok (yX9_trace, cX9_trace, 2, (some .int), 0, 9, 2, kX9_trace) := ⟨m_in 1207 (by decide +kernel) rfl, m_in 91 (by decide +kernel) rfl, ⟨m_in 1205 (by decide +kernel) rfl, m_in 1206 (by decide +kernel) rfl⟩, by decide +kernel, kX9_trace_ok⟩
theorem m_MX9_value : m_Mok (yX9_value, cX9_value, 1, (some .int), 0, 9, 1, kX9_value) := ⟨m_in 1211 (by decide +kernel) rfl, m_in 91 (by decide +kernel) rfl, ⟨m_in 1209 (by decide +kernel) rfl, m_in 1210 (by decide +kernel) rfl⟩, by decide +kernel, kX9_value_ok⟩
theorem m_MX9_findKeys : m_Mok (yX9_findKeys, cX9_findKeys, 4, none, 0, 9, 1, kX9_findKeys) := ⟨m_in 1171 (by decide +kernel) rfl, m_in 91 (by decide +kernel) rfl, ⟨m_in 1170 (by decide +kernel) rfl, m_in 74 (by decide +kernel) rfl⟩, by decide +kernel, kX9_findKeys_ok⟩
theorem m_MX9_form : m_Mok (yX9_form, cX9_form, 3, (some .int), 0, 9, 1, kX9_form) := ⟨m_in 1215 (by decide +kernel) rfl, m_in 91 (by decide +kernel) rfl, ⟨m_in 1213 (by decide +kernel) rfl, m_in 1214 (by decide +kernel) rfl⟩, by decide +kernel, kX9_form_ok⟩
theorem m_MX9_keys : m_Mok (yX9_keys, cX9_keys, 1, (some .int), 0, 9, 1, kX9_keys) := ⟨m_in 1223 (by decide +kernel) rfl, m_in 91 (by decide +kernel) rfl, ⟨m_in 1221 (by decide +kernel) rfl, m_in 1222 (by decide +kernel) rfl⟩, by decide +kernel, kX9_keys_ok⟩
theorem m_MX9_key : m_Mok (yX9_key, cX9_key, 2, (some .int), 0, 9, 2, kX9_key) := ⟨m_in 1227 (by decide +kernel) rfl, m_in 91 (by decide +kernel) rfl, ⟨m_in 1225 (by decide +kernel) rfl, m_in 1226 (by decide +kernel) rfl⟩, by decide +kernel, kX9_key_ok⟩
theorem m_MX9_target : m_Mok (yX9_target, cX9_target, 2, (some .int), 0, 9, 2, kX9_target) := ⟨m_in 1231 (by decide +kernel) rfl, m_in 91 (by decide +kernel) rfl, ⟨m_in 1229 (by decide +kernel) rfl, m_in 1230 (by decide +kernel) rfl⟩, by decide +kernel, kX9_target_ok⟩
theorem m_MX9_alike : m_Mok (yX9_alike, cX9_alike, 2, (some .int), 0, 9, 2, kX9_alike) := ⟨m_in 1235 (by decide +kernel) rfl, m_in 91 (by decide +kernel) rfl, ⟨m_in 1233 (by decide +kernel) rfl, m_in 1234 (by decide +kernel) rfl⟩, by decide +kernel, kX9_alike_ok⟩
theorem m_MX9_hash : m_Mok (yX9_hash, cX9_hash, 3, (some .int), 0, 9, 1, kX9_hash) := ⟨m_in 1239 (by decide +kernel) rfl, m_in 91 (by decide +kernel) rfl, ⟨m_in 1237 (by decide +kernel) rfl, m_in 1238 (by decide +kernel) rfl⟩, by decide +kernel, kX9_hash_ok⟩
theorem m_tab_ok : ∀ q ∈ m_tab, m_Mok q :=
  m_fc (m_MX0_init) (m_fc (m_MX0_step) (m_fc (m_MX0_leadHere) (m_fc (m_MX1_init) (m_fc (m_MX1_begin) (m_fc (m_MX1_kind) (m_fc (m_MX1_tokenValue) (m_fc (m_MX1_fail) (m_fc (m_MX1_expect) (m_fc (m_MX1_enumerations) (m_fc (m_MX1_enumeration) (m_fc (m_MX1_constants) (m_fc (m_MX1_constant) (m_fc (m_MX1_findEnumeration) (m_fc (m_MX1_constantCount) (m_fc (m_MX1_findConstant) (m_fc (m_MX1_selector) (m_fc (m_MX1_chooseEnumeration) (m_fc (m_MX1_arms) (m_fc (m_MX1_arm) (m_fc (m_MX1_labels) (m_fc (m_MX1_oneLabel) (m_fc (m_MX1_body) (m_fc (m_MX1_stmts) (m_fc (m_MX1_beginsStmt) (m_fc (m_MX1_openStmt) (m_fc (m_MX1_stmt) (m_fc (m_MX1_block) (m_fc (m_MX1_branches) (m_fc (m_MX1_let) (m_fc (m_MX1_setName) (m_fc (m_MX1_simple) (m_fc (m_MX1_useName) (m_fc (m_MX1_yieldNumber) (m_fc (m_MX1_leave) (m_fc (m_MX1_number) (m_fc (m_MX1_end) (m_fc (m_MX2_init) (m_fc (m_MX2_at) (m_fc (m_MX2_append) (m_fc (m_MX2_packed) (m_fc (m_MX2_whole) (m_fc (m_MX2_wholeHash) (m_fc (m_MX3_init) (m_fc (m_MX3_forget) (m_fc (m_MX3_begin) (m_fc (m_MX3_go) (m_fc (m_MX3_isName) (m_fc (m_MX3_addToTrace) (m_fc (m_MX4_init) (m_fc (m_MX4_find) (m_fc (m_MX4_add) (m_fc (m_MX4_shrink) (m_fc (m_MX4_isSet) (m_fc (m_MX4_makeSet) (m_fc (m_MX4_isReached) (m_fc (m_MX5_init) (m_fc (m_MX5_make) (m_fc (m_MX5_put) (m_fc (m_MX5_has) (m_fc (m_MX5_isDense) (m_fc (m_MX6_init) (m_fc (m_MX6_packedWord) (m_fc (m_MX6_cut) (m_fc (m_MX6_behindBlanks) (m_fc (m_MX6_cutOne) (m_fc (m_MX6_cutName) (m_fc (m_MX6_nameKind) (m_fc (m_MX6_cutNumber) (m_fc (m_MX6_cutText) (m_fc (m_MX6_isSmall) (m_fc (m_MX6_isFigure) (m_fc (m_MX6_isTextSign) (m_fc (m_MX6_signKind) (m_fc (m_MX6_keep) (m_fc (m_MX7_init) (m_fc (m_MX7_clear) (m_fc (m_MX7_addArm) (m_fc (m_MX7_startOf) (m_fc (m_MX7_addLabel) (m_fc (m_MX7_packedHash) (m_fc (m_MX7_hasLabel) (m_fc (m_MX7_labelWith) (m_fc (m_MX7_armFor) (m_fc (m_MX7_isExhaustive) (m_fc (m_MX8_init) (m_fc (m_MX8_type) (m_fc (m_MX8_read) (m_fc (m_MX8_place) (m_fc (m_MX8_told) (m_fc (m_MX8_label) (m_fc (m_MX8_run) (m_fc (m_MX8_runNone) (m_fc (m_MX8_traced) (m_fc (m_MX8_trace) (m_fc (m_MX8_value) (m_fc (m_MX8_form) (m_fc (m_MX8_keys) (m_fc (m_MX8_key) (m_fc (m_MX8_target) (m_fc (m_MX8_alike) (m_fc (m_MX8_hash) (m_fc (m_MX9_init) (m_fc (m_MX9_type) (m_fc (m_MX9_octet) (m_fc (m_MX9_isSmall) (m_fc (m_MX9_isFigure) (m_fc (m_MX9_next) (m_fc (m_MX9_nextName) (m_fc (m_MX9_nextNumber) (m_fc (m_MX9_nextText) (m_fc (m_MX9_wrong) (m_fc (m_MX9_wrongAt) (m_fc (m_MX9_cannot) (m_fc (m_MX9_isSign) (m_fc (m_MX9_isWord) (m_fc (m_MX9_wantsSign) (m_fc (m_MX9_number) (m_fc (m_MX9_signed) (m_fc (m_MX9_readEnum) (m_fc (m_MX9_constantOf) (m_fc (m_MX9_readHead) (m_fc (m_MX9_isOther) (m_fc (m_MX9_hashOf) (m_fc (m_MX9_readLabel) (m_fc (m_MX9_emit) (m_fc (m_MX9_inScope) (m_fc (m_MX9_push) (m_fc (m_MX9_pop) (m_fc (m_MX9_through) (m_fc (m_MX9_isList) (m_fc (m_MX9_begin) (m_fc (m_MX9_dead) (m_fc (m_MX9_simple) (m_fc (m_MX9_use) (m_fc (m_MX9_let) (m_fc (m_MX9_yieldStmt) (m_fc (m_MX9_isSimple) (m_fc (m_MX9_stmt) (m_fc (m_MX9_endBlock) (m_fc (m_MX9_readStmts) (m_fc (m_MX9_readOld) (m_fc (m_MX9_readBody) (m_fc (m_MX9_readArm) (m_fc (m_MX9_read) (m_fc (m_MX9_emitEnd) (m_fc (m_MX9_place) (m_fc (m_MX9_told) (m_fc (m_MX9_label) (m_fc (m_MX9_armFor) (m_fc (m_MX9_isTextAt) (m_fc (m_MX9_run) (m_fc (m_MX9_runNone) (m_fc (m_MX9_traced) (m_fc (m_MX9_trace) (m_fc (m_MX9_value) (m_fc (m_MX9_findKeys) (m_fc (m_MX9_form) (m_fc (m_MX9_keys) (m_fc (m_MX9_key) (m_fc (m_MX9_target) (m_fc (m_MX9_alike) (m_fc (m_MX9_hash) (m_fn)))))))))))))))))))))))))))))))))))))))))))))))))))))))))))))))))))))))))))))))))))))))))))))))))))))))))))))))))))))))))))))))))))))))))))))))))))))))))))))))))))
end
section
def m_sg (id : Nat) : Nat := match m_nth m_tab id with
  | some M => M.2.2.2.2.2.2.1 + 16 * M.2.2.2.2.2.1 + 256 * M.2.2.2.2.1
  | none => 99999
def m_t6 : FieldType → Bool
  | .byte => true | .char => true | .int => true | .long => true | .short => true | .boolean => true
  | _ => false
def m_isR (ci j : Nat) : Bool := match m_ty ci j with
  | .object _ => true
  | .array _ => true
  | _ => false
def m_G (XL : Nat) (XS : Nat → Int32) (C : mC) (rt : Option FieldType) (kd mc ms : Nat) (Q : mK) (P : mT → Prop) (i : Instr) (nx a b : Nat) (v : Value) (sw : List (Int32 × Nat)) (lo : List (Option Value)) (st : List Value) (sh : List mS) (I : Nat → Nat → Int32) (L : Nat → Nat → Int64) (ce sl : Nat) : Prop :=
  match i with
  | .iconst _ => P (nx, lo, v :: st, (sh, I, L), ce, sl)
  | .bipush _ => P (nx, lo, v :: st, (sh, I, L), ce, sl)
  | .sipush _ => P (nx, lo, v :: st, (sh, I, L), ce, sl)
  | .lconst _ => P (nx, lo, v :: st, (sh, I, L), ce, sl)
  | .ldc _ => P (nx, lo, v :: st, (sh, I, L), ce, sl)
  | .ldc2_w _ => P (nx, lo, v :: st, (sh, I, L), ce, sl)
  | .iload_n _ => match m_nth lo a with
    | some (some (.int x)) => P (nx, lo, .int x :: st, (sh, I, L), ce, sl)
    | _ => False
  | .iload _ => match m_nth lo a with
    | some (some (.int x)) => P (nx, lo, .int x :: st, (sh, I, L), ce, sl)
    | _ => False
  | .lload_n _ => match m_nth lo a with
    | some (some (.long x)) => P (nx, lo, .long x :: st, (sh, I, L), ce, sl)
    | _ => False
  | .lload _ => match m_nth lo a with
    | some (some (.long x)) => P (nx, lo, .long x :: st, (sh, I, L), ce, sl)
    | _ => False
  | .aload_n _ => match m_nth lo a with
    | some (some (.ref x)) => P (nx, lo, .ref x :: st, (sh, I, L), ce, sl)
    | _ => False
  | .aload _ => match m_nth lo a with
    | some (some (.ref x)) => P (nx, lo, .ref x :: st, (sh, I, L), ce, sl)
    | _ => False
  | .istore_n _ => match st with
    | .int x :: r => (match Nat.blt a lo.length with | true => P (nx, m_sto1 lo a (.int x), r, (sh, I, L), ce, sl) | false => False)
    | _ => False
  | .istore _ => match st with
    | .int x :: r => (match Nat.blt a lo.length with | true => P (nx, m_sto1 lo a (.int x), r, (sh, I, L), ce, sl) | false => False)
    | _ => False
  | .lstore_n _ => match st with
    | .long x :: r => (match Nat.blt (a + 1) lo.length with | true => P (nx, m_sto2 lo a (.long x), r, (sh, I, L), ce, sl) | false => False)
    | _ => False
  | .lstore _ => match st with
    | .long x :: r => (match Nat.blt (a + 1) lo.length with | true => P (nx, m_sto2 lo a (.long x), r, (sh, I, L), ce, sl) | false => False)
    | _ => False
  | .astore_n _ => match st with
    | .ref x :: r => (match Nat.blt a lo.length with | true => P (nx, m_sto1 lo a (.ref x), r, (sh, I, L), ce, sl) | false => False)
    | _ => False
  | .iinc _ _ => match m_nth lo a, v with
    | some (some (.int x)), .int d => (match Nat.blt a lo.length with | true => P (nx, m_sto1 lo a (.int (x + d)), st, (sh, I, L), ce, sl) | false => False)
    | _, _ => False
  | .iadd => match st with
    | .int y :: .int x :: r => P (nx, lo, .int (x + y) :: r, (sh, I, L), ce, sl)
    | _ => False
  | .isub => match st with
    | .int y :: .int x :: r => P (nx, lo, .int (x - y) :: r, (sh, I, L), ce, sl)
    | _ => False
  | .imul => match st with
    | .int y :: .int x :: r => P (nx, lo, .int (x * y) :: r, (sh, I, L), ce, sl)
    | _ => False
  | .iand => match st with
    | .int y :: .int x :: r => P (nx, lo, .int (x &&& y) :: r, (sh, I, L), ce, sl)
    | _ => False
  | .ior => match st with
    | .int y :: .int x :: r => P (nx, lo, .int (x ||| y) :: r, (sh, I, L), ce, sl)
    | _ => False
  | .ixor => match st with
    | .int y :: .int x :: r => P (nx, lo, .int (x ^^^ y) :: r, (sh, I, L), ce, sl)
    | _ => False
  | .ishl => match st with
    | .int y :: .int x :: r => P (nx, lo, .int (x <<< (y &&& 31)) :: r, (sh, I, L), ce, sl)
    | _ => False
  | .ishr => match st with
    | .int y :: .int x :: r => P (nx, lo, .int (x >>> (y &&& 31)) :: r, (sh, I, L), ce, sl)
    | _ => False
  | .iushr => match st with
    | .int y :: .int x :: r => P (nx, lo, .int ((x.toUInt32 >>> (y.toUInt32 &&& Int32.toUInt32 31)).toInt32) :: r, (sh, I, L), ce, sl)
    | _ => False
  | .ineg => match st with
    | .int x :: r => P (nx, lo, .int (-x) :: r, (sh, I, L), ce, sl)
    | _ => False
  | .ladd => match st with
    | .long y :: .long x :: r => P (nx, lo, .long (x + y) :: r, (sh, I, L), ce, sl)
    | _ => False
  | .lsub => match st with
    | .long y :: .long x :: r => P (nx, lo, .long (x - y) :: r, (sh, I, L), ce, sl)
    | _ => False
  | .lmul => match st with
    | .long y :: .long x :: r => P (nx, lo, .long (x * y) :: r, (sh, I, L), ce, sl)
    | _ => False
  | .land => match st with
    | .long y :: .long x :: r => P (nx, lo, .long (x &&& y) :: r, (sh, I, L), ce, sl)
    | _ => False
  | .lor => match st with
    | .long y :: .long x :: r => P (nx, lo, .long (x ||| y) :: r, (sh, I, L), ce, sl)
    | _ => False
  | .lneg => match st with
    | .long x :: r => P (nx, lo, .long (-x) :: r, (sh, I, L), ce, sl)
    | _ => False
  | .lshl => match st with
    | .int y :: .long x :: r => P (nx, lo, .long (x <<< (y.toInt64 &&& 63)) :: r, (sh, I, L), ce, sl)
    | _ => False
  | .lushr => match st with
    | .int y :: .long x :: r => P (nx, lo, .long ((x.toUInt64 >>> (y.toInt64.toUInt64 &&& Int64.toUInt64 63)).toInt64) :: r, (sh, I, L), ce, sl)
    | _ => False
  | .lcmp => match st with
    | .long y :: .long x :: r => P (nx, lo, .int (lg_cmp x y) :: r, (sh, I, L), ce, sl)
    | _ => False
  | .i2l => match st with
    | .int x :: r => P (nx, lo, .long x.toInt64 :: r, (sh, I, L), ce, sl)
    | _ => False
  | .l2i => match st with
    | .long x :: r => P (nx, lo, .int x.toInt32 :: r, (sh, I, L), ce, sl)
    | _ => False
  | .i2b => match st with
    | .int x :: r => P (nx, lo, .int x.toInt8.toInt32 :: r, (sh, I, L), ce, sl)
    | _ => False
  | .i2s => match st with
    | .int x :: r => P (nx, lo, .int x.toInt16.toInt32 :: r, (sh, I, L), ce, sl)
    | _ => False
  | .i2c => match st with
    | .int x :: r => P (nx, lo, .int ((x.toUInt32 % 65536).toInt32) :: r, (sh, I, L), ce, sl)
    | _ => False
  | .dup => match st with
    | u :: r => (match m_c2 u with | true => False | false => P (nx, lo, u :: u :: r, (sh, I, L), ce, sl))
    | _ => False
  | .pop => match st with
    | u :: r => (match m_c2 u with | true => False | false => P (nx, lo, r, (sh, I, L), ce, sl))
    | _ => False
  | .dup2 => match st with
    | u :: t :: r => (match m_c2 u with | true => False | false => (match m_c2 t with | true => False | false => P (nx, lo, u :: t :: u :: t :: r, (sh, I, L), ce, sl)))
    | _ => False
  | .ifCond cd _ => match st with
    | .int x :: r => m_if cd x 0 (P (a, lo, r, (sh, I, L), ce, sl)) (P (nx, lo, r, (sh, I, L), ce, sl))
    | _ => False
  | .if_icmp cd _ => match st with
    | .int y :: .int x :: r => m_if cd x y (P (a, lo, r, (sh, I, L), ce, sl)) (P (nx, lo, r, (sh, I, L), ce, sl))
    | _ => False
  | .goto _ => P (a, lo, st, (sh, I, L), ce, sl)
  | .lookupswitch _ _ => match st with
    | .int x :: r => m_sw sw a x (fun t => P (t, lo, r, (sh, I, L), ce, sl))
    | _ => False
  | .tableswitch _ _ _ _ => match st with
    | .int x :: r => m_sw sw a x (fun t => P (t, lo, r, (sh, I, L), ce, sl))
    | _ => False
  | .getfield _ => match st with
    | .ref k :: r => (match m_nth sh k with
      | some (.inr (ci, fs)) => (match Nat.beq ci a with
        | true => (match m_nth fs b with
          | some f => P (nx, lo, m_fv I L ci k b f :: r, (sh, I, L), ce, sl)
          | none => False)
        | false => False)
      | _ => False)
    | _ => False
  | .putfield _ => match st with
    | u :: .ref k :: r => (match m_nth sh k with
      | some (.inr (ci, fs)) => (match Nat.beq ci a with
        | true => (match u, m_nth fs b with
          | .int x, some none => (match m_ty a b with
            | .int => P (nx, lo, r, (sh, m_up I k b x, L), ce, sl)
            | .boolean => (x = 0 ∨ x = 1) ∧ P (nx, lo, r, (sh, m_up I k b x, L), ce, sl)
            | _ => False)
          | .long x, some none => (match m_ty a b with
            | .long => P (nx, lo, r, (sh, I, m_upL L k b x), ce, sl)
            | _ => False)
          | .ref t, some (some _) => (match m_isR a b && (Nat.beq kd (100 + a) && Nat.blt t 1000000) with
            | true => P (nx, lo, r, (sh.set k (.inr (ci, fs.set b (some (some t)))), I, L), ce, sl)
            | false => False)
          | _, _ => False)
        | false => False)
      | _ => False)
    | _ => False
  | .arraylength => match st with
    | .ref k :: r => (match m_nth sh k with
      | some (.inl (ty, n)) => (match m_t6 ty with | true => P (nx, lo, .int (Int32.ofNat n) :: r, (sh, I, L), ce, sl) | false => False)
      | some _ => False
      | none => (match Nat.beq k 3000000 with
        | true => P (nx, lo, .int (Int32.ofNat XL) :: r, (sh, I, L), ce, sl)
        | false => False))
    | _ => False
  | .iaload => match st with
    | .int ix :: .ref k :: r => (match m_nth sh k with
      | some (.inl (.int, n)) => vp_in ix n ∧ P (nx, lo, .int (I k ix.toNatClampNeg) :: r, (sh, I, L), ce, sl)
      | some _ => False
      | none => (match Nat.beq k 3000000 with
        | true => vp_in ix XL ∧ P (nx, lo, .int (XS ix.toNatClampNeg) :: r, (sh, I, L), ce, sl)
        | false => False))
    | _ => False
  | .baload => match st with
    | .int ix :: .ref k :: r => (match m_nth sh k with
      | some (.inl (.byte, n)) => vp_in ix n ∧ P (nx, lo, .int (I k ix.toNatClampNeg) :: r, (sh, I, L), ce, sl)
      | some (.inl (.boolean, n)) => vp_in ix n ∧ P (nx, lo, .int (I k ix.toNatClampNeg) :: r, (sh, I, L), ce, sl)
      | _ => False)
    | _ => False
  | .caload => match st with
    | .int ix :: .ref k :: r => (match m_nth sh k with
      | some (.inl (.char, n)) => vp_in ix n ∧ P (nx, lo, .int (I k ix.toNatClampNeg) :: r, (sh, I, L), ce, sl)
      | _ => False)
    | _ => False
  | .saload => match st with
    | .int ix :: .ref k :: r => (match m_nth sh k with
      | some (.inl (.short, n)) => vp_in ix n ∧ P (nx, lo, .int (I k ix.toNatClampNeg) :: r, (sh, I, L), ce, sl)
      | _ => False)
    | _ => False
  | .laload => match st with
    | .int ix :: .ref k :: r => (match m_nth sh k with
      | some (.inl (.long, n)) => vp_in ix n ∧ P (nx, lo, .long (L k ix.toNatClampNeg) :: r, (sh, I, L), ce, sl)
      | _ => False)
    | _ => False
  | .iastore => match st with
    | .int x :: .int ix :: .ref k :: r => (match m_nth sh k with
      | some (.inl (.int, n)) => vp_in ix n ∧ P (nx, lo, r, (sh, m_up I k ix.toNatClampNeg x, L), ce, sl)
      | _ => False)
    | _ => False
  | .bastore => match st with
    | .int x :: .int ix :: .ref k :: r => (match m_nth sh k with
      | some (.inl (.byte, n)) => vp_in ix n ∧ P (nx, lo, r, (sh, m_up I k ix.toNatClampNeg (vp_nar .byte x), L), ce, sl)
      | some (.inl (.boolean, n)) => vp_in ix n ∧ P (nx, lo, r, (sh, m_up I k ix.toNatClampNeg (vp_nar .boolean x), L), ce, sl)
      | _ => False)
    | _ => False
  | .castore => match st with
    | .int x :: .int ix :: .ref k :: r => (match m_nth sh k with
      | some (.inl (.char, n)) => vp_in ix n ∧ P (nx, lo, r, (sh, m_up I k ix.toNatClampNeg (vp_nar .char x), L), ce, sl)
      | _ => False)
    | _ => False
  | .sastore => match st with
    | .int x :: .int ix :: .ref k :: r => (match m_nth sh k with
      | some (.inl (.short, n)) => vp_in ix n ∧ P (nx, lo, r, (sh, m_up I k ix.toNatClampNeg (vp_nar .short x), L), ce, sl)
      | _ => False)
    | _ => False
  | .lastore => match st with
    | .long x :: .int ix :: .ref k :: r => (match m_nth sh k with
      | some (.inl (.long, n)) => vp_in ix n ∧ P (nx, lo, r, (sh, I, m_upL L k ix.toNatClampNeg x), ce, sl)
      | _ => False)
    | _ => False
  | .invokevirtual _ => match m_pop (b % 16) st with
    | some (.ref k :: as, r) => (match m_nth sh k with
      | some (.inr (ci, _)) => (match Nat.beq ci (b / 16) && (Nat.beq (m_sg a) b && (Nat.ble (m_cat r) 8 && (Nat.ble (ce + (m_cost a).1) mc && Nat.ble (sl + (m_cost a).2) ms))) with
        | true => C a (.ref k :: as) (sh, I, L) (fun rv w => P (nx, lo, m_push rv r, w, ce + (m_cost a).1, sl + (m_cost a).2))
        | false => False)
      | _ => False)
    | _ => False
  | .invokestatic _ => match m_pop (b % 16) st with
    | some (as, r) => (match Nat.beq (m_sg a) (b + 256) && (Nat.ble (m_cat r) 8 && (Nat.ble (ce + (m_cost a).1) mc && Nat.ble (sl + (m_cost a).2) ms)) with
        | true => C a as (sh, I, L) (fun rv w => P (nx, lo, m_push rv r, w, ce + (m_cost a).1, sl + (m_cost a).2))
        | false => False)
    | _ => False
  | .invokespecial _ => match Nat.beq a 999 with
    | true => (match st with
      | .ref _ :: r => (match Nat.ble (m_cat r) 8 with | true => P (nx, lo, r, (sh, I, L), ce, sl) | false => False)
      | _ => False)
    | false => (match m_pop (b % 16) st with
      | some (.ref k :: as, r) => (match Nat.beq (m_sg a) (b + 512) && (Nat.ble (m_cat r) 8 && (Nat.ble (ce + (m_cost a).1) mc && Nat.ble (sl + (m_cost a).2) ms)) with
          | true => C a (.ref k :: as) (sh, I, L) (fun rv w => P (nx, lo, m_push rv r, w, ce + (m_cost a).1, sl + (m_cost a).2))
          | false => False)
      | _ => False)
  | .new _ => match Nat.blt sh.length 1000 && (Nat.ble (ce + 1) mc && Nat.ble (sl + m_NN a) ms) with
    | true => P (nx, lo, .ref sh.length :: st, (sh ++ [.inr (a, m_nf a 0 (m_NN a))], va_up I sh.length (fun _ => 0), va_up L sh.length (fun _ => 0)), ce + 1, sl + m_NN a)
    | false => False
  | .newarray ty => match st with
    | .int n :: r => (match m_t6 (m_aty ty) && (Nat.blt sh.length 1000 && (Nat.ble (ce + 1) mc && (Nat.ble (sl + a) ms && Nat.ble a 100000))) with
      | true => (¬ n < 0 ∧ n.toNatClampNeg = a) ∧ P (nx, lo, .ref sh.length :: r, (sh ++ [.inl (m_aty ty, a)], va_up I sh.length (fun _ => 0), va_up L sh.length (fun _ => 0)), ce + 1, sl + a)
      | false => False)
    | _ => False
  | .ireturn => match st with
    | [.int x] => (match rt with
      | some .int => (match Nat.beq ce mc && Nat.beq sl ms with | true => Q (some (.int x)) (sh, I, L) | false => False)
      | some ty => (match Nat.beq ce mc && Nat.beq sl ms with | true => narrow ty (.int x) = .int x ∧ Q (some (.int x)) (sh, I, L) | false => False)
      | none => False)
    | _ => False
  | .lreturn => match st with
    | [.long x] => (match rt with
      | some .long => (match Nat.beq ce mc && Nat.beq sl ms with | true => Q (some (.long x)) (sh, I, L) | false => False)
      | _ => False)
    | _ => False
  | .return_ => match st with
    | [] => (match rt with
      | none => (match Nat.beq ce mc && Nat.beq sl ms with | true => Q none (sh, I, L) | false => False)
      | _ => False)
    | _ => False
  | _ => False
def m_F (XL : Nat) (XS : Nat → Int32) (C : mC) (cd : mL) (rt : Option FieldType) (kd mc ms : Nat) (Q : mK) (P : mT → Prop) : mT → Prop
  | (pc, lo, st, (sh, I, L), ce, sl) => match m_at cd pc with
    | some (_, i, nx, a, b, v, sw) => m_G XL XS C rt kd mc ms Q P i nx a b v sw lo st sh I L ce sl
    | none => False
/-- the least set that is closed under the step -/
def m_WP (XL : Nat) (XS : Nat → Int32) (C : mC) (cd : mL) (rt : Option FieldType) (kd mc ms : Nat) (Q : mK) (t : mT) : Prop :=
  ∀ P : mT → Prop, (∀ t, m_F XL XS C cd rt kd mc ms Q P t → P t) → P t
end
section
/-! ===== lists of the small machine ===== -/
theorem m_sto1_get : ∀ (lo : List (Option Value)) (i : Nat) (v : Value) (j : Nat) (u : Value), (m_sto1 lo i v)[j]? = some (some u) → (j = i ∧ u = v) ∨ (j ≠ i ∧ lo[j]? = some (some u) ∧ ¬ (j + 1 = i ∧ m_c2 u = true))
  | [], i, v, j, u, h => by simp [m_sto1] at h
  | x :: r, 0, v, 0, u, h => by
    simp [m_sto1] at h
    exact Or.inl ⟨rfl, h.symm⟩
  | x :: r, 0, v, j + 1, u, h => by
    simp [m_sto1] at h
    exact Or.inr ⟨by omega, by simpa using h, by omega⟩
  | x :: r, 1, v, 0, u, h => by
    refine Or.inr ⟨by omega, ?_, ?_⟩
    · simp only [m_sto1, List.getElem?_cons_zero, Option.some.injEq] at h
      cases x with
      | none => simp at h
      | some y =>
        simp only at h
        split at h
        · cases h
        · simpa using h
    · rintro ⟨-, hc⟩
      simp only [m_sto1, List.getElem?_cons_zero, Option.some.injEq] at h
      cases x with
      | none => simp at h
      | some y =>
        simp only at h
        split at h
        · cases h
        · rename_i hf
          cases h
          rw [hf] at hc
          cases hc
  | x :: r, 1, v, j + 1, u, h => by
    simp only [m_sto1, List.getElem?_cons_succ] at h
    rcases m_sto1_get r 0 v j u h with ⟨h1, h2⟩ | ⟨h1, h2, h3⟩
    · exact Or.inl ⟨by omega, h2⟩
    · exact Or.inr ⟨by omega, by simpa using h2, by omega⟩
  | x :: r, i + 2, v, 0, u, h => by
    simp only [m_sto1, List.getElem?_cons_zero] at h
    exact Or.inr ⟨by omega, by simpa using h, by omega⟩
  | x :: r, i + 2, v, j + 1, u, h => by
    simp only [m_sto1, List.getElem?_cons_succ] at h
    rcases m_sto1_get r (i + 1) v j u h with ⟨h1, h2⟩ | ⟨h1, h2, h3⟩
    · exact Or.inl ⟨by omega, h2⟩
    · exact Or.inr ⟨by omega, by simpa using h2, fun ⟨q1, q2⟩ => h3 ⟨by omega, q2⟩⟩
theorem m_sto1_len : ∀ (lo : List (Option Value)) (i : Nat) (v : Value), (m_sto1 lo i v).length = lo.length
  | [], i, v => by simp [m_sto1]
  | x :: r, 0, v => by simp [m_sto1]
  | x :: r, 1, v => by simp [m_sto1, m_sto1_len r 0 v]
  | x :: r, i + 2, v => by simp [m_sto1, m_sto1_len r (i + 1) v]
theorem m_sto2_c1 (x : Option Value) (r : List (Option Value)) (v : Value) : m_sto2 (x :: r) 1 v = (match x with | some u => (match m_c2 u with | true => none | false => some u) | none => none) :: m_sto2 r 0 v := by cases r <;> rfl
theorem m_sto2_c2 (x : Option Value) (r : List (Option Value)) (i : Nat) (v : Value) : m_sto2 (x :: r) (i + 2) v = x :: m_sto2 r (i + 1) v := by cases r <;> rfl
theorem m_sto2_get : ∀ (lo : List (Option Value)) (i : Nat) (v : Value) (j : Nat) (u : Value), (m_sto2 lo i v)[j]? = some (some u) → (j = i ∧ u = v) ∨ (j ≠ i ∧ j ≠ i + 1 ∧ lo[j]? = some (some u) ∧ ¬ (j + 1 = i ∧ m_c2 u = true))
  | [], i, v, j, u, h => by simp [m_sto2] at h
  | [x], 0, v, j, u, h => by simp [m_sto2] at h
  | x :: y :: r, 0, v, 0, u, h => by
    simp [m_sto2] at h
    exact Or.inl ⟨rfl, h.symm⟩
  | x :: y :: r, 0, v, 1, u, h => by simp [m_sto2] at h
  | x :: y :: r, 0, v, j + 2, u, h => by
    simp [m_sto2] at h
    exact Or.inr ⟨by omega, by omega, by simpa using h, by omega⟩
  | x :: r, 1, v, 0, u, h => by
    refine Or.inr ⟨by omega, by omega, ?_, ?_⟩
    · simp only [m_sto2_c1, List.getElem?_cons_zero, Option.some.injEq] at h
      cases x with
      | none => simp at h
      | some y =>
        simp only at h
        split at h
        · cases h
        · simpa using h
    · rintro ⟨-, hc⟩
      simp only [m_sto2_c1, List.getElem?_cons_zero, Option.some.injEq] at h
      cases x with
      | none => simp at h
      | some y =>
        simp only at h
        split at h
        · cases h
        · rename_i hf
          cases h
          rw [hf] at hc
          cases hc
  | x :: r, 1, v, j + 1, u, h => by
    simp only [m_sto2_c1, List.getElem?_cons_succ] at h
    rcases m_sto2_get r 0 v j u h with ⟨h1, h2⟩ | ⟨h1, h4, h2, h3⟩
    · exact Or.inl ⟨by omega, h2⟩
    · exact Or.inr ⟨by omega, by omega, by simpa using h2, by omega⟩
  | x :: r, i + 2, v, 0, u, h => by
    simp only [m_sto2_c2, List.getElem?_cons_zero] at h
    exact Or.inr ⟨by omega, by omega, by simpa using h, by omega⟩
  | x :: r, i + 2, v, j + 1, u, h => by
    simp only [m_sto2_c2, List.getElem?_cons_succ] at h
    rcases m_sto2_get r (i + 1) v j u h with ⟨h1, h2⟩ | ⟨h1, h4, h2, h3⟩
    · exact Or.inl ⟨by omega, h2⟩
    · exact Or.inr ⟨by omega, by omega, by simpa using h2, fun ⟨q1, q2⟩ => h3 ⟨by omega, q2⟩⟩
theorem m_sto2_len : ∀ (lo : List (Option Value)) (i : Nat) (v : Value), i + 1 < lo.length → (m_sto2 lo i v).length = lo.length
  | [], i, v, h => by simp at h
  | [x], 0, v, h => by simp at h
  | x :: y :: r, 0, v, h => by simp [m_sto2]
  | x :: r, 1, v, h => by
    have := m_sto2_len r 0 v (by simp at h; omega)
    simp [m_sto2_c1, this]
  | x :: r, i + 2, v, h => by
    have := m_sto2_len r (i + 1) v (by simp at h; omega)
    simp [m_sto2_c2, this]
theorem m_pad_get : ∀ (n : Nat) (l : List (Option Value)) (j : Nat) (u : Value), (m_pad n l)[j]? = some (some u) → l[j]? = some (some u)
  | 0, l, j, u, h => h
  | n + 1, [], 0, u, h => by simp [m_pad] at h
  | n + 1, [], j + 1, u, h => by
    simp only [m_pad, List.getElem?_cons_succ] at h
    have := m_pad_get n [] j u h
    simp at this
  | n + 1, x :: l, 0, u, h => by simpa [m_pad] using h
  | n + 1, x :: l, j + 1, u, h => by
    simp only [m_pad, List.getElem?_cons_succ] at h ⊢
    exact m_pad_get n l j u h
theorem m_pad_len : ∀ (n : Nat) (l : List (Option Value)), l.length ≤ n → (m_pad n l).length = n
  | 0, [], _ => rfl
  | 0, x :: l, h => by simp at h
  | n + 1, [], _ => by simp [m_pad, m_pad_len n [] (by simp)]
  | n + 1, x :: l, h => by simp [m_pad, m_pad_len n l (by simpa using h)]
theorem m_pop_eq : ∀ (n : Nat) (st as r : List Value), m_pop n st = some (as, r) → st = as.reverse ++ r ∧ as.length = n
  | 0, st, as, r, h => by
    simp [m_pop] at h
    obtain ⟨rfl, rfl⟩ := h
    simp
  | n + 1, [], as, r, h => by simp [m_pop] at h
  | n + 1, v :: st, as, r, h => by
    simp only [m_pop] at h
    cases hp : m_pop n st with
    | none => simp [hp] at h
    | some q =>
      obtain ⟨a2, r2⟩ := q
      simp [hp] at h
      obtain ⟨rfl, rfl⟩ := h
      obtain ⟨h1, h2⟩ := m_pop_eq n st a2 r2 hp
      subst h1
      simp [h2]
def m_tr (ad : Nat → Nat) : Value → Value
  | .ref k => .ref (ad k)
  | v => v
theorem m_tr_c2 (ad : Nat → Nat) (v : Value) : m_c2 (m_tr ad v) = m_c2 v := by cases v <;> rfl
theorem m_tr_cat (ad : Nat → Nat) (v : Value) : (m_tr ad v).category = v.category := by cases v <;> rfl
theorem m_cat_eq (ad : Nat → Nat) : ∀ st : List Value, ((st.map (m_tr ad)).map fun v => v.category).sum = m_cat st
  | [] => rfl
  | v :: r => by
    simp only [List.map_cons, List.sum_cons, m_cat, m_cat_eq ad r, m_tr_cat, m_c2_cat v]
    cases m_c2 v <;> simp
/-- the locals as a list of places -/
def m_al (ad : Nat → Nat) : Nat → List (Option Value) → List (Nat × Value)
  | _, [] => []
  | i, none :: r => m_al ad (i + 1) r
  | i, some v :: r => (i, m_tr ad v) :: m_al ad (i + 1) r
theorem m_al_mem (ad : Nat → Nat) : ∀ (lo : List (Option Value)) (i : Nat) (q : Nat × Value), q ∈ m_al ad i lo → ∃ (j : Nat) (v : Value), q = (i + j, m_tr ad v) ∧ lo[j]? = some (some v)
  | [], i, q, h => by simp [m_al] at h
  | none :: r, i, q, h => by
    obtain ⟨j, v, h1, h2⟩ := m_al_mem ad r (i + 1) q h
    exact ⟨j + 1, v, by rw [h1]; simp; omega, by simpa using h2⟩
  | some u :: r, i, q, h => by
    rcases List.mem_cons.mp h with h | h
    · exact ⟨0, u, by rw [h]; rfl, rfl⟩
    · obtain ⟨j, v, h1, h2⟩ := m_al_mem ad r (i + 1) q h
      exact ⟨j + 1, v, by rw [h1]; simp; omega, by simpa using h2⟩
theorem m_al_in (ad : Nat → Nat) : ∀ (lo : List (Option Value)) (i j : Nat) (v : Value), lo[j]? = some (some v) → (i + j, m_tr ad v) ∈ m_al ad i lo
  | [], i, j, v, h => by simp at h
  | none :: r, i, 0, v, h => by simp at h
  | none :: r, i, j + 1, v, h => by
    have := m_al_in ad r (i + 1) j v (by simpa using h)
    simp only [m_al]
    rw [show i + (j + 1) = i + 1 + j by omega]
    exact this
  | some u :: r, i, 0, v, h => by
    simp at h
    subst h
    simp [m_al]
  | some u :: r, i, j + 1, v, h => by
    have := m_al_in ad r (i + 1) j v (by simpa using h)
    simp only [m_al]
    rw [show i + (j + 1) = i + 1 + j by omega]
    exact List.mem_cons_of_mem _ this
def m_lh (ad : Nat → Nat) (ls : Array Slot) (nL : Nat) (lo : List (Option Value)) : Prop := lv_has ls nL (m_al ad 0 lo) ∧ lo.length = nL
theorem m_lv_weak {ls : Array Slot} {nL : Nat} {l l' : List (Nat × Value)} (h : lv_has ls nL l) (hs : ∀ q ∈ l', q ∈ l) : lv_has ls nL l' := ⟨h.1, h.2.1, fun q hq => h.2.2 q (hs q hq)⟩
theorem m_lh_at {ad : Nat → Nat} {ls : Array Slot} {nL : Nat} {lo : List (Option Value)} (h : m_lh ad ls nL lo) {i : Nat} {v : Value} (hi : m_nth lo i = some (some v)) : ls[i]? = some (.val (m_tr ad v)) := by
  rw [m_nth_eq] at hi
  have := h.1.2.2 (0 + i, m_tr ad v) (m_al_in ad lo 0 i v hi)
  simpa using this
theorem m_lh_sto1 {ad : Nat → Nat} {ls : Array Slot} {nL : Nat} {lo : List (Option Value)} {i : Nat} {v : Value} (hl : lo.length = nL) (hc : m_c2 v = false)
    (h : lv_has ls nL ((i, m_tr ad v) :: (m_al ad 0 lo).filter (fun q => !(q.1 == i) && !(q.1 + 1 == i && q.2.category == 2)))) : m_lh ad ls nL (m_sto1 lo i v) := by
  refine ⟨m_lv_weak h fun q hq => ?_, by rw [m_sto1_len]; exact hl⟩
  obtain ⟨j, u, rfl, hu⟩ := m_al_mem ad _ 0 q hq
  rw [Nat.zero_add] at *
  rcases m_sto1_get lo i v j u hu with ⟨rfl, rfl⟩ | ⟨h1, h2, h3⟩
  · exact List.mem_cons_self
  · refine List.mem_cons_of_mem _ (List.mem_filter.mpr ⟨by have := m_al_in ad lo 0 j u h2; rwa [Nat.zero_add] at this, ?_⟩)
    simp only [m_tr_cat, Bool.and_eq_true, Bool.not_eq_true', beq_eq_false_iff_ne, ne_eq, Bool.and_eq_false_iff]
    refine ⟨h1, ?_⟩
    by_cases hj : j + 1 = i
    · right
      have hf : ¬ m_c2 u = true := fun hh => h3 ⟨hj, hh⟩
      rw [m_c2_cat u, if_neg hf]
      decide
    · exact Or.inl hj
theorem m_lh_sto2 {ad : Nat → Nat} {ls : Array Slot} {nL : Nat} {lo : List (Option Value)} {i : Nat} {v : Value} (hl : lo.length = nL) (hi : i + 1 < nL)
    (h : lv_has ls nL ((i, m_tr ad v) :: (m_al ad 0 lo).filter (fun q => !(q.1 == i) && (!(q.1 == i + 1) && !(q.1 + 1 == i && q.2.category == 2))))) : m_lh ad ls nL (m_sto2 lo i v) := by
  refine ⟨m_lv_weak h fun q hq => ?_, by rw [m_sto2_len _ _ _ (by rw [hl]; exact hi)]; exact hl⟩
  obtain ⟨j, u, rfl, hu⟩ := m_al_mem ad _ 0 q hq
  rw [Nat.zero_add] at *
  rcases m_sto2_get lo i v j u hu with ⟨rfl, rfl⟩ | ⟨h1, h4, h2, h3⟩
  · exact List.mem_cons_self
  · refine List.mem_cons_of_mem _ (List.mem_filter.mpr ⟨by have := m_al_in ad lo 0 j u h2; rwa [Nat.zero_add] at this, ?_⟩)
    simp only [m_tr_cat, Bool.and_eq_true, Bool.not_eq_true', beq_eq_false_iff_ne, ne_eq, Bool.and_eq_false_iff]
    refine ⟨h1, h4, ?_⟩
    by_cases hj : j + 1 = i
    · right
      have hf : ¬ m_c2 u = true := fun hh => h3 ⟨hj, hh⟩
      rw [m_c2_cat u, if_neg hf]
      decide
    · exact Or.inl hj
theorem m_ent_args (ad : Nat → Nat) : ∀ (as : List Value) (i j : Nat) (u : Value), (m_ent as)[j]? = some (some u) → (i + j, m_tr ad u) ∈ lv_args i (as.map (m_tr ad))
  | [], i, j, u, h => by simp [m_ent] at h
  | v :: r, i, j, u, h => by
    simp only [m_ent] at h
    simp only [List.map_cons, lv_args, m_tr_cat]
    cases hc : m_c2 v with
    | true =>
      simp only [hc] at h
      have h2 : v.category = 2 := by rw [m_c2_cat, hc]; rfl
      rw [if_pos h2]
      match j, h with
      | 0, h => simp at h; subst h; simp
      | 1, h => simp at h
      | j + 2, h =>
        have := m_ent_args ad r (i + 2) j u (by simpa using h)
        rw [show i + (j + 2) = i + 2 + j by omega]
        exact List.mem_cons_of_mem _ this
    | false =>
      simp only [hc] at h
      have h2 : ¬ v.category = 2 := by rw [m_c2_cat, hc]; decide
      rw [if_neg h2]
      match j, h with
      | 0, h => simp at h; subst h; simp
      | j + 1, h =>
        have := m_ent_args ad r (i + 1) j u (by simpa using h)
        rw [show i + (j + 1) = i + 1 + j by omega]
        exact List.mem_cons_of_mem _ this
theorem m_ent_len (ad : Nat → Nat) : ∀ as : List Value, (lg_sl (as.map (m_tr ad))).length = (m_ent as).length
  | [] => rfl
  | v :: r => by
    have ih := m_ent_len ad r
    simp only [lg_sl] at ih
    simp only [List.map_cons, lg_sl, List.flatMap_cons, List.length_append, m_ent, m_tr_cat, m_c2_cat v, ih]
    cases m_c2 v <;> simp <;> omega
theorem m_lh_entry (ad : Nat → Nat) (as : List Value) (n : Nat) (h : (m_ent as).length ≤ n) : m_lh ad ((lg_sl (as.map (m_tr ad)) ++ List.replicate (n - (lg_sl (as.map (m_tr ad))).length) Slot.unset).toArray) n (m_pad n (m_ent as)) := by
  refine ⟨m_lv_weak (lv_entry (as.map (m_tr ad)) (n := n) (by rw [m_ent_len]; exact h)) fun q hq => ?_, m_pad_len n _ h⟩
  obtain ⟨j, u, rfl, hu⟩ := m_al_mem ad _ 0 q hq
  exact m_ent_args ad as 0 j u (m_pad_get n _ j u hu)
end
section
/-! ===== the small machine's world as the kit's cells ===== -/
def m_fs (ad : Nat → Nat) (I : Nat → Nat → Int32) (L : Nat → Nat → Int64) (ci k : Nat) : Nat → List (Option (Option Nat)) → List Value
  | _, [] => []
  | j, f :: r => m_tr ad (m_fv I L ci k j f) :: m_fs ad I L ci k (j + 1) r
def m_ve (ad : Nat → Nat) (aC : FieldType → ClassId) (I : Nat → Nat → Int32) (L : Nat → Nat → Int64) (k : Nat) : mS → va_E
  | .inl (ty, n) => .inl (aC ty, n, match ty with | .long => .inr (.inl (L k)) | _ => .inl (I k))
  | .inr (ci, fs) => .inr (ci, m_fs ad I L ci k 0 fs)
def m_wl (ad : Nat → Nat) (aC : FieldType → ClassId) (I : Nat → Nat → Int32) (L : Nat → Nat → Int64) : Nat → List mS → va_W
  | _, [] => []
  | k, e :: r => (ad k, m_ve ad aC I L k e) :: m_wl ad aC I L (k + 1) r
theorem m_fs_get {ad : Nat → Nat} {I : Nat → Nat → Int32} {L : Nat → Nat → Int64} {ci k : Nat} : ∀ (fs : List (Option (Option Nat))) (j0 j : Nat), (m_fs ad I L ci k j0 fs)[j]? = (fs[j]?).map (fun f => m_tr ad (m_fv I L ci k (j0 + j) f))
  | [], j0, j => by simp [m_fs]
  | f :: r, j0, 0 => by simp [m_fs]
  | f :: r, j0, j + 1 => by
    simp only [m_fs, List.getElem?_cons_succ, m_fs_get r (j0 + 1) j]
    rw [show j0 + 1 + j = j0 + (j + 1) by omega]
theorem m_fs_len {ad : Nat → Nat} {I : Nat → Nat → Int32} {L : Nat → Nat → Int64} {ci k : Nat} : ∀ (fs : List (Option (Option Nat))) (j0 : Nat), (m_fs ad I L ci k j0 fs).length = fs.length
  | [], j0 => rfl
  | f :: r, j0 => by simp [m_fs, m_fs_len r (j0 + 1)]
theorem m_wl_get {ad : Nat → Nat} {aC : FieldType → ClassId} {I : Nat → Nat → Int32} {L : Nat → Nat → Int64} : ∀ (sh : List mS) (k0 k : Nat), (m_wl ad aC I L k0 sh)[k]? = (sh[k]?).map (fun e => (ad (k0 + k), m_ve ad aC I L (k0 + k) e))
  | [], k0, k => by simp [m_wl]
  | e :: r, k0, 0 => by simp [m_wl]
  | e :: r, k0, k + 1 => by
    simp only [m_wl, List.getElem?_cons_succ, m_wl_get r (k0 + 1) k]
    rw [show k0 + 1 + k = k0 + (k + 1) by omega]
theorem m_fv_congr {I I' : Nat → Nat → Int32} {L L' : Nat → Nat → Int64} {ci k j : Nat} (hI : I' k j = I k j) (hL : L' k j = L k j) (f : Option (Option Nat)) : m_fv I' L' ci k j f = m_fv I L ci k j f := by
  rcases f with _ | _ | t <;> simp [m_fv, hI, hL]
theorem m_fs_congr {ad : Nat → Nat} {I I' : Nat → Nat → Int32} {L L' : Nat → Nat → Int64} {ci k : Nat} (hI : I' k = I k) (hL : L' k = L k) : ∀ (fs : List (Option (Option Nat))) (j0 : Nat), m_fs ad I' L' ci k j0 fs = m_fs ad I L ci k j0 fs
  | [], j0 => rfl
  | f :: r, j0 => by
    simp only [m_fs, m_fs_congr hI hL r (j0 + 1)]
    rw [m_fv_congr (by rw [hI]) (by rw [hL])]
theorem m_ve_congr {ad : Nat → Nat} {aC : FieldType → ClassId} {I I' : Nat → Nat → Int32} {L L' : Nat → Nat → Int64} {k : Nat} (hI : I' k = I k) (hL : L' k = L k) (e : mS) : m_ve ad aC I' L' k e = m_ve ad aC I L k e := by
  rcases e with ⟨ty, n⟩ | ⟨ci, fs⟩
  · simp only [m_ve, hI, hL]
  · simp only [m_ve, m_fs_congr hI hL]
theorem m_wl_set {ad : Nat → Nat} {aC : FieldType → ClassId} {I I' : Nat → Nat → Int32} {L L' : Nat → Nat → Int64} {sh sh' : List mS} {k : Nat} {e' : mS} (hk : k < sh.length) (hI : ∀ q, q ≠ k → I' q = I q) (hL : ∀ q, q ≠ k → L' q = L q) (hsh : ∀ n, sh'[n]? = if n = k then some e' else sh[n]?) :
    m_wl ad aC I' L' 0 sh' = (m_wl ad aC I L 0 sh).set k (ad k, m_ve ad aC I' L' k e') := by
  have hlen : ∀ (I : Nat → Nat → Int32) (L : Nat → Nat → Int64) (sh : List mS) (k0 : Nat), (m_wl ad aC I L k0 sh).length = sh.length := by
    intro I L sh
    induction sh with
    | nil => intro k0; rfl
    | cons x r ih => intro k0; simp [m_wl, ih (k0 + 1)]
  apply List.ext_getElem?
  intro n
  rw [m_wl_get, hsh n]
  by_cases hn : n = k
  · subst hn
    rw [if_pos rfl, List.getElem?_set_self (by rw [hlen]; exact hk)]
    simp
  · rw [if_neg hn, List.getElem?_set_ne (fun h => hn h.symm), m_wl_get]
    cases hs : sh[n]? with
    | none => rfl
    | some x =>
      simp only [Option.map_some, Nat.zero_add]
      rw [m_ve_congr (hI n hn) (hL n hn)]
theorem m_same {sh : List mS} {k : Nat} {e : mS} (h : sh[k]? = some e) : ∀ n, sh[n]? = if n = k then some e else sh[n]? := by
  intro n
  by_cases hn : n = k
  · subst hn; rw [if_pos rfl]; exact h
  · rw [if_neg hn]
theorem m_setAt {sh : List mS} {k : Nat} {e : mS} (h : k < sh.length) : ∀ n, (sh.set k e)[n]? = if n = k then some e else sh[n]? := by
  intro n
  by_cases hn : n = k
  · subst hn; rw [if_pos rfl, List.getElem?_set_self h]
  · rw [if_neg hn, List.getElem?_set_ne (fun q => hn q.symm)]
theorem m_up_ne {I : Nat → Nat → Int32} {k j : Nat} {x : Int32} (q : Nat) (h : q ≠ k) : m_up I k j x q = I q := by simp [m_up, va_up, h]
theorem m_upL_ne {L : Nat → Nat → Int64} {k j : Nat} {x : Int64} (q : Nat) (h : q ≠ k) : m_upL L k j x q = L q := by simp [m_upL, va_up, h]
theorem m_up_eq {I : Nat → Nat → Int32} {k j : Nat} {x : Int32} : m_up I k j x k = upd (I k) j x := by simp [m_up, va_up]
theorem m_upL_eq {L : Nat → Nat → Int64} {k j : Nat} {x : Int64} : m_upL L k j x k = vp_updL (L k) j x := by simp [m_upL, va_up]
theorem m_fs_put {ad : Nat → Nat} {I : Nat → Nat → Int32} {L : Nat → Nat → Int64} {ci k b : Nat} {x : Int32} {fs : List (Option (Option Nat))} (hf : fs[b]? = some none) (hl : m_isL ci b = false) :
    m_fs ad (m_up I k b x) L ci k 0 fs = (m_fs ad I L ci k 0 fs).set b (.int x) := by
  have hb : b < fs.length := (List.getElem?_eq_some_iff.mp hf).1
  apply List.ext_getElem?
  intro n
  rw [m_fs_get, Nat.zero_add]
  by_cases hn : n = b
  · subst hn
    rw [List.getElem?_set_self (by rw [m_fs_len]; exact hb), hf]
    simp [m_fv, hl, m_up_eq, upd, m_tr]
  · rw [List.getElem?_set_ne (fun h => hn h.symm), m_fs_get, Nat.zero_add]
    cases hs : fs[n]? with
    | none => rfl
    | some f =>
      simp only [Option.map_some]
      exact congrArg (fun z => some (m_tr ad z)) (m_fv_congr (by rw [m_up_eq]; simp [upd, hn]) rfl f)
theorem m_fs_putL {ad : Nat → Nat} {I : Nat → Nat → Int32} {L : Nat → Nat → Int64} {ci k b : Nat} {x : Int64} {fs : List (Option (Option Nat))} (hf : fs[b]? = some none) (hl : m_isL ci b = true) :
    m_fs ad I (m_upL L k b x) ci k 0 fs = (m_fs ad I L ci k 0 fs).set b (.long x) := by
  have hb : b < fs.length := (List.getElem?_eq_some_iff.mp hf).1
  apply List.ext_getElem?
  intro n
  rw [m_fs_get, Nat.zero_add]
  by_cases hn : n = b
  · subst hn
    rw [List.getElem?_set_self (by rw [m_fs_len]; exact hb), hf]
    simp [m_fv, hl, m_upL_eq, vp_updL, m_tr]
  · rw [List.getElem?_set_ne (fun h => hn h.symm), m_fs_get, Nat.zero_add]
    cases hs : fs[n]? with
    | none => rfl
    | some f =>
      simp only [Option.map_some]
      exact congrArg (fun z => some (m_tr ad z)) (m_fv_congr rfl (by rw [m_upL_eq]; simp [vp_updL, hn]) f)
theorem m_fs_putR {ad : Nat → Nat} {I : Nat → Nat → Int32} {L : Nat → Nat → Int64} {ci k b t : Nat} {fs : List (Option (Option Nat))} (hb : b < fs.length) :
    m_fs ad I L ci k 0 (fs.set b (some (some t))) = (m_fs ad I L ci k 0 fs).set b (.ref (ad t)) := by
  apply List.ext_getElem?
  intro n
  rw [m_fs_get, Nat.zero_add]
  by_cases hn : n = b
  · subst hn
    rw [List.getElem?_set_self hb, List.getElem?_set_self (by rw [m_fs_len]; exact hb)]
    simp [m_fv, m_tr]
  · rw [List.getElem?_set_ne (fun h => hn h.symm), List.getElem?_set_ne (fun h => hn h.symm), m_fs_get, Nat.zero_add]
theorem m_wl_app {ad : Nat → Nat} {aC : FieldType → ClassId} {I I' : Nat → Nat → Int32} {L L' : Nat → Nat → Int64} {sh : List mS} {e : mS} (hI : ∀ q, q < sh.length → I' q = I q) (hL : ∀ q, q < sh.length → L' q = L q) :
    m_wl ad aC I' L' 0 (sh ++ [e]) = m_wl ad aC I L 0 sh ++ [(ad sh.length, m_ve ad aC I' L' sh.length e)] := by
  have hlen : ∀ (I : Nat → Nat → Int32) (L : Nat → Nat → Int64) (sh : List mS) (k0 : Nat), (m_wl ad aC I L k0 sh).length = sh.length := by
    intro I L sh
    induction sh with
    | nil => intro k0; rfl
    | cons x r ih => intro k0; simp [m_wl, ih (k0 + 1)]
  apply List.ext_getElem?
  intro n
  rw [m_wl_get, Nat.zero_add]
  by_cases hn : n < sh.length
  · rw [List.getElem?_append_left hn, List.getElem?_append_left (by rw [hlen]; exact hn), m_wl_get, Nat.zero_add]
    cases hs : sh[n]? with
    | none => rfl
    | some f =>
      simp only [Option.map_some]
      rw [m_ve_congr (hI n hn) (hL n hn)]
  · rw [List.getElem?_append_right (by omega), List.getElem?_append_right (by rw [hlen]; omega), hlen]
    by_cases h0 : n = sh.length
    · subst h0; simp
    · have h1 : n - sh.length = (n - sh.length - 1) + 1 := by omega
      rw [h1]; simp
theorem m_wl_D {ad : Nat → Nat} {aC : FieldType → ClassId} {I : Nat → Nat → Int32} {L : Nat → Nat → Int64} {sh : List mS} {base : Nat} (had : ∀ k, k < 1000000 → ad k = base + k) (hlen : sh.length ≤ 1000) : va_D (fun q => base ≤ q) (m_wl ad aC I L 0 sh) := by
  have key : ∀ (k : Nat) (q : Nat × va_E), (m_wl ad aC I L 0 sh)[k]? = some q → q.1 = base + k ∧ k < sh.length := by
    intro k q h
    rw [m_wl_get, Nat.zero_add] at h
    cases hs : sh[k]? with
    | none => rw [hs] at h; cases h
    | some x =>
      rw [hs] at h
      have hk := (List.getElem?_eq_some_iff.mp hs).1
      simp only [Option.map_some, Option.some.injEq] at h
      rw [← h]
      exact ⟨had k (by omega), hk⟩
  refine ⟨fun i j x y hi hj hxy => ?_, fun k q hk => ?_⟩
  · have h1 := (key i x hi).1
    have h2 := (key j y hj).1
    omega
  · rw [(key k q hk).1]
    exact Nat.le_add_right _ _
/-! what each class is -/
theorem m_cl : ∀ ci, ci ≤ 9 → vwCl[ci]? = some (m_RR ci, m_TT ci, m_NN ci) := by
  intro ci h
  match ci, h with
  | 0, _ => rfl | 1, _ => rfl | 2, _ => rfl | 3, _ => rfl | 4, _ => rfl | 5, _ => rfl | 6, _ => rfl | 7, _ => rfl | 8, _ => rfl | 9, _ => rfl
theorem m_lay : ∀ ci, ci ≤ 9 → ∀ w ∈ u_ws (m_RR ci) (m_TT ci) (m_NN ci), w ∈ m_ws := by
  intro ci h
  match ci, h with
  | 0, _ => exact m_lay0 | 1, _ => exact m_lay1 | 2, _ => exact m_lay2 | 3, _ => exact m_lay3 | 4, _ => exact m_lay4 | 5, _ => exact m_lay5 | 6, _ => exact m_lay6 | 7, _ => exact m_lay7 | 8, _ => exact m_lay8 | 9, _ => exact m_lay9
theorem m_tyok : ∀ ci, ci ≤ 9 → ∀ k, k < m_NN ci → parseFieldDescriptor (m_TT ci k).2.2.1 = some (m_ty ci k) := by
  intro ci h
  match ci, h with
  | 0, _ => exact tyX0_ok | 1, _ => exact tyX1_ok | 2, _ => exact tyX2_ok | 3, _ => exact tyX3_ok | 4, _ => exact tyX4_ok | 5, _ => exact tyX5_ok | 6, _ => exact tyX6_ok | 7, _ => exact tyX7_ok | 8, _ => exact tyX8_ok | 9, _ => exact tyX9_ok
theorem m_nmok : ∀ ci, ci ≤ 9 → ∀ a, a < m_NN ci → ∀ b, b < m_NN ci → a ≠ b → (m_TT ci a).2.1 ≠ (m_TT ci b).2.1 := by
  intro ci h
  match ci, h with
  | 0, _ => exact nmX0 | 1, _ => exact nmX1 | 2, _ => exact nmX2 | 3, _ => exact nmX3 | 4, _ => exact nmX4 | 5, _ => exact nmX5 | 6, _ => exact nmX6 | 7, _ => exact nmX7 | 8, _ => exact nmX8 | 9, _ => exact nmX9
/-- fields of references are final, others aren't; each is of its own class -/
def m_fin (ci b : Nat) : Bool := match m_ty ci b with
  | .object _ => (m_TT ci b).2.2.2
  | .array _ => (m_TT ci b).2.2.2
  | _ => !(m_TT ci b).2.2.2
theorem m_finok : ∀ ci, ci < 10 → ∀ b, b < m_NN ci → m_fin ci b = true := by decide +kernel
theorem m_decl : ∀ ci, ci < 10 → ∀ b, b < m_NN ci → (m_TT ci b).1 = m_RR ci := by decide +kernel
theorem m_lkF_in : ∀ q ∈ m_lkF, q.2.2.1 ≤ 9 ∧ q.2.2.2 < m_NN q.2.2.1 := by decide +kernel
theorem m_lkN_in : ∀ q ∈ m_lkN, q.2.2.1 ≤ 9 ∧ q.2.2.2 < m_NN q.2.2.1 := by decide +kernel
theorem m_lkC_in : ∀ q ∈ m_lkC, q.2.2 ≤ 9 := by decide +kernel
def m_isN : Cond → Bool
  | .fieldLinkNest .. => true
  | .methodLinkNest .. => true
  | _ => false
def m_nest : List Cond := lw_tbl.filter m_isN
def m_tys (aC : FieldType → ClassId) : List (ClassId × FieldType) := [(aC .byte, .byte), (aC .char, .char), (aC .int, .int), (aC .long, .long), (aC .short, .short), (aC .boolean, .boolean)]
def m_slen : List Nat := m_strT.map String.length
def m_sbyt : List (List Int32) := m_strT.map (fun t => t.toList.map (fun ch => Int32.ofNat ch.toNat))
/-- what holds of the machine beside the world: the tables, the private members of nest mates, the script, the String constants -/
def m_Ctx (ad : Nat → Nat) (aC : FieldType → ClassId) (dC : Nat → ClassId) (dI : Nat → Nat → Nat) (base XL : Nat) (XS : Nat → Int32) (U : State) : Prop :=
  va_K (dC, dI) vwCl (m_tys aC) U ∧ (∀ w ∈ m_nest, va_Nw w U) ∧ (va_X (ad 3000000) XL XS U U.heap ∧ ad 3000000 < base) ∧ (∀ i, i < 15 → vk_R RX6 (m_strL.getD i 0) (m_strT.getD i "") (ad (1000000 + i)) U) ∧
  vk_S 15 m_slen m_sbyt (fun i => ad (1000000 + i)) (fun i => ad (2000000 + i)) (fun q => base ≤ q) U U.heap ∧ va_Z "java/lang/String" "COMPACT_STRINGS" "Z" (.int 1) (fun q => base ≤ q) U U.heap ∧ va_Zq "jdk/internal/util/Preconditions" "SIOOBE_FORMATTER" "Ljava/util/function/BiFunction;" (fun q => base ≤ q) U U.heap ∧ base ≤ U.heap.size
theorem m_Ctx.move {ad : Nat → Nat} {aC : FieldType → ClassId} {dC : Nat → ClassId} {dI : Nat → Nat → Nat} {base XL : Nat} {XS : Nat → Int32} {s U : State} (h : m_Ctx ad aC dC dI base XL XS s) (hW : s.WarmedH U.vm) (hq : ∀ q, q < base → U.heap[q]? = s.heap[q]?) (hz : base ≤ U.heap.size) : m_Ctx ad aC dC dI base XL XS U := by
  obtain ⟨h1, h2, ⟨h3, h4⟩, h5, h6, h7, h8, h9⟩ := h
  have hk : ∀ a : Nat, a < s.heap.size → ¬ base ≤ a → U.heap[a]? = s.heap[a]? := fun a _ hn => hq a (by omega)
  refine ⟨va_K.moved hW.alike h1, fun w hw => ?_, ⟨(va_X.moved hW.alike h3).kept (hq _ h4), h4⟩, fun i hi => (h5 i hi).warm hW, (vk_S.moved hW.alike h6).kept hk, (va_Z.moved hW.alike h7).kept hk, (va_Zq.moved hW.alike h8).kept hk, hz⟩
  have hn := (List.mem_filter.mp hw).2
  have := h2 w hw
  cases w <;> first | (cases hn; done) | exact va_Nw.warmF hW this | exact va_Nw.warmM hW this
theorem m_Ctx.call {ad : Nat → Nat} {aC : FieldType → ClassId} {dC : Nat → ClassId} {dI : Nat → Nat → Nat} {base XL : Nat} {XS : Nat → Int32} {U : State} (h : m_Ctx ad aC dC dI base XL XS U) (g : JFrame) (mk : MethodId) (a : Array Value) : m_Ctx ad aC dC dI base XL XS (U.calling g mk a) := by
  obtain ⟨h1, h2, ⟨h3, h4⟩, h5, h6, h7, h8, h9⟩ := h
  have hal : U.vm.Alike (U.calling g mk a).vm := Vm.Alike.refl U.vm
  refine ⟨va_K.moved hal h1, fun w hw => ?_, ⟨va_X.moved hal h3, h4⟩, fun i hi => (h5 i hi).same rfl, vk_S.moved hal h6, va_Z.moved hal h7, va_Zq.moved hal h8, h9⟩
  have hn := (List.mem_filter.mp hw).2
  have := h2 w hw
  cases w <;> first | (cases hn; done) | exact va_Nw.same rfl rfl this
end
section
/-! ===== a step of the small machine is a step of the machine ===== -/
theorem m_nlt {x y : Int32} : ¬ x < y ↔ y ≤ x := by rw [Int32.lt_iff_toInt_lt, Int32.le_iff_toInt_le]; omega
theorem m_nle {x y : Int32} : ¬ x ≤ y ↔ y < x := by rw [Int32.lt_iff_toInt_lt, Int32.le_iff_toInt_le]; omega
theorem m_lsw_ok {x : Int32} {pc a : Nat} {d : Int} {K : Nat → Prop} (hd : (pc : Int) + d = (a : Int)) : ∀ (ps : List (Int × Int)), (ps.all (fun z => decide (0 ≤ (pc : Int) + z.2) && decide ((Int32.ofInt z.1).toInt = z.1)) = true) → m_sw (ps.map (fun z => (Int32.ofInt z.1, ((pc : Int) + z.2).toNat))) a x K → ∃ (off : Int) (tgt : Nat), Op.lookupswitch.offset ps d x.toInt = off ∧ (pc : Int) + off = (tgt : Int) ∧ K tgt
  | [], _, h => ⟨d, a, rfl, hd, h⟩
  | z :: r, hz, h => by
    obtain ⟨k, o⟩ := z
    simp only [List.all_cons, Bool.and_eq_true, decide_eq_true_eq] at hz
    obtain ⟨⟨h1, h2⟩, h3⟩ := hz
    obtain ⟨g1, g2⟩ := h
    by_cases hx : x = Int32.ofInt k
    · refine ⟨o, ((pc : Int) + o).toNat, ?_, by omega, g1 hx⟩
      rw [Op.lookupswitch.offset_cons, if_pos (by rw [hx]; exact h2.symm)]
    · obtain ⟨off, tgt, q1, q2, q3⟩ := m_lsw_ok hd r h3 (g2 hx)
      refine ⟨off, tgt, ?_, q2, q3⟩
      rw [Op.lookupswitch.offset_cons, if_neg]
      · exact q1
      · intro q
        exact hx (Int32.toInt_inj.mp (by rw [h2]; exact q.symm))
theorem m_tsw_ok {x : Int32} {pc a : Nat} {K : Nat → Prop} : ∀ (offs : List Int) (k : Nat), k + offs.length < 2000 → (offs.all (fun z => decide (0 ≤ (pc : Int) + z)) = true) → m_sw (m_tsw pc (k : Int) offs) a x K →
    (∀ j : Nat, j < offs.length → x.toInt = (k : Int) + j → ∃ (off : Int) (tgt : Nat), offs[j]? = some off ∧ (pc : Int) + off = (tgt : Int) ∧ K tgt) ∧ ((x.toInt < (k : Int) ∨ (k : Int) + offs.length ≤ x.toInt) → K a)
  | [], k, hk, _, h => ⟨fun j hj => by simp at hj, fun _ => h⟩
  | o :: r, k, hk, hz, h => by
    simp only [List.all_cons, Bool.and_eq_true, decide_eq_true_eq] at hz
    simp only [List.length_cons] at hk
    obtain ⟨g1, g2⟩ := h
    have hke : (Int32.ofInt (k : Int)).toInt = (k : Int) := by
      have := nI_toInt (n := k) (by omega)
      exact this
    have ih : ¬ x = Int32.ofInt (k : Int) → _ := fun hx => m_tsw_ok r (k + 1) (by omega) hz.2 (by have := g2 hx; rwa [show ((k : Int) + 1) = ((k + 1 : Nat) : Int) by omega] at this)
    refine ⟨fun j hj hx => ?_, fun hx => ?_⟩
    · by_cases hj0 : j = 0
      · subst hj0
        refine ⟨o, ((pc : Int) + o).toNat, rfl, by omega, g1 (Int32.toInt_inj.mp ?_)⟩
        rw [hke, hx]; simp
      · have hne : ¬ x = Int32.ofInt (k : Int) := fun q => by rw [q, hke] at hx; omega
        obtain ⟨off, tgt, q1, q2, q3⟩ := (ih hne).1 (j - 1) (by simp only [List.length_cons] at hj; omega) (by rw [hx]; omega)
        refine ⟨off, tgt, ?_, q2, q3⟩
        rw [show j = (j - 1) + 1 by omega, List.getElem?_cons_succ]
        exact q1
    · have hne : ¬ x = Int32.ofInt (k : Int) := fun q => by rw [q, hke] at hx; simp only [List.length_cons] at hx; omega
      refine (ih hne).2 ?_
      simp only [List.length_cons] at hx
      have hne2 : ¬ x.toInt = (k : Int) := fun q => hne (Int32.toInt_inj.mp (by rw [hke]; exact q))
      omega
section MSIM
variable {p : Program} {l : Launch} {e : Env} {R : Room} {s : State} {m : MethodId} {args : Array Value} {below : List Frame} {meth : Method} {c : Code} {QT : State → Prop}
variable {H : Heap} {locs : List Loc} {cells slots : Nat} {Q : State → Prop}
/-- the heap has no more cells than were counted -/
theorem m_sized {g : JFrame} (h : s.heap.size ≤ H.size → H.size ≤ s.heap.size + cells → W p l e R s m args below meth c H locs cells slots Q g) : W p l e R s m args below meth c H locs cells slots Q g := by
  intro T hT X
  have hs := X.same
  have h2 : s.heap.size ≤ T.heap.size := hs.2.1
  have h3 : T.heap.size ≤ s.heap.size + cells := hs.2.2.1
  rw [hT] at h2 h3
  exact h h2 h3 T hT X
end MSIM
/-- the world at a heap -/
def m_Hp (ad : Nat → Nat) (aC : FieldType → ClassId) (dC : Nat → ClassId) (dI : Nat → Nat → Nat) (w : mW) (H : Heap) : Prop := va_P (dC, dI) vwCl (m_wl ad aC w.2.1 w.2.2 0 w.1) H
/-- a method's start, its end -/
def m_Pc (ad : Nat → Nat) (aC : FieldType → ClassId) (dC : Nat → ClassId) (dI : Nat → Nat → Nat) (base XL : Nat) (XS : Nat → Int32) (as : List Value) (w : mW) : Array Value → State → Prop := fun v U => v = (as.map (m_tr ad)).toArray ∧ m_Ctx ad aC dC dI base XL XS U ∧ m_Hp ad aC dC dI w U.heap ∧ U.heap.size = base + w.1.length ∧ w.1.length ≤ 1000
def m_Qc (ad : Nat → Nat) (aC : FieldType → ClassId) (dC : Nat → ClassId) (dI : Nat → Nat → Nat) (base : Nat) (K : mK) (n : Nat) : Array Value → State → Outcome → State → Prop := fun _ st oc t => ∃ (r : Option Value) (w : mW), K r w ∧ oc = .returned (r.map (m_tr ad)) ∧ m_Hp ad aC dC dI w t.heap ∧ w.1.length = n ∧ w.1.length ≤ 1000 ∧ ∀ q, q < base → t.heap[q]? = st.heap[q]?
def m_rm (d id : Nat) : Room := { frames := d, cells := (m_cost id).1, slots := (m_cost id).2, locals := 64 * d }
def m_Met (l : Launch) (ad : Nat → Nat) (aC : FieldType → ClassId) (dC : Nat → ClassId) (dI : Nat → Nat → Nat) (base XL : Nat) (XS : Nat → Int32) (d id : Nat) (as : List Value) (w : mW) (K : mK) : Prop :=
  ∀ M : mM, m_nth m_tab id = some M → Met l M.1 (Cond.code M.1 M.2.1 M.2.2.1 M.2.2.2.1 :: m_ws) (m_rm d id) (m_Pc ad aC dC dI base XL XS as w) (m_Qc ad aC dC dI base K (w.1.length + (m_cost id).1)) (m_cost id).1 (m_cost id).2 (fun q => base ≤ q)
/-- all that a method's walk stands on -/
def m_Cx (p : Program) (R : Room) (s : State) (m : MethodId) (args : Array Value) (c : Code) (cc : ByteArray) (nL oi : Nat) (ad : Nat → Nat) (aC : FieldType → ClassId) (dC : Nat → ClassId) (dI : Nat → Nat → Nat) (base XL : Nat) (XS : Nat → Int32) (d : Nat) : Prop :=
  p.tables.exec = Jvm.exec ∧ c.code = cc ∧ c.maxLocals = nL ∧ s.vm.findClass (m_RR oi) = some m.cls ∧ (∀ w ∈ m_ws, w.before args s = true) ∧ m_Ctx ad aC dC dI base XL XS s ∧ (∀ k, k < 1000000 → ad k = base + k) ∧ d + 1 ≤ R.frames ∧ 64 * d + 64 ≤ R.locals
def m_PW (p : Program) (l : Launch) (e : Env) (R : Room) (s : State) (m : MethodId) (args : Array Value) (below : List Frame) (meth : Method) (c : Code) (QT : State → Prop) (nL : Nat) (ad : Nat → Nat) (aC : FieldType → ClassId) (dC : Nat → ClassId) (dI : Nat → Nat → Nat) (base : Nat) : mT → Prop
  | (pc, lo, st, (sh, I, L), ce, sl) => ∀ (H : Heap) (locs : List Loc) (ls : Array Slot), va_P (dC, dI) vwCl (m_wl ad aC I L 0 sh) H → s.heap.size + ce = base + sh.length → sh.length ≤ 1000 → va_S (fun q => base ≤ q) s.heap H locs → m_lh ad ls nL lo → W p l e R s m args below meth c H locs ce sl QT (F0 m pc ls (st.map (m_tr ad)))
theorem m_okI_of {oi : Nat} {cc : ByteArray} {cd : mL} (h : m_okC oi cc cd = true) {pc : Nat} {q : mI} (hq : m_at cd pc = some q) : q.1 = pc ∧ decode cc q.1 = .ok (q.2.1, m_len q.2.1 (q.2.2.1 - q.1)) ∧ q.2.2.1 = q.1 + m_len q.2.1 (q.2.2.1 - q.1) ∧ m_okX oi q = true := by
  obtain ⟨⟨ch, h1, h2⟩, h3⟩ := m_at_mem cd pc q hq
  have h4 := List.all_eq_true.mp h ch h1
  have h5 := List.all_eq_true.mp h4 q h2
  simp only [m_okI, Bool.and_eq_true, decide_eq_true_eq] at h5
  exact ⟨h3, h5.1, Nat.eq_of_beq_eq_true h5.2.1, h5.2.2⟩
def m_grp : Instr → Nat
  | .ldc _ => 1 | .getfield _ => 1 | .putfield _ => 1 | .arraylength => 1 | .iaload => 1 | .baload => 1 | .caload => 1 | .saload => 1 | .laload => 1 | .iastore => 1 | .bastore => 1 | .castore => 1 | .sastore => 1 | .lastore => 1
  | .invokevirtual _ => 2 | .invokestatic _ => 2 | .invokespecial _ => 2 | .new _ => 2 | .newarray _ => 2
  | .ireturn => 3 | .lreturn => 3 | .return_ => 3
  | _ => 0
theorem m_and {a b : Bool} (h : (a && b) = true) : a = true ∧ b = true := by simpa using h
set_option maxHeartbeats 4000000 in
theorem m_step_stack {p : Program} {l : Launch} {e : Env} {R : Room} {s : State} {m : MethodId} {args : Array Value} {below : List Frame} {meth : Method} {c : Code} {QT : State → Prop} {ad : Nat → Nat} {aC : FieldType → ClassId} {dC : Nat → ClassId} {dI : Nat → Nat → Nat} {base XL nL oi d : Nat} {XS : Nat → Int32} {cc : ByteArray}
    (Cx : m_Cx p R s m args c cc nL oi ad aC dC dI base XL XS d) {C : mC} {rt : Option FieldType} {kd mc ms : Nat} {QM : mK} {pc nx a b : Nat} {i : Instr} {v : Value} {sw : List (Int32 × Nat)} {lo : List (Option Value)} {st : List Value} {sh : List mS} {I : Nat → Nat → Int32} {L : Nat → Nat → Int64} {ce sl : Nat}
    (hd : decode cc pc = .ok (i, m_len i (nx - pc))) (hnx : nx = pc + m_len i (nx - pc)) (hX : m_okX oi (pc, i, nx, a, b, v, sw) = true)
    (hF : m_G XL XS C rt kd mc ms QM (m_PW p l e R s m args below meth c QT nL ad aC dC dI base) i nx a b v sw lo st sh I L ce sl)
    (hcase : m_grp i = 0) :
    m_PW p l e R s m args below meth c QT nL ad aC dC dI base (pc, lo, st, (sh, I, L), ce, sl) := by
  obtain ⟨hx, hb, hml, hown, hts, hctx, had, hRf, hRl⟩ := Cx
  intro H locs ls hP hsz hlen hS hl
  cases i with
  | iconst n =>
    have hd : decode cc pc = .ok (.iconst n, 1) := hd
    have hnx : nx = pc + 1 := hnx
    subst hnx
    have hv := of_decide_eq_true hX
    subst hv
    exact lv_iconst hx hb hd rfl (hF H locs ls hP hsz hlen hS hl)
  | bipush n =>
    have hd : decode cc pc = .ok (.bipush n, 2) := hd
    have hnx : nx = pc + 2 := hnx
    subst hnx
    have hv := of_decide_eq_true hX
    subst hv
    exact lv_bipush hx hb hd rfl (hF H locs ls hP hsz hlen hS hl)
  | sipush n =>
    have hd : decode cc pc = .ok (.sipush n, 3) := hd
    have hnx : nx = pc + 3 := hnx
    subst hnx
    have hv := of_decide_eq_true hX
    subst hv
    exact lv_sipush hx hb hd rfl (hF H locs ls hP hsz hlen hS hl)
  | lconst n =>
    have hd : decode cc pc = .ok (.lconst n, 1) := hd
    have hnx : nx = pc + 1 := hnx
    subst hnx
    have hv := of_decide_eq_true hX
    subst hv
    exact lv_lconst hx hb hd rfl (hF H locs ls hP hsz hlen hS hl)
  | ldc2_w n =>
    have hd : decode cc pc = .ok (.ldc2_w n, 3) := hd
    have hnx : nx = pc + 3 := hnx
    subst hnx
    cases v with
    | long x =>
      have hm : (oi, n, x) ∈ m_lkK := of_decide_eq_true hX
      exact lv_ldc2 hx hb hown (hts _ (m_lkK_ok _ hm)) hd (hF H locs ls hP hsz hlen hS hl)
    | _ => cases hX
  | iload_n n =>
    have hd : decode cc pc = .ok (.iload_n n, 1) := hd
    have hnx : nx = pc + 1 := hnx
    subst hnx
    have hn : a = n.val := Nat.eq_of_beq_eq_true hX
    subst hn
    simp only [m_G] at hF
    split at hF
    · rename_i x hlo
      exact lv_iload_n hx hb hd rfl (m_lh_at hl hlo) (hF H locs ls hP hsz hlen hS hl)
    · exact hF.elim
  | iload n =>
    have hd : decode cc pc = .ok (.iload n, 2) := hd
    have hnx : nx = pc + 2 := hnx
    subst hnx
    have hn : a = n := Nat.eq_of_beq_eq_true hX
    subst hn
    simp only [m_G] at hF
    split at hF
    · rename_i x hlo
      exact lv_iload hx hb hd (m_lh_at hl hlo) (hF H locs ls hP hsz hlen hS hl)
    · exact hF.elim
  | lload_n n =>
    have hd : decode cc pc = .ok (.lload_n n, 1) := hd
    have hnx : nx = pc + 1 := hnx
    subst hnx
    have hn : a = n.val := Nat.eq_of_beq_eq_true hX
    subst hn
    simp only [m_G] at hF
    split at hF
    · rename_i x hlo
      exact lv_lload_n hx hb hd rfl (m_lh_at hl hlo) (hF H locs ls hP hsz hlen hS hl)
    · exact hF.elim
  | lload n =>
    have hd : decode cc pc = .ok (.lload n, 2) := hd
    have hnx : nx = pc + 2 := hnx
    subst hnx
    have hn : a = n := Nat.eq_of_beq_eq_true hX
    subst hn
    simp only [m_G] at hF
    split at hF
    · rename_i x hlo
      exact lv_lload hx hb hd (m_lh_at hl hlo) (hF H locs ls hP hsz hlen hS hl)
    · exact hF.elim
  | aload_n n =>
    have hd : decode cc pc = .ok (.aload_n n, 1) := hd
    have hnx : nx = pc + 1 := hnx
    subst hnx
    have hn : a = n.val := Nat.eq_of_beq_eq_true hX
    subst hn
    simp only [m_G] at hF
    split at hF
    · rename_i x hlo
      exact lv_aload_n hx hb hd rfl (m_lh_at hl hlo) (hF H locs ls hP hsz hlen hS hl)
    · exact hF.elim
  | aload n =>
    have hd : decode cc pc = .ok (.aload n, 2) := hd
    have hnx : nx = pc + 2 := hnx
    subst hnx
    have hn : a = n := Nat.eq_of_beq_eq_true hX
    subst hn
    simp only [m_G] at hF
    split at hF
    · rename_i x hlo
      exact lv_aload hx hb hd (m_lh_at hl hlo) (hF H locs ls hP hsz hlen hS hl)
    · exact hF.elim
  | istore_n n =>
    have hd : decode cc pc = .ok (.istore_n n, 1) := hd
    have hnx : nx = pc + 1 := hnx
    subst hnx
    have hn : a = n.val := Nat.eq_of_beq_eq_true hX
    subst hn
    simp only [m_G] at hF
    split at hF
    · rename_i x r
      split at hF
      · rename_i hlt
        have hlt : n.val < lo.length := Nat.le_of_ble_eq_true hlt
        exact lv_istore_n (lv := m_al ad 0 lo) hx hb hd rfl hl.1 (by rw [← hl.2]; exact hlt) rfl (fun ls' hl' => hF H locs ls' hP hsz hlen hS (m_lh_sto1 (v := .int x) hl.2 rfl hl'))
      · exact hF.elim
    · exact hF.elim
  | istore n =>
    have hd : decode cc pc = .ok (.istore n, 2) := hd
    have hnx : nx = pc + 2 := hnx
    subst hnx
    have hn : a = n := Nat.eq_of_beq_eq_true hX
    subst hn
    simp only [m_G] at hF
    split at hF
    · rename_i x r
      split at hF
      · rename_i hlt
        have hlt : a < lo.length := Nat.le_of_ble_eq_true hlt
        exact lv_istore (lv := m_al ad 0 lo) hx hb hd hl.1 (by rw [← hl.2]; exact hlt) rfl (fun ls' hl' => hF H locs ls' hP hsz hlen hS (m_lh_sto1 (v := .int x) hl.2 rfl hl'))
      · exact hF.elim
    · exact hF.elim
  | lstore_n n =>
    have hd : decode cc pc = .ok (.lstore_n n, 1) := hd
    have hnx : nx = pc + 1 := hnx
    subst hnx
    have hn : a = n.val := Nat.eq_of_beq_eq_true hX
    subst hn
    simp only [m_G] at hF
    split at hF
    · rename_i x r
      split at hF
      · rename_i hlt
        have hlt : n.val + 1 < lo.length := Nat.le_of_ble_eq_true hlt
        exact lv_lstore_n (lv := m_al ad 0 lo) hx hb hd rfl hl.1 (by rw [← hl.2]; exact hlt) rfl (fun ls' hl' => hF H locs ls' hP hsz hlen hS (m_lh_sto2 (v := .long x) hl.2 (by rw [← hl.2]; exact hlt) hl'))
      · exact hF.elim
    · exact hF.elim
  | lstore n =>
    have hd : decode cc pc = .ok (.lstore n, 2) := hd
    have hnx : nx = pc + 2 := hnx
    subst hnx
    have hn : a = n := Nat.eq_of_beq_eq_true hX
    subst hn
    simp only [m_G] at hF
    split at hF
    · rename_i x r
      split at hF
      · rename_i hlt
        have hlt : a + 1 < lo.length := Nat.le_of_ble_eq_true hlt
        exact lv_lstore (lv := m_al ad 0 lo) hx hb hd hl.1 (by rw [← hl.2]; exact hlt) rfl (fun ls' hl' => hF H locs ls' hP hsz hlen hS (m_lh_sto2 (v := .long x) hl.2 (by rw [← hl.2]; exact hlt) hl'))
      · exact hF.elim
    · exact hF.elim
  | astore_n n =>
    have hd : decode cc pc = .ok (.astore_n n, 1) := hd
    have hnx : nx = pc + 1 := hnx
    subst hnx
    have hn : a = n.val := Nat.eq_of_beq_eq_true hX
    subst hn
    simp only [m_G] at hF
    split at hF
    · rename_i x r
      split at hF
      · rename_i hlt
        have hlt : n.val < lo.length := Nat.le_of_ble_eq_true hlt
        exact lv_astore_n (lv := m_al ad 0 lo) hx hb hd rfl hl.1 (by rw [← hl.2]; exact hlt) rfl (fun ls' hl' => hF H locs ls' hP hsz hlen hS (m_lh_sto1 (v := .ref x) hl.2 rfl hl'))
      · exact hF.elim
    · exact hF.elim
  | iinc n dd =>
    have hd : decode cc pc = .ok (.iinc n dd, 3) := hd
    have hnx : nx = pc + 3 := hnx
    subst hnx
    obtain ⟨hX1, hX2⟩ := m_and hX
    have hn : a = n := Nat.eq_of_beq_eq_true hX1
    subst hn
    have hv := of_decide_eq_true hX2
    subst hv
    simp only [m_G] at hF
    split at hF
    · rename_i x d' hlo hv'
      cases hv'
      split at hF
      · rename_i hlt
        have hlt : a < lo.length := Nat.le_of_ble_eq_true hlt
        rw [m_nth_eq] at hlo
        have hmem := m_al_in ad lo 0 a _ hlo
        rw [Nat.zero_add] at hmem
        obtain ⟨kk, hkk⟩ := List.getElem?_of_mem hmem
        exact lv_iinc (lv := m_al ad 0 lo) (k := kk) (x := x) hx hb hd hl.1 hkk rfl (by rw [← hl.2]; exact hlt) rfl (fun ls' hl' => hF H locs ls' hP hsz hlen hS (m_lh_sto1 (v := .int (x + Int32.ofInt dd)) hl.2 rfl hl'))
      · exact hF.elim
    · exact hF.elim
  | iadd =>
    have hd : decode cc pc = .ok (.iadd, 1) := hd
    have hnx : nx = pc + 1 := hnx
    subst hnx
    simp only [m_G] at hF
    split at hF
    · exact lv_iadd hx hb hd (hF H locs ls hP hsz hlen hS hl)
    · exact hF.elim
  | isub =>
    have hd : decode cc pc = .ok (.isub, 1) := hd
    have hnx : nx = pc + 1 := hnx
    subst hnx
    simp only [m_G] at hF
    split at hF
    · exact lv_isub hx hb hd (hF H locs ls hP hsz hlen hS hl)
    · exact hF.elim
  | imul =>
    have hd : decode cc pc = .ok (.imul, 1) := hd
    have hnx : nx = pc + 1 := hnx
    subst hnx
    simp only [m_G] at hF
    split at hF
    · exact lv_imul hx hb hd (hF H locs ls hP hsz hlen hS hl)
    · exact hF.elim
  | iand =>
    have hd : decode cc pc = .ok (.iand, 1) := hd
    have hnx : nx = pc + 1 := hnx
    subst hnx
    simp only [m_G] at hF
    split at hF
    · exact lv_iand hx hb hd (hF H locs ls hP hsz hlen hS hl)
    · exact hF.elim
  | ior =>
    have hd : decode cc pc = .ok (.ior, 1) := hd
    have hnx : nx = pc + 1 := hnx
    subst hnx
    simp only [m_G] at hF
    split at hF
    · exact lv_ior hx hb hd (hF H locs ls hP hsz hlen hS hl)
    · exact hF.elim
  | ixor =>
    have hd : decode cc pc = .ok (.ixor, 1) := hd
    have hnx : nx = pc + 1 := hnx
    subst hnx
    simp only [m_G] at hF
    split at hF
    · exact lv_ixor hx hb hd (hF H locs ls hP hsz hlen hS hl)
    · exact hF.elim
  | ishl =>
    have hd : decode cc pc = .ok (.ishl, 1) := hd
    have hnx : nx = pc + 1 := hnx
    subst hnx
    simp only [m_G] at hF
    split at hF
    · exact lv_ishl hx hb hd (hF H locs ls hP hsz hlen hS hl)
    · exact hF.elim
  | ishr =>
    have hd : decode cc pc = .ok (.ishr, 1) := hd
    have hnx : nx = pc + 1 := hnx
    subst hnx
    simp only [m_G] at hF
    split at hF
    · exact lv_ishr hx hb hd (hF H locs ls hP hsz hlen hS hl)
    · exact hF.elim
  | iushr =>
    have hd : decode cc pc = .ok (.iushr, 1) := hd
    have hnx : nx = pc + 1 := hnx
    subst hnx
    simp only [m_G] at hF
    split at hF
    · exact lv_iushr hx hb hd rfl (hF H locs ls hP hsz hlen hS hl)
    · exact hF.elim
  | ladd =>
    have hd : decode cc pc = .ok (.ladd, 1) := hd
    have hnx : nx = pc + 1 := hnx
    subst hnx
    simp only [m_G] at hF
    split at hF
    · exact lv_ladd hx hb hd (hF H locs ls hP hsz hlen hS hl)
    · exact hF.elim
  | lsub =>
    have hd : decode cc pc = .ok (.lsub, 1) := hd
    have hnx : nx = pc + 1 := hnx
    subst hnx
    simp only [m_G] at hF
    split at hF
    · exact lv_lsub hx hb hd (hF H locs ls hP hsz hlen hS hl)
    · exact hF.elim
  | lmul =>
    have hd : decode cc pc = .ok (.lmul, 1) := hd
    have hnx : nx = pc + 1 := hnx
    subst hnx
    simp only [m_G] at hF
    split at hF
    · exact lv_lmul hx hb hd (hF H locs ls hP hsz hlen hS hl)
    · exact hF.elim
  | land =>
    have hd : decode cc pc = .ok (.land, 1) := hd
    have hnx : nx = pc + 1 := hnx
    subst hnx
    simp only [m_G] at hF
    split at hF
    · exact lv_land hx hb hd (hF H locs ls hP hsz hlen hS hl)
    · exact hF.elim
  | lor =>
    have hd : decode cc pc = .ok (.lor, 1) := hd
    have hnx : nx = pc + 1 := hnx
    subst hnx
    simp only [m_G] at hF
    split at hF
    · exact lv_lor hx hb hd (hF H locs ls hP hsz hlen hS hl)
    · exact hF.elim
  | lshl =>
    have hd : decode cc pc = .ok (.lshl, 1) := hd
    have hnx : nx = pc + 1 := hnx
    subst hnx
    simp only [m_G] at hF
    split at hF
    · exact lv_lshl hx hb hd rfl (hF H locs ls hP hsz hlen hS hl)
    · exact hF.elim
  | lushr =>
    have hd : decode cc pc = .ok (.lushr, 1) := hd
    have hnx : nx = pc + 1 := hnx
    subst hnx
    simp only [m_G] at hF
    split at hF
    · exact lv_lushr hx hb hd rfl (hF H locs ls hP hsz hlen hS hl)
    · exact hF.elim
  | lcmp =>
    have hd : decode cc pc = .ok (.lcmp, 1) := hd
    have hnx : nx = pc + 1 := hnx
    subst hnx
    simp only [m_G] at hF
    split at hF
    · exact W.lcmp hx hb hd (hF H locs ls hP hsz hlen hS hl)
    · exact hF.elim
  | ineg =>
    have hd : decode cc pc = .ok (.ineg, 1) := hd
    have hnx : nx = pc + 1 := hnx
    subst hnx
    simp only [m_G] at hF
    split at hF
    · exact lv_ineg hx hb hd (hF H locs ls hP hsz hlen hS hl)
    · exact hF.elim
  | lneg =>
    have hd : decode cc pc = .ok (.lneg, 1) := hd
    have hnx : nx = pc + 1 := hnx
    subst hnx
    simp only [m_G] at hF
    split at hF
    · exact lv_lneg hx hb hd (hF H locs ls hP hsz hlen hS hl)
    · exact hF.elim
  | i2l =>
    have hd : decode cc pc = .ok (.i2l, 1) := hd
    have hnx : nx = pc + 1 := hnx
    subst hnx
    simp only [m_G] at hF
    split at hF
    · exact lv_i2l hx hb hd rfl (hF H locs ls hP hsz hlen hS hl)
    · exact hF.elim
  | l2i =>
    have hd : decode cc pc = .ok (.l2i, 1) := hd
    have hnx : nx = pc + 1 := hnx
    subst hnx
    simp only [m_G] at hF
    split at hF
    · exact lv_l2i hx hb hd rfl (hF H locs ls hP hsz hlen hS hl)
    · exact hF.elim
  | i2b =>
    have hd : decode cc pc = .ok (.i2b, 1) := hd
    have hnx : nx = pc + 1 := hnx
    subst hnx
    simp only [m_G] at hF
    split at hF
    · exact lv_i2b hx hb hd rfl (hF H locs ls hP hsz hlen hS hl)
    · exact hF.elim
  | i2s =>
    have hd : decode cc pc = .ok (.i2s, 1) := hd
    have hnx : nx = pc + 1 := hnx
    subst hnx
    simp only [m_G] at hF
    split at hF
    · exact lv_i2s hx hb hd rfl (hF H locs ls hP hsz hlen hS hl)
    · exact hF.elim
  | i2c =>
    have hd : decode cc pc = .ok (.i2c, 1) := hd
    have hnx : nx = pc + 1 := hnx
    subst hnx
    simp only [m_G] at hF
    split at hF
    · exact lv_i2c hx hb hd rfl (hF H locs ls hP hsz hlen hS hl)
    · exact hF.elim
  | dup =>
    have hd : decode cc pc = .ok (.dup, 1) := hd
    have hnx : nx = pc + 1 := hnx
    subst hnx
    simp only [m_G] at hF
    split at hF
    · split at hF
      · exact hF.elim
      · rename_i hc
        exact lv_dup hx hb hd (by rw [m_tr_cat, m_c2_cat, hc]; rfl) (hF H locs ls hP hsz hlen hS hl)
    · exact hF.elim
  | pop =>
    have hd : decode cc pc = .ok (.pop, 1) := hd
    have hnx : nx = pc + 1 := hnx
    subst hnx
    simp only [m_G] at hF
    split at hF
    · split at hF
      · exact hF.elim
      · rename_i hc
        exact lv_pop hx hb hd (by rw [m_tr_cat, m_c2_cat, hc]; rfl) (hF H locs ls hP hsz hlen hS hl)
    · exact hF.elim
  | dup2 =>
    have hd : decode cc pc = .ok (.dup2, 1) := hd
    have hnx : nx = pc + 1 := hnx
    subst hnx
    simp only [m_G] at hF
    split at hF
    · split at hF
      · exact hF.elim
      · rename_i hc
        split at hF
        · exact hF.elim
        · rename_i hc2
          exact lv_dup2_11 hx hb hd (by rw [m_tr_cat, m_c2_cat, hc]; rfl) (by rw [m_tr_cat, m_c2_cat, hc2]; rfl) (hF H locs ls hP hsz hlen hS hl)
    · exact hF.elim
  | ifCond cond off =>
    have hd : decode cc pc = .ok (.ifCond cond off, 3) := hd
    have hnx : nx = pc + 3 := hnx
    subst hnx
    have ht := of_decide_eq_true hX
    simp only [m_G] at hF
    split at hF
    · cases cond with
      | eq => exact lv_if_eq hx hb hd ht (fun h => hF.1 h H locs ls hP hsz hlen hS hl) (fun h => hF.2 h H locs ls hP hsz hlen hS hl)
      | ne => exact lv_if_ne hx hb hd ht (fun h => hF.2 h H locs ls hP hsz hlen hS hl) (fun h => hF.1 h H locs ls hP hsz hlen hS hl)
      | lt => exact lv_if_lt hx hb hd ht (fun h => hF.1 h H locs ls hP hsz hlen hS hl) (fun h => hF.2 h H locs ls hP hsz hlen hS hl)
      | ge => exact lv_if_ge hx hb hd ht (fun h => hF.2 (m_nlt.mpr h) H locs ls hP hsz hlen hS hl) (fun h => hF.1 (m_nle.mp h) H locs ls hP hsz hlen hS hl)
      | gt => exact lv_if_gt hx hb hd ht (fun h => hF.1 h H locs ls hP hsz hlen hS hl) (fun h => hF.2 h H locs ls hP hsz hlen hS hl)
      | le => exact lv_if_le hx hb hd ht (fun h => hF.2 (m_nlt.mpr h) H locs ls hP hsz hlen hS hl) (fun h => hF.1 (m_nle.mp h) H locs ls hP hsz hlen hS hl)
    · exact hF.elim
  | if_icmp cond off =>
    have hd : decode cc pc = .ok (.if_icmp cond off, 3) := hd
    have hnx : nx = pc + 3 := hnx
    subst hnx
    have ht := of_decide_eq_true hX
    simp only [m_G] at hF
    split at hF
    · cases cond with
      | eq => exact lv_icmp_eq hx hb hd ht (fun h => hF.1 h H locs ls hP hsz hlen hS hl) (fun h => hF.2 h H locs ls hP hsz hlen hS hl)
      | ne => exact lv_icmp_ne hx hb hd ht (fun h => hF.2 h H locs ls hP hsz hlen hS hl) (fun h => hF.1 h H locs ls hP hsz hlen hS hl)
      | lt => exact lv_icmp_lt hx hb hd ht (fun h => hF.1 h H locs ls hP hsz hlen hS hl) (fun h => hF.2 h H locs ls hP hsz hlen hS hl)
      | ge => exact lv_icmp_ge hx hb hd ht (fun h => hF.2 (m_nlt.mpr h) H locs ls hP hsz hlen hS hl) (fun h => hF.1 (m_nle.mp h) H locs ls hP hsz hlen hS hl)
      | gt => exact lv_icmp_gt hx hb hd ht (fun h => hF.1 h H locs ls hP hsz hlen hS hl) (fun h => hF.2 h H locs ls hP hsz hlen hS hl)
      | le => exact lv_icmp_le hx hb hd ht (fun h => hF.2 (m_nlt.mpr h) H locs ls hP hsz hlen hS hl) (fun h => hF.1 (m_nle.mp h) H locs ls hP hsz hlen hS hl)
    · exact hF.elim
  | goto off =>
    have hd : decode cc pc = .ok (.goto off, 3) := hd
    have ht := of_decide_eq_true hX
    exact lv_goto hx hb hd ht (hF H locs ls hP hsz hlen hS hl)
  | lookupswitch dd ps =>
    have hd : decode cc pc = .ok (.lookupswitch dd ps, nx - pc) := hd
    obtain ⟨hA1, hB1⟩ := m_and hX
    obtain ⟨hA2, hB2⟩ := m_and hB1
    obtain ⟨hA3, hA4⟩ := m_and hB2
    have ht := of_decide_eq_true hA1
    have hs := of_decide_eq_true hA2
    subst hs
    simp only [m_G] at hF
    split at hF
    · obtain ⟨off, tgt, q1, q2, q3⟩ := m_lsw_ok ht ps.toList hA3 hF
      exact lv_lookup hx hb hd hA4 q1 q2 (q3 H locs ls hP hsz hlen hS hl)
    · exact hF.elim
  | tableswitch dd lo' hi offs =>
    have hd : decode cc pc = .ok (.tableswitch dd lo' hi offs, nx - pc) := hd
    obtain ⟨hA1, hB1⟩ := m_and hX
    obtain ⟨hA2, hB2⟩ := m_and hB1
    obtain ⟨hA3, hB3⟩ := m_and hB2
    obtain ⟨hA4, hB4⟩ := m_and hB3
    obtain ⟨hA5, hA6⟩ := m_and hB4
    have ht := of_decide_eq_true hA1
    have hs := of_decide_eq_true hA2
    have hlo := of_decide_eq_true hA4
    have hhi := of_decide_eq_true hA5
    have hsm := of_decide_eq_true hA6
    subst hs
    subst hlo
    simp only [m_G] at hF
    split at hF
    · rename_i x r
      have hsz2 : offs.toList.length = offs.size := Array.length_toList
      have key := m_tsw_ok (x := x) (pc := pc) (a := a) offs.toList 0 (by omega) hA3 hF
      by_cases hr : x.toInt < 0 ∨ hi < x.toInt
      · exact lv_tableOut hx hb hd hr ht (key.2 (by rw [hsz2]; omega) H locs ls hP hsz hlen hS hl)
      · obtain ⟨off, tgt, q1, q2, q3⟩ := key.1 x.toInt.toNat (by rw [hsz2]; omega) (by omega)
        refine lv_tableIn hx hb hd (by omega) (by omega) (off := off) ?_ q2 (q3 H locs ls hP hsz hlen hS hl)
        rw [show (x.toInt - 0).toNat = x.toInt.toNat by omega, ← Array.getElem?_toList]
        exact q1
    · exact hF.elim
  | _ => first | (exact (show False from hF).elim) | (simp [m_grp] at hcase)
end
section
/-! ===== the steps that touch the world ===== -/
theorem m_tys_of (aC : FieldType → ClassId) (ty : FieldType) (h : m_t6 ty = true) : ∃ t0 : Nat, (m_tys aC)[t0]? = some (aC ty, ty) := by
  cases ty with
  | byte => exact ⟨0, rfl⟩
  | char => exact ⟨1, rfl⟩
  | int => exact ⟨2, rfl⟩
  | long => exact ⟨3, rfl⟩
  | short => exact ⟨4, rfl⟩
  | boolean => exact ⟨5, rfl⟩
  | _ => cases h
theorem m_lkN_ne : ∀ q ∈ m_lkN, q.1 ≠ q.2.2.1 := by decide +kernel
theorem m_beq {a b : Nat} (h : Nat.beq a b = true) : a = b := Nat.eq_of_beq_eq_true h
theorem m_sh {ad : Nat → Nat} {aC : FieldType → ClassId} {I : Nat → Nat → Int32} {L : Nat → Nat → Int64} {sh : List mS} {k : Nat} {e : mS} (h : m_nth sh k = some e) : (m_wl ad aC I L 0 sh)[k]? = some (ad k, m_ve ad aC I L k e) := by
  rw [m_nth_eq] at h
  rw [m_wl_get, h]
  simp
theorem m_shlt {sh : List mS} {k : Nat} {e : mS} (h : m_nth sh k = some e) : k < sh.length := by
  rw [m_nth_eq] at h
  exact (List.getElem?_eq_some_iff.mp h).1
set_option maxHeartbeats 4000000 in
theorem m_step_mem {p : Program} {l : Launch} {e : Env} {R : Room} {s : State} {m : MethodId} {args : Array Value} {below : List Frame} {meth : Method} {c : Code} {QT : State → Prop} {ad : Nat → Nat} {aC : FieldType → ClassId} {dC : Nat → ClassId} {dI : Nat → Nat → Nat} {base XL nL oi d : Nat} {XS : Nat → Int32} {cc : ByteArray}
    (Cx : m_Cx p R s m args c cc nL oi ad aC dC dI base XL XS d) {C : mC} {rt : Option FieldType} {kd mc ms : Nat} {QM : mK} {pc nx a b : Nat} {i : Instr} {v : Value} {sw : List (Int32 × Nat)} {lo : List (Option Value)} {st : List Value} {sh : List mS} {I : Nat → Nat → Int32} {L : Nat → Nat → Int64} {ce sl : Nat}
    (hin : ∀ x, kd = 100 + x → meth.name = "<init>" ∧ x = oi)
    (hd : decode cc pc = .ok (i, m_len i (nx - pc))) (hnx : nx = pc + m_len i (nx - pc)) (hX : m_okX oi (pc, i, nx, a, b, v, sw) = true)
    (hF : m_G XL XS C rt kd mc ms QM (m_PW p l e R s m args below meth c QT nL ad aC dC dI base) i nx a b v sw lo st sh I L ce sl)
    (hcase : m_grp i = 1) :
    m_PW p l e R s m args below meth c QT nL ad aC dC dI base (pc, lo, st, (sh, I, L), ce, sl) := by
  obtain ⟨hx, hb, hml, hown, hts, hctx, had, hRf, hRl⟩ := Cx
  obtain ⟨hK, hNe, ⟨hXs, hXb⟩, hStr, -, -, -, hbs⟩ := id hctx
  intro H locs ls hP hsz hlen hS hl
  have hD := m_wl_D (ad := ad) (aC := aC) (I := I) (L := L) had hlen
  have hbl : ad 3000000 < s.heap.size := Nat.lt_of_lt_of_le hXb hbs
  have hbA : ¬ base ≤ ad 3000000 := by omega
  cases i with
  | ldc n =>
    have hd : decode cc pc = .ok (.ldc n, 2) := hd
    have hnx : nx = pc + 2 := hnx
    subst hnx
    cases v with
    | ref k =>
      obtain ⟨hX1, hX2⟩ := m_and hX
      obtain ⟨hX2, hX3⟩ := m_and hX2
      obtain ⟨hX3, hX4⟩ := m_and hX3
      obtain ⟨k', rfl⟩ : ∃ k' : Nat, k' = k := ⟨k, rfl⟩
      have h1 : 1000000 ≤ k' := Nat.le_of_ble_eq_true hX1
      have h2 : k' < 1000015 := Nat.le_of_ble_eq_true hX2
      have h3 := of_decide_eq_true hX3
      have h4 : oi = 6 := m_beq hX4
      subst h4
      have hZ := hStr (k' - 1000000) (by omega)
      rw [h3, show 1000000 + (k' - 1000000) = k' by omega] at hZ
      exact va_ldcS hx hb (own := RX6) hown hZ hd (hF H locs ls hP hsz hlen hS hl)
    | _ => cases hX
  | getfield n =>
    have hd : decode cc pc = .ok (.getfield n, 3) := hd
    have hnx : nx = pc + 3 := hnx
    subst hnx
    simp only [m_G] at hF
    split at hF
    · rename_i k r
      split at hF
      · rename_i ci fs hk
        split at hF
        · rename_i hci
          have hci := m_beq hci
          subst hci
          split at hF
          · rename_i f hf
            have he := m_sh (ad := ad) (aC := aC) (I := I) (L := L) hk
            rw [m_nth_eq] at hf
            have hv : (m_fs ad I L ci k 0 fs)[b]? = some (m_tr ad (m_fv I L ci k b f)) := by rw [m_fs_get, hf]; simp
            rcases (Bool.or_eq_true _ _).mp hX with h | h
            · have h := of_decide_eq_true h
              obtain ⟨hc9, hbN⟩ := m_lkF_in _ h
              exact va_get (D := (dC, dI)) (Ts := m_ws) hx hb hts (m_lay ci hc9) hown hK hP k he (m_cl ci hc9) b hbN (hts _ (m_lkF_ok _ h)) (fun _ h9 => h9) hv hd (hF H locs ls hP hsz hlen hS hl)
            · have h := of_decide_eq_true h
              obtain ⟨hc9, hbN⟩ := m_lkN_in _ h
              exact va_getN (D := (dC, dI)) (Ts := m_ws) (host := RX8) hx hb hts (m_lay ci hc9) hown hK hP k he (m_cl ci hc9) b hbN (va_Nw.use rfl (hNe _ (List.mem_filter.mpr ⟨m_lkN_ok _ h, rfl⟩))) (fun _ h9 => h9) hv hd (hF H locs ls hP hsz hlen hS hl)
          · exact hF.elim
        · exact hF.elim
      · exact hF.elim
    · exact hF.elim
  | putfield n =>
    have hd : decode cc pc = .ok (.putfield n, 3) := hd
    have hnx : nx = pc + 3 := hnx
    subst hnx
    simp only [m_G] at hF
    split at hF
    · rename_i u k r
      split at hF
      · rename_i ci fs hk
        split at hF
        · rename_i hci
          have hci := m_beq hci
          subst hci
          have he := m_sh (ad := ad) (aC := aC) (I := I) (L := L) hk
          have hkl := m_shlt hk
          have hk' := hk
          rw [m_nth_eq] at hk'
          -- one row for both sorts of link
          have put : ∀ (u : Value) (w' : mW), ci ≤ 9 → b < m_NN ci → b < fs.length → (m_TT ci b).2.2.2 = false → narrow (m_ty ci b) u = u → fits (m_ty ci b) u = true → (m_wl ad aC w'.2.1 w'.2.2 0 w'.1 = (m_wl ad aC I L 0 sh).set k (ad k, .inr (ci, (m_fs ad I L ci k 0 fs).set b u))) → w'.1.length = sh.length →
              m_PW p l e R s m args below meth c QT nL ad aC dC dI base (pc + 3, lo, r, w', ce, sl) → W p l e R s m args below meth c H locs ce sl QT (F0 m pc ls (u :: .ref (ad k) :: r.map (m_tr ad))) := by
            intro u w' hc9 hbN hbl2 hfin hnar hfit hw hwl hF
            obtain ⟨sh', I', L'⟩ := w'
            have hbl3 : b < (m_fs ad I L ci k 0 fs).length := by rw [m_fs_len]; exact hbl2
            have fin : ∀ (H1 : Heap) (locs1 : List Loc), va_P (dC, dI) vwCl ((m_wl ad aC I L 0 sh).set k (ad k, .inr (ci, (m_fs ad I L ci k 0 fs).set b u))) H1 → va_D (fun q => base ≤ q) ((m_wl ad aC I L 0 sh).set k (ad k, .inr (ci, (m_fs ad I L ci k 0 fs).set b u))) → va_S (fun q => base ≤ q) s.heap H1 locs1 → W p l e R s m args below meth c H1 locs1 ce sl QT (F0 m (pc + 3) ls (r.map (m_tr ad))) := by
              intro H1 locs1 hP1 _ hS1
              rw [← hw] at hP1
              exact hF H1 locs1 ls hP1 (by rw [hwl]; exact hsz) (by rw [hwl]; exact hlen) hS1 hl
            rcases (Bool.or_eq_true _ _).mp hX with h | h
            · have h := of_decide_eq_true h
              exact va_put (D := (dC, dI)) (Ts := m_ws) hx hb hts (m_lay ci hc9) (m_ty ci) (m_tyok ci hc9) (m_nmok ci hc9) hown hK hP hD hS k he (m_cl ci hc9) b hbN (hts _ (m_lkF_ok _ h)) (fun _ h9 => h9) hfin (m_tyok ci hc9 b hbN) hnar hfit hbl3 hd fin
            · have h := of_decide_eq_true h
              exact va_putN (D := (dC, dI)) (Ts := m_ws) (host := RX8) hx hb hts (m_lay ci hc9) (m_ty ci) (m_tyok ci hc9) (m_nmok ci hc9) hown hK hP hD hS k he (m_cl ci hc9) b hbN (va_Nw.use rfl (hNe _ (List.mem_filter.mpr ⟨m_lkN_ok _ h, rfl⟩))) (fun _ h9 => h9) hfin (m_tyok ci hc9 b hbN) hnar hfit hbl3 hd fin
          have hcb : ci ≤ 9 ∧ b < m_NN ci := by
            rcases (Bool.or_eq_true _ _).mp hX with h | h
            · exact m_lkF_in _ (of_decide_eq_true h)
            · exact m_lkN_in _ (of_decide_eq_true h)
          have hfok := m_finok ci (by omega) b hcb.2
          split at hF
          · rename_i x hf
            rw [m_nth_eq] at hf
            have hbl2 : b < fs.length := (List.getElem?_eq_some_iff.mp hf).1
            split at hF
            · rename_i hty
              refine put (.int x) (sh, m_up I k b x, L) hcb.1 hcb.2 hbl2 ?_ (by rw [hty]; rfl) (by rw [hty]; rfl) ?_ rfl hF
              · simp only [m_fin, hty, Bool.not_eq_true'] at hfok; exact hfok
              · rw [m_wl_set hkl (fun q hq => m_up_ne q hq) (fun _ _ => rfl) (m_same hk')]
                simp only [m_ve]
                rw [m_fs_put hf (by simp [m_isL, hty])]
            · rename_i hty
              obtain ⟨hx01, hF⟩ := hF
              refine put (.int x) (sh, m_up I k b x, L) hcb.1 hcb.2 hbl2 ?_ (by rw [hty]; rcases hx01 with rfl | rfl <;> rfl) (by rw [hty]; rcases hx01 with rfl | rfl <;> rfl) ?_ rfl hF
              · simp only [m_fin, hty, Bool.not_eq_true'] at hfok; exact hfok
              · rw [m_wl_set hkl (fun q hq => m_up_ne q hq) (fun _ _ => rfl) (m_same hk')]
                simp only [m_ve]
                rw [m_fs_put hf (by simp [m_isL, hty])]
            · exact hF.elim
          · rename_i x hf
            rw [m_nth_eq] at hf
            have hbl2 : b < fs.length := (List.getElem?_eq_some_iff.mp hf).1
            split at hF
            · rename_i hty
              refine put (.long x) (sh, I, m_upL L k b x) hcb.1 hcb.2 hbl2 ?_ (by rw [hty]; rfl) (by rw [hty]; rfl) ?_ rfl hF
              · simp only [m_fin, hty, Bool.not_eq_true'] at hfok; exact hfok
              · rw [m_wl_set hkl (fun _ _ => rfl) (fun q hq => m_upL_ne q hq) (m_same hk')]
                simp only [m_ve]
                rw [m_fs_putL hf (by simp [m_isL, hty])]
            · exact hF.elim
          · rename_i t f hf
            split at hF
            · rename_i hg
              obtain ⟨hiR, hg⟩ := m_and hg
              obtain ⟨hkd, hlt⟩ := m_and hg
              obtain ⟨hmn, ho⟩ := hin _ (m_beq hkd)
              subst ho
              rw [m_nth_eq] at hf
              have hbl2 : b < fs.length := (List.getElem?_eq_some_iff.mp hf).1
              have hbl3 : b < (m_fs ad I L ci k 0 fs).length := by rw [m_fs_len]; exact hbl2
              have hw : m_wl ad aC I L 0 (sh.set k (.inr (ci, fs.set b (some (some t))))) = (m_wl ad aC I L 0 sh).set k (ad k, .inr (ci, (m_fs ad I L ci k 0 fs).set b (.ref (ad t)))) := by
                rw [m_wl_set hkl (fun _ _ => rfl) (fun _ _ => rfl) (m_setAt hkl)]
                simp only [m_ve]
                rw [m_fs_putR hbl2]
              have hdc := m_decl ci (by omega) b hcb.2
              have hty : (∃ n, m_ty ci b = .object n) ∨ ∃ n, m_ty ci b = .array n := by
                unfold m_isR at hiR
                split at hiR
                · exact Or.inl ⟨_, by assumption⟩
                · exact Or.inr ⟨_, by assumption⟩
                · cases hiR
              have hfin : (m_TT ci b).2.2.2 = true := by
                rcases hty with ⟨n, hn⟩ | ⟨n, hn⟩ <;> (simp only [m_fin, hn] at hfok; exact hfok)
              rcases (Bool.or_eq_true _ _).mp hX with h | h
              · have h := of_decide_eq_true h
                refine va_putF (D := (dC, dI)) (Ts := m_ws) (v := .ref (ad t)) hx hb hts (m_lay ci hcb.1) (m_ty ci) (m_tyok ci hcb.1) (m_nmok ci hcb.1) hown hK hP hD hS k he (m_cl ci hcb.1) b hcb.2 (hts _ (m_lkF_ok _ h)) (fun _ h9 => h9) hfin hmn hdc (m_tyok ci hcb.1 b hcb.2) ?_ ?_ hbl3 hd (fun H1 locs1 hP1 _ hS1 => ?_)
                · rcases hty with ⟨n, hn⟩ | ⟨n, hn⟩ <;> rw [hn] <;> rfl
                · rcases hty with ⟨n, hn⟩ | ⟨n, hn⟩ <;> rw [hn] <;> rfl
                · have hP1 : va_P (dC, dI) vwCl ((m_wl ad aC I L 0 sh).set k (ad k, .inr (ci, (m_fs ad I L ci k 0 fs).set b (.ref (ad t))))) H1 := hP1
                  rw [← hw] at hP1
                  exact hF H1 locs1 ls hP1 (by rw [List.length_set]; exact hsz) (by rw [List.length_set]; exact hlen) hS1 hl
              · exact absurd rfl (m_lkN_ne _ (of_decide_eq_true h))
            · exact hF.elim
          · exact hF.elim
        · exact hF.elim
      · exact hF.elim
    · exact hF.elim
  | arraylength =>
    have hd : decode cc pc = .ok (.arraylength, 1) := hd
    have hnx : nx = pc + 1 := hnx
    subst hnx
    simp only [m_G] at hF
    split at hF
    · rename_i k r
      split at hF
      · rename_i ty n hk
        split at hF
        · rename_i h6
          have he := m_sh (ad := ad) (aC := aC) (I := I) (L := L) hk
          obtain ⟨t0, ht0⟩ := m_tys_of aC ty h6
          exact va_alen (D := (dC, dI)) hx hb hK hP k t0 he ht0 rfl hd (hF H locs ls hP hsz hlen hS hl)
        · exact hF.elim
      · exact hF.elim
      · split at hF
        · rename_i hk3
          have hk3 := m_beq hk3
          subst hk3
          exact va_slen hx hb hXs hbl hbA hS hd (hF H locs ls hP hsz hlen hS hl)
        · exact hF.elim
    · exact hF.elim
  | iaload =>
    have hd : decode cc pc = .ok (.iaload, 1) := hd
    have hnx : nx = pc + 1 := hnx
    subst hnx
    simp only [m_G] at hF
    split at hF
    · rename_i ix k r
      split at hF
      · rename_i n hk
        have he := m_sh (ad := ad) (aC := aC) (I := I) (L := L) hk
        exact va_iald (D := (dC, dI)) hx hb hK hP k 2 he rfl hF.1 hd (hF.2 H locs ls hP hsz hlen hS hl)
      · exact hF.elim
      · split at hF
        · rename_i hk3
          have hk3 := m_beq hk3
          subst hk3
          exact va_sld hx hb hXs hbl hbA hS hF.1 hd (hF.2 H locs ls hP hsz hlen hS hl)
        · exact hF.elim
    · exact hF.elim
  | baload =>
    have hd : decode cc pc = .ok (.baload, 1) := hd
    have hnx : nx = pc + 1 := hnx
    subst hnx
    simp only [m_G] at hF
    split at hF
    · rename_i ix k r
      split at hF
      · rename_i n hk
        have he := m_sh (ad := ad) (aC := aC) (I := I) (L := L) hk
        exact va_bald (D := (dC, dI)) hx hb hK hP k 0 he rfl hF.1 hd (hF.2 H locs ls hP hsz hlen hS hl)
      · rename_i n hk
        have he := m_sh (ad := ad) (aC := aC) (I := I) (L := L) hk
        exact va_zald (D := (dC, dI)) hx hb hK hP k 5 he rfl hF.1 hd (hF.2 H locs ls hP hsz hlen hS hl)
      · exact hF.elim
    · exact hF.elim
  | caload =>
    have hd : decode cc pc = .ok (.caload, 1) := hd
    have hnx : nx = pc + 1 := hnx
    subst hnx
    simp only [m_G] at hF
    split at hF
    · rename_i ix k r
      split at hF
      · rename_i n hk
        have he := m_sh (ad := ad) (aC := aC) (I := I) (L := L) hk
        exact va_cald (D := (dC, dI)) hx hb hK hP k 1 he rfl hF.1 hd (hF.2 H locs ls hP hsz hlen hS hl)
      · exact hF.elim
    · exact hF.elim
  | saload =>
    have hd : decode cc pc = .ok (.saload, 1) := hd
    have hnx : nx = pc + 1 := hnx
    subst hnx
    simp only [m_G] at hF
    split at hF
    · rename_i ix k r
      split at hF
      · rename_i n hk
        have he := m_sh (ad := ad) (aC := aC) (I := I) (L := L) hk
        exact va_sald (D := (dC, dI)) hx hb hK hP k 4 he rfl hF.1 hd (hF.2 H locs ls hP hsz hlen hS hl)
      · exact hF.elim
    · exact hF.elim
  | laload =>
    have hd : decode cc pc = .ok (.laload, 1) := hd
    have hnx : nx = pc + 1 := hnx
    subst hnx
    simp only [m_G] at hF
    split at hF
    · rename_i ix k r
      split at hF
      · rename_i n hk
        have he := m_sh (ad := ad) (aC := aC) (I := I) (L := L) hk
        exact va_lald (D := (dC, dI)) hx hb hK hP k 3 he rfl hF.1 hd (hF.2 H locs ls hP hsz hlen hS hl)
      · exact hF.elim
    · exact hF.elim
  | iastore =>
    have hd : decode cc pc = .ok (.iastore, 1) := hd
    have hnx : nx = pc + 1 := hnx
    subst hnx
    simp only [m_G] at hF
    split at hF
    · rename_i x ix k r
      split at hF
      · rename_i n hk
        have he := m_sh (ad := ad) (aC := aC) (I := I) (L := L) hk
        have hk' := hk
        rw [m_nth_eq] at hk'
        refine va_iast (D := (dC, dI)) hx hb hK hP hD hS k 2 he rfl hF.1 hd (fun H1 locs1 hP1 _ hS1 => hF.2 H1 locs1 ls ?_ hsz hlen hS1 hl)
        rw [m_wl_set (m_shlt hk) (fun q hq => m_up_ne q hq) (fun _ _ => rfl) (m_same hk')]
        simp only [m_ve, m_up_eq]
        exact hP1
      · exact hF.elim
    · exact hF.elim
  | bastore =>
    have hd : decode cc pc = .ok (.bastore, 1) := hd
    have hnx : nx = pc + 1 := hnx
    subst hnx
    simp only [m_G] at hF
    split at hF
    · rename_i x ix k r
      split at hF
      · rename_i n hk
        have he := m_sh (ad := ad) (aC := aC) (I := I) (L := L) hk
        have hk' := hk
        rw [m_nth_eq] at hk'
        refine va_bast (D := (dC, dI)) hx hb hK hP hD hS k 0 he rfl hF.1 hd (fun H1 locs1 hP1 _ hS1 => hF.2 H1 locs1 ls ?_ hsz hlen hS1 hl)
        rw [m_wl_set (m_shlt hk) (fun q hq => m_up_ne q hq) (fun _ _ => rfl) (m_same hk')]
        simp only [m_ve, m_up_eq]
        exact hP1
      · rename_i n hk
        have he := m_sh (ad := ad) (aC := aC) (I := I) (L := L) hk
        have hk' := hk
        rw [m_nth_eq] at hk'
        refine va_zast (D := (dC, dI)) hx hb hK hP hD hS k 5 he rfl hF.1 hd (fun H1 locs1 hP1 _ hS1 => hF.2 H1 locs1 ls ?_ hsz hlen hS1 hl)
        rw [m_wl_set (m_shlt hk) (fun q hq => m_up_ne q hq) (fun _ _ => rfl) (m_same hk')]
        simp only [m_ve, m_up_eq]
        exact hP1
      · exact hF.elim
    · exact hF.elim
  | castore =>
    have hd : decode cc pc = .ok (.castore, 1) := hd
    have hnx : nx = pc + 1 := hnx
    subst hnx
    simp only [m_G] at hF
    split at hF
    · rename_i x ix k r
      split at hF
      · rename_i n hk
        have he := m_sh (ad := ad) (aC := aC) (I := I) (L := L) hk
        have hk' := hk
        rw [m_nth_eq] at hk'
        refine va_cast (D := (dC, dI)) hx hb hK hP hD hS k 1 he rfl hF.1 hd (fun H1 locs1 hP1 _ hS1 => hF.2 H1 locs1 ls ?_ hsz hlen hS1 hl)
        rw [m_wl_set (m_shlt hk) (fun q hq => m_up_ne q hq) (fun _ _ => rfl) (m_same hk')]
        simp only [m_ve, m_up_eq]
        exact hP1
      · exact hF.elim
    · exact hF.elim
  | sastore =>
    have hd : decode cc pc = .ok (.sastore, 1) := hd
    have hnx : nx = pc + 1 := hnx
    subst hnx
    simp only [m_G] at hF
    split at hF
    · rename_i x ix k r
      split at hF
      · rename_i n hk
        have he := m_sh (ad := ad) (aC := aC) (I := I) (L := L) hk
        have hk' := hk
        rw [m_nth_eq] at hk'
        refine va_sast (D := (dC, dI)) hx hb hK hP hD hS k 4 he rfl hF.1 hd (fun H1 locs1 hP1 _ hS1 => hF.2 H1 locs1 ls ?_ hsz hlen hS1 hl)
        rw [m_wl_set (m_shlt hk) (fun q hq => m_up_ne q hq) (fun _ _ => rfl) (m_same hk')]
        simp only [m_ve, m_up_eq]
        exact hP1
      · exact hF.elim
    · exact hF.elim
  | lastore =>
    have hd : decode cc pc = .ok (.lastore, 1) := hd
    have hnx : nx = pc + 1 := hnx
    subst hnx
    simp only [m_G] at hF
    split at hF
    · rename_i x ix k r
      split at hF
      · rename_i n hk
        have he := m_sh (ad := ad) (aC := aC) (I := I) (L := L) hk
        have hk' := hk
        rw [m_nth_eq] at hk'
        refine va_last (D := (dC, dI)) hx hb hK hP hD hS k 3 he rfl hF.1 hd (fun H1 locs1 hP1 _ hS1 => hF.2 H1 locs1 ls ?_ hsz hlen hS1 hl)
        rw [m_wl_set (m_shlt hk) (fun _ _ => rfl) (fun q hq => m_upL_ne q hq) (m_same hk')]
        simp only [m_ve, m_upL_eq]
        exact hP1
      · exact hF.elim
    · exact hF.elim
  | _ => simp [m_grp] at hcase
end
section
/-! ===== calls, making, returns ===== -/
theorem m_tabY : ∀ (id : Nat) (M : mM), m_nth m_tab id = some M → m_Y id = M.1 := by
  intro id M h
  have hall : ∀ id : Fin 163, ((m_nth m_tab id.val).map (fun M => M.1)) = some (m_Y id.val) := by decide +kernel
  have hlt : id < 163 := by
    rw [m_nth_eq] at h
    exact (List.getElem?_eq_some_iff.mp h).1
  have h2 := hall ⟨id, hlt⟩
  simp only [h, Option.map_some] at h2
  exact (Option.some.inj h2).symm
theorem m_na16 {id : Nat} {M : mM} (h : m_nth m_tab id = some M) : M.2.2.2.2.2.2.1 < 16 := by
  have hall : ∀ M ∈ m_tab, M.2.2.2.2.2.2.1 < 16 := by decide +kernel
  rw [m_nth_eq] at h
  exact hall M (List.mem_of_getElem? h)
theorem m_tabok {id : Nat} {M : mM} (h : m_nth m_tab id = some M) : m_Mok M := by
  rw [m_nth_eq] at h
  exact m_tab_ok M (List.mem_of_getElem? h)
theorem m_sg_of {id n kd : Nat} (h : Nat.beq (m_sg id) (n + 256 * kd) = true) (hn : n < 256) (hk : kd ≤ 2) : ∃ M, m_nth m_tab id = some M ∧ m_Mok M ∧ M.2.2.2.2.1 = kd ∧ M.2.2.2.2.2.2.1 = n % 16 ∧ M.2.2.2.2.2.1 = n / 16 := by
  have h := Nat.eq_of_beq_eq_true h
  cases hM : m_nth m_tab id with
  | none =>
    simp only [m_sg, hM] at h
    omega
  | some M =>
    simp only [m_sg, hM] at h
    have hok := m_tabok hM
    have h1 := hok.2.2.2.1.2.2.2.2.2.2
    have h2 := m_na16 hM
    refine ⟨M, rfl, hok, ?_, ?_, ?_⟩ <;> omega
theorem m_lkMN_999 : ∀ q ∈ m_lkMN, q.2.2.1 ≠ 999 := by decide +kernel
theorem m_lkM_b : ∀ q ∈ m_lkM, q.2.2.2 < 256 := by decide +kernel
theorem m_lkMN_b : ∀ q ∈ m_lkMN, q.2.2.2 < 256 := by decide +kernel
theorem m_good : GoodIn m_ws m_ws := fun w hw => ⟨hw, good_of_word (List.mem_filter.mp hw).2⟩
theorem m_good2 {M : mM} (h : m_Mok M) : GoodIn m_ws (Cond.code M.1 M.2.1 M.2.2.1 M.2.2.2.1 :: m_ws) := by
  intro w hw
  rcases List.mem_cons.mp hw with rfl | hw
  · exact m_good _ h.1
  · exact m_good _ hw
section MCALL
variable {p : Program} {l : Launch} {e : Env} {R : Room} {s : State} {m : MethodId} {args : Array Value} {below : List Frame} {meth : Method} {c : Code} {QT : State → Prop} {ad : Nat → Nat} {aC : FieldType → ClassId} {dC : Nat → ClassId} {dI : Nat → Nat → Nat} {base XL nL oi d : Nat} {XS : Nat → Int32} {cc : ByteArray}
theorem m_Pc_blind {as : List Value} {w : mW} : FrameBlind (m_Pc ad aC dC dI base XL XS as w) := by
  intro a U g mk h
  obtain ⟨h1, h2, h3, h4, h5⟩ := h
  exact ⟨h1, h2.call g mk a, h3, h4, h5⟩
/-- behind a call -/
theorem m_after {K : mK} {H : Heap} {locs : List Loc} {ce sl mc' ms' n pc : Nat} {ls : Array Slot} {st0 r : List Value} {a : Array Value} (hr : va_Run p l e R s m args below meth c H locs ce sl mc' ms' (F0 m pc ls st0) (r.map (m_tr ad)) (m_Qc ad aC dC dI base K n a) (fun q => base ≤ q))
    (hS : va_S (fun q => base ≤ q) s.heap H locs) (hbs : base ≤ s.heap.size)
    (kk : ∀ (rv : Option Value) (w : mW) (H1 : Heap) (locs1 : List Loc), K rv w → m_Hp ad aC dC dI w H1 → w.1.length = n → w.1.length ≤ 1000 → va_S (fun q => base ≤ q) s.heap H1 locs1 → W p l e R s m args below meth c H1 locs1 (ce + mc') (sl + ms') QT (F0 m (pc + 3) ls ((m_push rv r).map (m_tr ad)))) :
    W p l e R s m args below meth c H locs ce sl QT (F0 m pc ls st0) := by
  intro T hT X
  obtain ⟨v, st₀, t, T', L, h0, X', hL, e1, e2, ⟨rv, w, hK, hv, hw, hn, hl, hq⟩, st⟩ := hr T hT X
  have hv : v = rv.map (m_tr ad) := by
    have := hv
    simp only [Outcome.returned.injEq] at this
    exact this
  subst hv
  have hsz : s.heap.size ≤ T'.heap.size := X'.same.2.1
  have key := kk rv w T'.heap (locs ++ L) hK (by rw [e1]; exact hw) hn hl
    ⟨hsz, fun q h1 h2 => by rw [e1, hq q (by omega), h0]; exact hS.2.1 q h1 h2, fun q hq2 => by
      rcases List.mem_append.mp hq2 with h | h
      · exact hS.2.2 q h
      · exact hL q h⟩
  obtain ⟨t2, a1, b1⟩ := key T' rfl X'
  refine ⟨t2, st t2 ?_, b1⟩
  have he : ((rv.map (m_tr ad)).toList ++ r.map (m_tr ad)) = (m_push rv r).map (m_tr ad) := by cases rv <;> rfl
  show Steps p.tables e below (T'.setTop { F0 m pc ls st0 with pc := pc + 3, stack := (rv.map (m_tr ad)).toList ++ r.map (m_tr ad) }) t2
  rw [he]
  exact a1
end MCALL
theorem m_wl_len {ad : Nat → Nat} {aC : FieldType → ClassId} {I : Nat → Nat → Int32} {L : Nat → Nat → Int64} : ∀ (sh : List mS) (k0 : Nat), (m_wl ad aC I L k0 sh).length = sh.length
  | [], k0 => rfl
  | x :: r, k0 => by simp [m_wl, m_wl_len r (k0 + 1)]
def m_nk (ci j : Nat) : Option (Option Nat) := match m_ty ci j with
  | .object _ => some none
  | .array _ => some none
  | _ => none
theorem m_nf_get : ∀ (ci j0 n j : Nat), j < n → (m_nf ci j0 n)[j]? = some (m_nk ci (j0 + j))
  | ci, j0, 0, j, h => by omega
  | ci, j0, n + 1, 0, h => by simp only [m_nf, List.getElem?_cons_zero]; rfl
  | ci, j0, n + 1, j + 1, h => by
    simp only [m_nf, List.getElem?_cons_succ]
    rw [m_nf_get ci (j0 + 1) n j (by omega), show j0 + 1 + j = j0 + (j + 1) by omega]
def m_tyk : FieldType → Bool
  | .float => false
  | .double => false
  | _ => true
theorem m_tykok : ∀ ci, ci < 10 → ∀ b, b < m_NN ci → m_tyk (m_ty ci b) = true := by decide +kernel
theorem m_newf {ad : Nat → Nat} {I : Nat → Nat → Int32} {L : Nat → Nat → Int64} {a k : Nat} (h9 : a ≤ 9) (hI : ∀ j, I k j = 0) (hL : ∀ j, L k j = 0) : ∀ j, j < m_NN a → defaultValue (m_ty a j) = vp_V (m_fs ad I L a k 0 (m_nf a 0 (m_NN a))) j := by
  intro j hj
  have h1 := m_tykok a (by omega) j hj
  simp only [vp_V, List.getD_eq_getElem?_getD, m_fs_get, m_nf_get a 0 (m_NN a) j hj, Nat.zero_add, Option.map_some, Option.getD_some]
  unfold m_nk m_fv m_isL
  cases hty : m_ty a j <;> simp_all [defaultValue, m_tr, m_tyk]
/-- where a new cell is -/
theorem m_newq {ad : Nat → Nat} {aC : FieldType → ClassId} {dC : Nat → ClassId} {dI : Nat → Nat → Nat} {I : Nat → Nat → Int32} {L : Nat → Nat → Int64} {sh : List mS} {base q : Nat} {x : va_E} {H1 : Heap} (had : ∀ k, k < 1000000 → ad k = base + k) (hlen : sh.length ≤ 1000)
    (hP1 : va_P (dC, dI) vwCl (m_wl ad aC I L 0 sh ++ [(q, x)]) H1) (hD1 : va_D (fun q => base ≤ q) (m_wl ad aC I L 0 sh ++ [(q, x)])) (hz : H1.size ≤ base + sh.length + 1) : q = base + sh.length := by
  have hl := m_wl_len (ad := ad) (aC := aC) (I := I) (L := L) sh 0
  have hat : (m_wl ad aC I L 0 sh ++ [(q, x)])[sh.length]? = some (q, x) := by
    rw [List.getElem?_append_right (by omega), hl, Nat.sub_self]; rfl
  have h1 := (hP1 _ _ hat).lt
  have h2 := hD1.2 _ _ hat
  simp only at h1 h2
  have h3 : ∀ j, j < sh.length → q ≠ base + j := by
    intro j hj hq
    obtain ⟨y, hy⟩ : ∃ y, sh[j]? = some y := ⟨_, List.getElem?_eq_getElem hj⟩
    have hj2 : (m_wl ad aC I L 0 sh ++ [(q, x)])[j]? = some (ad j, m_ve ad aC I L j y) := by
      rw [List.getElem?_append_left (by omega), m_wl_get, hy]; simp
    have := hD1.1 _ _ _ _ hj2 hat (by rw [had j (by omega)]; exact hq.symm)
    omega
  by_cases hq : q - base < sh.length
  · exact absurd (by omega) (h3 (q - base) hq)
  · omega
theorem m_RA {s : State} {cA cB : ClassId} {ty : FieldType} (h6 : m_t6 ty = true) (h1 : va_RA s cA ty) (h2 : va_RA s cB ty) : cA = cB := by
  cases ty <;> first | (cases h6; done) | exact Option.some.inj (h1.symm.trans h2)
def m_av (ty : FieldType) (f : Nat → Int32) (g : Nat → Int64) : (Nat → Int32) ⊕ (Nat → Int64) ⊕ (Nat → UInt32) ⊕ (Nat → UInt64) ⊕ (Nat → Option Nat) := match ty with
  | .long => .inr (.inl g)
  | _ => .inl f
theorem m_newa0 (n : Nat) {I : Nat → Nat → Int32} {L : Nat → Nat → Int64} {k : Nat} (hI : I k = fun _ => 0) (hL : L k = fun _ => 0) {ty : FieldType} (h6 : m_t6 ty = true) : ∀ cA : ClassId, vp_cell cA (n, m_av ty (I k) (L k)) = arrV cA n (fun _ => defaultValue ty) := by
  intro cA
  rw [hI, hL]
  cases ty <;> first | (cases h6; done) | rfl
set_option maxHeartbeats 4000000 in
theorem m_step_call {p : Program} {l : Launch} {e : Env} {R : Room} {s : State} {m : MethodId} {args : Array Value} {below : List Frame} {meth : Method} {c : Code} {QT : State → Prop} {ad : Nat → Nat} {aC : FieldType → ClassId} {dC : Nat → ClassId} {dI : Nat → Nat → Nat} {base XL nL oi d : Nat} {XS : Nat → Int32} {cc : ByteArray}
    (Cx : m_Cx p R s m args c cc nL oi ad aC dC dI base XL XS d) {C : mC} {rt : Option FieldType} {kd mc ms : Nat} {QM : mK} {pc nx a b : Nat} {i : Instr} {v : Value} {sw : List (Int32 × Nat)} {lo : List (Option Value)} {st : List Value} {sh : List mS} {I : Nat → Nat → Int32} {L : Nat → Nat → Int64} {ce sl : Nat}
    (hC : ∀ id as w K, C id as w K → m_Met l ad aC dC dI base XL XS d id as w K) (hRR : mc ≤ R.cells ∧ ms ≤ R.slots)
    (hd : decode cc pc = .ok (i, m_len i (nx - pc))) (hnx : nx = pc + m_len i (nx - pc)) (hX : m_okX oi (pc, i, nx, a, b, v, sw) = true)
    (hF : m_G XL XS C rt kd mc ms QM (m_PW p l e R s m args below meth c QT nL ad aC dC dI base) i nx a b v sw lo st sh I L ce sl)
    (hcase : m_grp i = 2) :
    m_PW p l e R s m args below meth c QT nL ad aC dC dI base (pc, lo, st, (sh, I, L), ce, sl) := by
  obtain ⟨hx, hb, hml, hown, hts, hctx, had, hRf, hRl⟩ := Cx
  obtain ⟨hK, hNe, ⟨hXs, hXb⟩, hStr, -, -, -, hbs⟩ := id hctx
  intro H locs ls hP hsz hlen hS hl
  have hD := m_wl_D (ad := ad) (aC := aC) (I := I) (L := L) had hlen
  have hA : ∀ q, s.heap.size ≤ q → base ≤ q := fun q h => Nat.le_trans hbs h
  have S : CallFix p m c cc nL s args m_ws (m_RR oi) := ⟨hx, hb, hml, hown, hts⟩
  have hls : ls.size = nL := hl.1.1
  refine m_sized fun hz1 hz2 => ?_
  -- the heap's size, exactly
  have hHz : H.size = base + sh.length := by
    have h2 : H.size ≤ base + sh.length := by omega
    by_cases h0 : sh.length = 0
    · omega
    · have hk : sh.length - 1 < sh.length := by omega
      obtain ⟨x, hxx⟩ : ∃ x, sh[sh.length - 1]? = some x := ⟨_, List.getElem?_eq_getElem hk⟩
      have h3 : (m_wl ad aC I L 0 sh)[sh.length - 1]? = some (ad (sh.length - 1), m_ve ad aC I L (sh.length - 1) x) := by rw [m_wl_get, hxx]; simp
      have h4 := (hP _ _ h3).lt
      have h5 := had (sh.length - 1) (by omega)
      simp only [h5] at h4
      omega
  have pre : ∀ (as : List Value) (U : State), U.heap = H → s.WarmedH U.vm → m_Pc ad aC dC dI base XL XS as (sh, I, L) (as.map (m_tr ad)).toArray U := by
    intro as U hU hW
    refine ⟨rfl, hctx.move hW (fun q hq => by rw [hU]; exact hS.2.1 q (by omega) (by omega)) (by rw [hU]; omega), by rw [hU]; exact hP, by rw [hU]; exact hHz, hlen⟩
  have room : ∀ (id : Nat) (M : mM), m_Mok M → (m_rm d id).frames + 1 ≤ R.frames ∧ 8 + (M.2.2.1 + 11) + (m_rm d id).locals ≤ R.locals := by
    intro id M hM
    have := hM.2.2.2.1.2.2.2.2.2.1
    refine ⟨hRf, ?_⟩
    show 8 + (M.2.2.1 + 11) + 64 * d ≤ R.locals
    omega
  cases i with
  | invokevirtual n =>
    have hd : decode cc pc = .ok (.invokevirtual n, 3) := hd
    have hnx : nx = pc + 3 := hnx
    subst hnx
    have hm := of_decide_eq_true hX
    simp only [m_G] at hF
    split at hF
    · rename_i k as r hpop
      split at hF
      · rename_i ci fs hk
        split at hF
        · rename_i hg
          obtain ⟨hg1, hg⟩ := m_and hg
          obtain ⟨hgs, hg⟩ := m_and hg
          obtain ⟨hg2, hg⟩ := m_and hg
          obtain ⟨hg3, hg4⟩ := m_and hg
          obtain ⟨hst, hna⟩ := m_pop_eq _ _ _ _ hpop
          have hci := m_beq hg1
          have hb256 := m_lkM_b _ hm
          obtain ⟨M, hM, hMok, hkd, hna2, hoi⟩ := m_sg_of (id := a) (n := b) (kd := 0) hgs hb256 (by omega)
          have hY := m_tabY a M hM
          have hmet := hC _ _ _ _ hF M hM
          obtain ⟨w1, w2, w3, ⟨w4, w5, w6, w7, w8, w9, w10, w11⟩, w12⟩ := id hMok
          rw [hkd] at w3 w8
          have hl2 := hts _ (m_lkM_ok _ hm)
          rw [hY] at hl2
          have cw : CallW R s args (m_RR oi) M.1.cls n M.1 M.2.1 M.2.2.1 M.2.2.2.1 (Cond.code M.1 M.2.1 M.2.2.1 M.2.2.2.1 :: m_ws) (m_rm d a) (m_cost a).1 (m_cost a).2 as.length := by
            refine ⟨callB_of as.length hts (m_good2 hMok) rfl rfl rfl (hts _ w2) hl2 ⟨w6, w7, ?_⟩ (room a M hMok), hts _ w3.1, hts _ w3.2⟩
            rw [Option.map_eq_some_iff] at w8 ⊢
            obtain ⟨dd, e1, e2⟩ := w8
            refine ⟨dd, e1, ?_⟩
            simp only [List.length_cons] at hna
            rw [if_neg (by omega)] at e2
            omega
          have hst2 : st.map (m_tr ad) = (as.map (m_tr ad)).reverse ++ .ref (ad k) :: r.map (m_tr ad) := by
            rw [hst]; simp [m_tr]
          rw [hst2]
          have he := m_sh (ad := ad) (aC := aC) (I := I) (L := L) hk
          have hc9 : ci ≤ 9 := by rw [hci, ← hoi]; exact w11
          refine m_after (va_runV (C := M.1.cls) (As := as.map (m_tr ad)) (rest := r.map (m_tr ad)) (b := ad k) S hmet cw ⟨m_Pc_blind, ?_, fun U hU hW => pre (.ref k :: as) U hU hW⟩ rfl (by simp) hls rfl (lv_room (by rw [m_cat_eq]; exact Nat.le_of_ble_eq_true hg2)) hd ⟨Nat.le_trans (Nat.le_of_ble_eq_true hg3) hRR.1, Nat.le_trans (Nat.le_of_ble_eq_true hg4) hRR.2⟩) hS hbs (fun rv w H1 locs1 hKr hw hn1 hn2 hS1 => ?_)
          · have := va_recv hK hP (m_cl ci hc9) he
            rw [w5, hoi, ← hci]
            exact this
          · obtain ⟨sh', I', L'⟩ := w
            exact hKr H1 locs1 ls hw (by simp only at hn1; rw [hn1]; omega) hn2 hS1 hl
        · exact hF.elim
      · exact hF.elim
    · exact hF.elim
  | invokestatic n =>
    have hd : decode cc pc = .ok (.invokestatic n, 3) := hd
    have hnx : nx = pc + 3 := hnx
    subst hnx
    have hm := of_decide_eq_true hX
    simp only [m_G] at hF
    split at hF
    · rename_i as r hpop
      split at hF
      · rename_i hg
        obtain ⟨hgs, hg⟩ := m_and hg
        obtain ⟨hg2, hg⟩ := m_and hg
        obtain ⟨hg3, hg4⟩ := m_and hg
        obtain ⟨hst, hna⟩ := m_pop_eq _ _ _ _ hpop
        have hb256 := m_lkM_b _ hm
        obtain ⟨M, hM, hMok, hkd, hna2, hoi⟩ := m_sg_of (id := a) (n := b) (kd := 1) hgs hb256 (by omega)
        have hY := m_tabY a M hM
        have hmet := hC _ _ _ _ hF M hM
        obtain ⟨w1, w2, w3, ⟨w4, w5, w6, w7, w8, w9, w10, w11⟩, w12⟩ := id hMok
        rw [hkd] at w3 w8
        have hl2 := hts _ (m_lkM_ok _ hm)
        rw [hY] at hl2
        have cw : CallB R s args (m_RR oi) n M.1 M.2.1 M.2.2.1 M.2.2.2.1 (Cond.code M.1 M.2.1 M.2.2.1 M.2.2.2.1 :: m_ws) (m_rm d a) (m_cost a).1 (m_cost a).2 as.length ∧ (Cond.static M.1).before args s = true := by
          refine ⟨callB_of as.length hts (m_good2 hMok) rfl rfl rfl (hts _ w2) hl2 ⟨w6, w7, ?_⟩ (room a M hMok), hts _ w3⟩
          rw [Option.map_eq_some_iff] at w8 ⊢
          obtain ⟨dd, e1, e2⟩ := w8
          refine ⟨dd, e1, ?_⟩
          rw [if_pos rfl] at e2
          omega
        have hst2 : st.map (m_tr ad) = (as.map (m_tr ad)).reverse ++ r.map (m_tr ad) := by
          rw [hst]; simp
        rw [hst2]
        refine m_after (va_runS (As := as.map (m_tr ad)) (rest := r.map (m_tr ad)) S hmet cw ⟨m_Pc_blind, fun U hU hW => pre as U hU hW⟩ rfl (by simp) hls rfl (lv_room (by rw [m_cat_eq]; exact Nat.le_of_ble_eq_true hg2)) hd ⟨Nat.le_trans (Nat.le_of_ble_eq_true hg3) hRR.1, Nat.le_trans (Nat.le_of_ble_eq_true hg4) hRR.2⟩) hS hbs (fun rv w H1 locs1 hKr hw hn1 hn2 hS1 => ?_)
        obtain ⟨sh', I', L'⟩ := w
        exact hKr H1 locs1 ls hw (by simp only at hn1; rw [hn1]; omega) hn2 hS1 hl
      · exact hF.elim
    · exact hF.elim
  | invokespecial n =>
    have hd : decode cc pc = .ok (.invokespecial n, 3) := hd
    have hnx : nx = pc + 3 := hnx
    subst hnx
    simp only [m_G] at hF
    split at hF
    · rename_i h999
      have h999 := m_beq h999
      subst h999
      split at hF
      · rename_i k r
        split at hF
        · rename_i hg
          have hm : (oi, n, 999, b) ∈ m_lkM := by
            rcases (Bool.or_eq_true _ _).mp hX with h | h
            · exact of_decide_eq_true h
            · exact absurd rfl (m_lkMN_999 _ (of_decide_eq_true h))
          have hg := Nat.le_of_ble_eq_true hg
          have hroom := lv_room (m := m) (pc := pc) (ls := ls) (rest := List.map (m_tr ad) (Value.ref k :: r)) (st := r.map (m_tr ad)) (by rw [m_cat_eq ad r]; exact hg)
          exact W.objInit hx hb hown (hts _ (m_lkM_ok _ hm)) (hts _ m_obj.1) (hts _ m_obj.2) rfl (by rw [hml]; exact hls) (rest := r.map (m_tr ad)) rfl hd (by omega) (by omega) (hF H locs ls hP hsz hlen hS hl)
        · exact hF.elim
      · exact hF.elim
    · rename_i h999
      split at hF
      · rename_i k as r hpop
        split at hF
        · rename_i hg
          obtain ⟨hgs, hg⟩ := m_and hg
          obtain ⟨hg2, hg⟩ := m_and hg
          obtain ⟨hg3, hg4⟩ := m_and hg
          obtain ⟨hst, hna⟩ := m_pop_eq _ _ _ _ hpop
          have hb256 : b < 256 := by
            rcases (Bool.or_eq_true _ _).mp hX with h | h
            · exact m_lkM_b _ (of_decide_eq_true h)
            · exact m_lkMN_b _ (of_decide_eq_true h)
          obtain ⟨M, hM, hMok, hkd, hna2, hoi⟩ := m_sg_of (id := a) (n := b) (kd := 2) hgs hb256 (by omega)
          have hY := m_tabY a M hM
          have hmet := hC _ _ _ _ hF M hM
          obtain ⟨w1, w2, w3, ⟨w4, w5, w6, w7, w8, w9, w10, w11⟩, w12⟩ := id hMok
          rw [hkd] at w3 w8
          obtain ⟨w31, w32, w33⟩ := w3
          have hdsc : M.1.cls ≠ "java/lang/invoke/MethodHandle" ∧ M.1.cls ≠ "java/lang/invoke/VarHandle" ∧ (parseMethodDescriptor M.1.desc).map (fun d => d.parameters.length) = some as.length := by
            refine ⟨w6, w7, ?_⟩
            rw [Option.map_eq_some_iff] at w8 ⊢
            obtain ⟨dd, e1, e2⟩ := w8
            refine ⟨dd, e1, ?_⟩
            simp only [List.length_cons] at hna
            rw [if_neg (by omega)] at e2
            omega
          have hst2 : st.map (m_tr ad) = (as.map (m_tr ad)).reverse ++ .ref (ad k) :: r.map (m_tr ad) := by
            rw [hst]; simp [m_tr]
          rw [hst2]
          have hgd := m_good2 hMok
          have hrm := room a M hMok
          obtain ⟨y, bts, mxl, rt', kd', oi', na', cd'⟩ := M
          simp only at w33 hmet hgd hrm hdsc w31 w32 w2 hY
          subst w33
          rcases (Bool.or_eq_true _ _).mp hX with h | h
          · have hm := of_decide_eq_true h
            have hl2 := hts _ (m_lkM_ok _ hm)
            simp only [hY] at hl2
            refine m_after (va_runI (As := as.map (m_tr ad)) (rest := r.map (m_tr ad)) (b := ad k) S hmet ⟨callB_of as.length hts hgd rfl rfl rfl (hts _ w2) hl2 hdsc hrm, w32, hts _ w31⟩ ⟨m_Pc_blind, fun U hU hW => pre (.ref k :: as) U hU hW⟩ rfl (by simp) hls rfl (lv_room (by rw [m_cat_eq]; exact Nat.le_of_ble_eq_true hg2)) hd ⟨Nat.le_trans (Nat.le_of_ble_eq_true hg3) hRR.1, Nat.le_trans (Nat.le_of_ble_eq_true hg4) hRR.2⟩) hS hbs (fun rv w H1 locs1 hKr hw hn1 hn2 hS1 => ?_)
            obtain ⟨sh', I', L'⟩ := w
            exact hKr H1 locs1 ls hw (by simp only at hn1; rw [hn1]; omega) hn2 hS1 hl
          · have hm := of_decide_eq_true h
            have hl2 := hNe _ (List.mem_filter.mpr ⟨m_lkMN_ok _ hm, rfl⟩)
            simp only [hY] at hl2
            refine m_after (va_runIN (As := as.map (m_tr ad)) (rest := r.map (m_tr ad)) (b := ad k) S hmet ⟨va_cnB as.length hts hgd rfl rfl rfl hl2 (hts _ w2) hdsc hrm, w32, hts _ w31⟩ ⟨m_Pc_blind, fun U hU hW => pre (.ref k :: as) U hU hW⟩ rfl (by simp) hls rfl (lv_room (by rw [m_cat_eq]; exact Nat.le_of_ble_eq_true hg2)) hd ⟨Nat.le_trans (Nat.le_of_ble_eq_true hg3) hRR.1, Nat.le_trans (Nat.le_of_ble_eq_true hg4) hRR.2⟩) hS hbs (fun rv w H1 locs1 hKr hw hn1 hn2 hS1 => ?_)
            obtain ⟨sh', I', L'⟩ := w
            exact hKr H1 locs1 ls hw (by simp only at hn1; rw [hn1]; omega) hn2 hS1 hl
        · exact hF.elim
      · exact hF.elim
  | new n =>
    have hd : decode cc pc = .ok (.new n, 3) := hd
    have hnx : nx = pc + 3 := hnx
    subst hnx
    have hm := of_decide_eq_true hX
    have h9 := m_lkC_in _ hm
    obtain ⟨k1, k2, k3⟩ := m_lkC_ok _ hm
    simp only [m_G] at hF
    split at hF
    · rename_i hg
      obtain ⟨hg1, hg⟩ := m_and hg
      obtain ⟨hg2, hg3⟩ := m_and hg
      have hg1 : sh.length < 1000 := Nat.le_of_ble_eq_true hg1
      refine va_new (D := (dC, dI)) (Ts := m_ws) (ci := a) (fs := m_fs ad (va_up I sh.length (fun _ => 0)) (va_up L sh.length (fun _ => 0)) a sh.length 0 (m_nf a 0 (m_NN a))) hx hb hts (m_lay a h9) (m_ty a) (m_tyok a h9) hown (hts _ k1) (hts _ k2) (hts _ k3) hK hP hD hS hA (m_cl a h9) (m_newf h9 (fun j => by simp [va_up]) (fun j => by simp [va_up])) (Nat.le_trans (Nat.le_of_ble_eq_true hg2) hRR.1) (Nat.le_trans (Nat.le_of_ble_eq_true hg3) hRR.2) hd (fun q H1 hP1 hD1 hS1 => ?_)
      refine m_sized fun z1 z2 => ?_
      have hq := m_newq had hlen hP1 hD1 (by omega)
      have hq2 : q = ad sh.length := by rw [hq, had _ (by omega)]
      subst hq2
      have hap := m_wl_app (ad := ad) (aC := aC) (I := I) (I' := va_up I sh.length (fun _ => 0)) (L := L) (L' := va_up L sh.length (fun _ => 0)) (sh := sh) (e := .inr (a, m_nf a 0 (m_NN a))) (fun q hq => by simp [va_up, Nat.ne_of_lt hq]) (fun q hq => by simp [va_up, Nat.ne_of_lt hq])
      exact hF H1 locs ls (by rw [hap]; exact hP1) (by simp only [List.length_append, List.length_cons, List.length_nil]; omega) (by simp only [List.length_append, List.length_cons, List.length_nil]; omega) hS1 hl
    · exact hF.elim
  | newarray ty =>
    have hd : decode cc pc = .ok (.newarray ty, 2) := hd
    have hnx : nx = pc + 2 := hnx
    subst hnx
    simp only [m_G] at hF
    split at hF
    · rename_i n r
      split at hF
      · rename_i hg
        obtain ⟨hg0, hg⟩ := m_and hg
        obtain ⟨hg1, hg⟩ := m_and hg
        obtain ⟨hg2, hg⟩ := m_and hg
        obtain ⟨hg3, hg4⟩ := m_and hg
        have hg1 : sh.length < 1000 := Nat.le_of_ble_eq_true hg1
        have hg4 : a ≤ 100000 := Nat.le_of_ble_eq_true hg4
        obtain ⟨⟨hn0, hna⟩, hF⟩ := hF
        have hty : newarray.typeOf ty = m_aty ty := by cases ty <;> rfl
        have hac : Cond.arrayClass (m_aty ty) ∈ m_ws := by
          cases ty <;> first | (cases hg0; done) | exact m_ac_boolean | exact m_ac_char | exact m_ac_byte | exact m_ac_short | exact m_ac_int | exact m_ac_long
        refine va_newa (D := (dC, dI)) (ty := m_aty ty) (N' := a) (a0 := (a, m_av (m_aty ty) ((va_up I sh.length (fun _ => 0)) sh.length) ((va_up L sh.length (fun _ => 0)) sh.length))) hx hb (by rw [hty]; exact hts _ hac) hty hK hP hD hS hA (m_newa0 a (I := va_up I sh.length (fun _ => 0)) (L := va_up L sh.length (fun _ => 0)) (k := sh.length) (by simp [va_up]) (by simp [va_up]) hg0) hn0 hna ?_ (Nat.le_trans (Nat.le_of_ble_eq_true hg2) hRR.1) (Nat.le_trans (Nat.le_of_ble_eq_true hg3) hRR.2) hd (fun q cA H1 hK1 hP1 hD1 hS1 => ?_)
        · have : componentBytes (m_aty ty) ≤ 8 := by cases ty <;> decide
          have := Nat.mul_le_mul hg4 this
          omega
        · refine m_sized fun z1 z2 => ?_
          have hq := m_newq had hlen hP1 hD1 (by omega)
          have hq2 : q = ad sh.length := by rw [hq, had _ (by omega)]
          subst hq2
          have hcA : cA = aC (m_aty ty) := by
            obtain ⟨t0, ht0⟩ := m_tys_of aC (m_aty ty) hg0
            have h1 := (hK.2 t0 _ ht0).2
            have h2 := (hK1.2 (m_tys aC).length (cA, m_aty ty) (by rw [List.getElem?_append_right (Nat.le_refl _), Nat.sub_self]; rfl)).2
            exact m_RA hg0 h2 h1
          subst hcA
          have hap := m_wl_app (ad := ad) (aC := aC) (I := I) (I' := va_up I sh.length (fun _ => 0)) (L := L) (L' := va_up L sh.length (fun _ => 0)) (sh := sh) (e := .inl (m_aty ty, a)) (fun q hq => by simp [va_up, Nat.ne_of_lt hq]) (fun q hq => by simp [va_up, Nat.ne_of_lt hq])
          exact hF H1 locs ls (by rw [hap]; exact hP1) (by simp only [List.length_append, List.length_cons, List.length_nil]; omega) (by simp only [List.length_append, List.length_cons, List.length_nil]; omega) hS1 hl
      · exact hF.elim
    · exact hF.elim
  | _ => simp [m_grp] at hcase
end
section
/-! ===== returns; a step of the small machine, whatever it is; a method's contract ===== -/
theorem m_grp3 (i : Instr) : m_grp i ≤ 3 := by cases i <;> simp [m_grp]
section MRET
variable {p : Program} {l : Launch} {e : Env} {R : Room} {s : State} {m : MethodId} {args : Array Value} {below : List Frame} {meth : Method} {c : Code} {QT : State → Prop} {ad : Nat → Nat} {aC : FieldType → ClassId} {dC : Nat → ClassId} {dI : Nat → Nat → Nat} {base XL nL oi d : Nat} {XS : Nat → Int32} {cc : ByteArray}
/-- what is done at a method's ends -/
def m_Ret (p : Program) (l : Launch) (e : Env) (R : Room) (s : State) (m : MethodId) (args : Array Value) (below : List Frame) (meth : Method) (c : Code) (QT : State → Prop) (ad : Nat → Nat) (aC : FieldType → ClassId) (dC : Nat → ClassId) (dI : Nat → Nat → Nat) (base : Nat) (cc : ByteArray) (rt : Option FieldType) (mc ms : Nat) (QM : mK) : Prop :=
  ∀ (rv : Option Value) (w : mW) (H : Heap) (locs : List Loc) (ls : Array Slot) (pc : Nat), QM rv w → va_P (dC, dI) vwCl (m_wl ad aC w.2.1 w.2.2 0 w.1) H → s.heap.size + mc = base + w.1.length → w.1.length ≤ 1000 → va_S (fun q => base ≤ q) s.heap H locs →
    (∀ (x : Int32) (ty : FieldType), rv = some (.int x) → rt = some ty → narrow ty (.int x) = .int x → decode cc pc = .ok (.ireturn, 1) → W p l e R s m args below meth c H locs mc ms QT (F0 m pc ls [.int x])) ∧
    (∀ (x : Int64), rv = some (.long x) → rt = some .long → decode cc pc = .ok (.lreturn, 1) → W p l e R s m args below meth c H locs mc ms QT (F0 m pc ls [.long x])) ∧
    (rv = none → rt = none → decode cc pc = .ok (.return_, 1) → W p l e R s m args below meth c H locs mc ms QT (F0 m pc ls []))
set_option maxHeartbeats 4000000 in
theorem m_step_ret {C : mC} {rt : Option FieldType} {kd mc ms : Nat} {QM : mK} {pc nx a b : Nat} {i : Instr} {v : Value} {sw : List (Int32 × Nat)} {lo : List (Option Value)} {st : List Value} {sh : List mS} {I : Nat → Nat → Int32} {L : Nat → Nat → Int64} {ce sl : Nat}
    (hR : m_Ret p l e R s m args below meth c QT ad aC dC dI base cc rt mc ms QM)
    (hd : decode cc pc = .ok (i, m_len i (nx - pc)))
    (hF : m_G XL XS C rt kd mc ms QM (m_PW p l e R s m args below meth c QT nL ad aC dC dI base) i nx a b v sw lo st sh I L ce sl)
    (hcase : m_grp i = 3) :
    m_PW p l e R s m args below meth c QT nL ad aC dC dI base (pc, lo, st, (sh, I, L), ce, sl) := by
  intro H locs ls hP hsz hlen hS hl
  cases i with
  | ireturn =>
    have hd : decode cc pc = .ok (.ireturn, 1) := hd
    simp only [m_G] at hF
    split at hF
    · rename_i x
      split at hF
      · split at hF
        · rename_i hg
          obtain ⟨h1, h2⟩ := m_and hg
          have h1 := m_beq h1
          have h2 := m_beq h2
          subst h1
          subst h2
          exact (hR (some (.int x)) (sh, I, L) H locs ls pc hF hP hsz hlen hS).1 x .int rfl rfl rfl hd
        · exact hF.elim
      · rename_i ty hty
        split at hF
        · rename_i hg
          obtain ⟨h1, h2⟩ := m_and hg
          have h1 := m_beq h1
          have h2 := m_beq h2
          subst h1
          subst h2
          exact (hR (some (.int x)) (sh, I, L) H locs ls pc hF.2 hP hsz hlen hS).1 x ty rfl rfl hF.1 hd
        · exact hF.elim
      · exact hF.elim
    · exact hF.elim
  | lreturn =>
    have hd : decode cc pc = .ok (.lreturn, 1) := hd
    simp only [m_G] at hF
    split at hF
    · rename_i x
      split at hF
      · split at hF
        · rename_i hg
          obtain ⟨h1, h2⟩ := m_and hg
          have h1 := m_beq h1
          have h2 := m_beq h2
          subst h1
          subst h2
          exact (hR (some (.long x)) (sh, I, L) H locs ls pc hF hP hsz hlen hS).2.1 x rfl rfl hd
        · exact hF.elim
      · exact hF.elim
    · exact hF.elim
  | return_ =>
    have hd : decode cc pc = .ok (.return_, 1) := hd
    simp only [m_G] at hF
    split at hF
    · split at hF
      · split at hF
        · rename_i hg
          obtain ⟨h1, h2⟩ := m_and hg
          have h1 := m_beq h1
          have h2 := m_beq h2
          subst h1
          subst h2
          exact (hR none (sh, I, L) H locs ls pc hF hP hsz hlen hS).2.2 rfl rfl hd
        · exact hF.elim
      · exact hF.elim
    · exact hF.elim
  | _ => simp [m_grp] at hcase
theorem m_step (Cx : m_Cx p R s m args c cc nL oi ad aC dC dI base XL XS d) {C : mC} {cd : mL} {rt : Option FieldType} {kd mc ms : Nat} {QM : mK} (hok : m_okC oi cc cd = true)
    (hin : ∀ x, kd = 100 + x → meth.name = "<init>" ∧ x = oi) (hC : ∀ id as w K, C id as w K → m_Met l ad aC dC dI base XL XS d id as w K) (hRR : mc ≤ R.cells ∧ ms ≤ R.slots)
    (hR : m_Ret p l e R s m args below meth c QT ad aC dC dI base cc rt mc ms QM) :
    ∀ t, m_F XL XS C cd rt kd mc ms QM (m_PW p l e R s m args below meth c QT nL ad aC dC dI base) t → m_PW p l e R s m args below meth c QT nL ad aC dC dI base t := by
  intro t hF
  obtain ⟨pc, lo, st, ⟨sh, I, L⟩, ce, sl⟩ := t
  simp only [m_F] at hF
  split at hF
  · rename_i q1 i nx a b v sw hat
    obtain ⟨h1, h2, h3, h4⟩ := m_okI_of hok hat
    simp only at h1 h2 h3
    subst h1
    have hg3 := m_grp3 i
    have hg : m_grp i = 0 ∨ m_grp i = 1 ∨ m_grp i = 2 ∨ m_grp i = 3 := by omega
    rcases hg with hg | hg | hg | hg
    · exact m_step_stack Cx h2 h3 h4 hF hg
    · exact m_step_mem Cx hin h2 h3 h4 hF hg
    · exact m_step_call Cx hC hRR h2 h3 h4 hF hg
    · exact m_step_ret hR h2 hF hg
  · exact hF.elim
end MRET
/-- the words as packedWord packs them -/
def m_pwv (i : Nat) : Int64 := ((m_strT.getD i "").toList).foldl (fun a ch => (a <<< ((8 : Int32).toInt64 &&& 63)) ||| (Int32.ofNat ch.toNat).toInt64) 0
def m_pwC : List Value → mW → mK → Prop := fun as w K => ∃ i, i < 15 ∧ as = [.ref (1000000 + i)] ∧ K (some (.long (m_pwv i))) w
def m_kdc (kd oi : Nat) : Nat := match kd with
  | 2 => 100 + oi
  | _ => 0
/-- calls of at most d frames -/
def m_C (XL : Nat) (XS : Nat → Int32) : Nat → mC
  | 0 => fun _ _ _ _ => False
  | d + 1 => fun id as w K => match Nat.beq id 62 with
    | true => m_pwC as w K
    | false => match m_nth m_tab id with
      | none => False
      | some M => (m_ent as).length ≤ M.2.2.1 ∧ m_WP XL XS (m_C XL XS d) M.2.2.2.2.2.2.2 M.2.2.2.1 (m_kdc M.2.2.2.2.1 M.2.2.2.2.2.1) (m_cost id).1 (m_cost id).2 K (0, m_pad M.2.2.1 (m_ent as), [], w, 0, 0)
set_option maxHeartbeats 4000000 in
theorem m_met_open {l : Launch} {ad : Nat → Nat} {aC : FieldType → ClassId} {dC : Nat → ClassId} {dI : Nat → Nat → Nat} {base XL : Nat} {XS : Nat → Int32} (had : ∀ k, k < 1000000 → ad k = base + k)
    (hPW : ∀ d as w K, m_pwC as w K → m_Met l ad aC dC dI base XL XS (d + 1) 62 as w K) :
    ∀ (d id : Nat) (as : List Value) (w : mW) (K : mK), m_C XL XS d id as w K → m_Met l ad aC dC dI base XL XS d id as w K := by
  intro d
  induction d with
  | zero => intro id as w K h; exact h.elim
  | succ d ih =>
    intro id as w K h
    simp only [m_C] at h
    split at h
    · rename_i h62
      have h62 := m_beq h62
      subst h62
      exact hPW d as w K h
    · intro M hM
      rw [hM] at h
      obtain ⟨hel, h⟩ := h
      have hMok := m_tabok hM
      obtain ⟨w1, w2, w3, ⟨w4, w5, w6, w7, w8, w9, w10, w11⟩, w12⟩ := hMok
      refine Met.ofW (cc := M.2.1) (maxL := M.2.2.1) (ret := M.2.2.2.1) w4 rfl ?_
      intro p e s m args below meth c s₁ B hml hv
      obtain ⟨rfl, hctx, hHp, hz, hlen⟩ := hv
      have hts0 := atoms_spec (ws := Cond.code M.1 M.2.1 M.2.2.1 M.2.2.2.1 :: m_ws) B.pre
      have hts : ∀ w ∈ m_ws, w.before (as.map (m_tr ad)).toArray s = true := fun w hw => hts0 w (List.mem_cons_of_mem _ hw)
      have hown : s.vm.findClass M.1.cls = some m.cls := findClass_of_methodNamed B.named
      rw [w5] at hown
      have hlocks := B.notSynchronized
      have Cx : m_Cx p (headSpec (Cond.code M.1 M.2.1 M.2.2.1 M.2.2.2.1 :: m_ws) (m_rm (d + 1) id)).room s m (as.map (m_tr ad)).toArray c M.2.1 M.2.2.1 M.2.2.2.2.2.1 ad aC dC dI base XL XS d :=
        ⟨B.exec, B.bytes, hml, hown, hts, hctx, had, Nat.le_refl _, by show 64 * d + 64 ≤ 64 * (d + 1); omega⟩
      have hin : ∀ x, m_kdc M.2.2.2.2.1 M.2.2.2.2.2.1 = 100 + x → meth.name = "<init>" ∧ x = M.2.2.2.2.2.1 := by
        intro x hxx
        have hk : M.2.2.2.2.1 = 2 := by
          unfold m_kdc at hxx
          split at hxx
          · assumption
          · omega
        rw [hk] at w3 hxx
        have hnm := (name_of_methodNamed B.named B.method).1
        refine ⟨by rw [hnm]; exact w3.2.1, ?_⟩
        have : 100 + M.2.2.2.2.2.1 = 100 + x := hxx
        omega
      have hR : m_Ret p l e (headSpec (Cond.code M.1 M.2.1 M.2.2.1 M.2.2.2.1 :: m_ws) (m_rm (d + 1) id)).room s m (as.map (m_tr ad)).toArray below meth c (MQ below (m_Qc ad aC dC dI base K (w.1.length + (m_cost id).1)) (as.map (m_tr ad)).toArray s (m_cost id).1 (m_cost id).2 (fun q => base ≤ q)) ad aC dC dI base M.2.1 M.2.2.2.1 (m_cost id).1 (m_cost id).2 K := by
        intro rv w' H locs ls pc hK hP hsz hl hS
        have fin : ∀ t : State, t.heap = H → s.WarmedH t.vm → m_Qc ad aC dC dI base K (w.1.length + (m_cost id).1) (as.map (m_tr ad)).toArray s (.returned (rv.map (m_tr ad))) t := by
          intro t ht hW
          refine ⟨rv, w', hK, rfl, by rw [ht]; exact hP, by omega, hl, fun q hq => by rw [ht]; exact hS.2.1 q (by omega) (by omega)⟩
        refine ⟨fun x ty hrv hrt hn hdg => ?_, fun x hrv hrt hdg => ?_, fun hrv hrt hdg => ?_⟩
        · subst hrv
          exact W.zret B.exec B.bytes (by rw [B.returns, hrt]) hn fin hS.2.2 hdg
        · subst hrv
          exact W.lret B.exec B.bytes (by rw [B.returns, hrt]) fin hS.2.2 hdg
        · subst hrv
          exact W.vret B.exec B.bytes (by rw [B.returns, hrt]) fin hS.2.2 hdg
      have key := h _ (m_step (p := p) (l := l) (e := e) (R := (headSpec (Cond.code M.1 M.2.1 M.2.2.1 M.2.2.2.1 :: m_ws) (m_rm (d + 1) id)).room) (s := s) (m := m) (below := below) (meth := meth) (c := c) Cx w12 hin ih ⟨Nat.le_refl _, Nat.le_refl _⟩ hR)
      rw [lg_entry_eq]
      obtain ⟨sh, I, L⟩ := w
      exact key s.heap [] _ hHp (by simp only at hz; omega) hlen va_S.rf (m_lh_entry ad as M.2.2.1 hel)
end
section
/-! ===== the law's start ===== -/
def R_law : String := "SwitchRulesLaw"
def lw_P (b : Addr) (xs : List Int32) (args : Array Value) (s : State) : Prop := args = #[.ref b] ∧ s.IntsAt b xs ∧ xs.length ≤ 256 ∧ (Jvm.Cond.and given_1 narrow_1).before args s = true
def lw_Q (_ : Array Value) (s : State) (o : Outcome) (t : State) : Prop := o = .returned (some (.int 1)) ∧ Framed s o t [] 600000 7302250
def lw_Z (below : List Frame) (a : Array Value) (s : State) : State → Prop := fun t => ∃ o, t.status = .running ∧ Ended t below o ∧ lw_Q a s o t
/-- the law's own end, with 1 on the stack, nothing written that was there before, its room as the claim has it -/
theorem lw_ret {p : Program} {l : Launch} {e : Env} {s : State} {m : MethodId} {below : List Frame} {meth : Method} {c : Code} {b : Nat} (hx : p.tables.exec = Jvm.exec) (hb : c.code = code) (hr : meth.sig.returnType = ret) (hlocks : meth.locks = false) {pc : Nat} {H : Heap} {ls : Array Slot} (hdg : decode code pc = .ok (.ireturn, 1)) : W p l e room_1 s m #[Value.ref b] below meth c H [] 600000 7302250 (lw_Z below #[Value.ref b] s) (F0 m pc ls [.int 1]) := by
  intro T hT X
  obtain ⟨fs, hret, hrun, hended, hW, hframe⟩ := X.leave (v := some (.int 1)) (hlocks := hlocks) (fun h => by rw [hr] at h; cases h)
  have hmeth' : T.vm.method? m = some meth := X.method'
  refine ⟨T.setFrames fs, ?_, .returned (some (.int 1)), hrun, hended, rfl, ⟨_, rfl⟩, hW, hframe⟩
  jvm_step X.here [X.here.top, hx, hb, hdg, hmeth', hr, ret, narrow_b1]
  (try refine ⟨rfl, ?_⟩); (try refine ⟨rfl, ?_⟩)
  first | (intro acts; rw [hret _ acts rfl rfl rfl]) | rw [hret _ _ rfl rfl rfl]
  exact Steps.refl _
/-- what holds at the law's entry: the machine, the code, the tables' words (any of lw_tbl by 'hts w (by decide +kernel)'), the script of L ints xs at the cell b, what the Statement gives of the start (any of its parts by flat_of_before) -/
def lw_At (p : Program) (s : State) (m : MethodId) (meth : Method) (c : Code) (b L : Nat) (xs : Nat → Int32) : Prop :=
  p.tables.exec = Jvm.exec ∧ c.code = code ∧ meth.sig.returnType = ret ∧ c.maxLocals = 4 ∧ s.vm.findClass R_law = some m.cls ∧ (∀ w ∈ lw_tbl, w.before #[Value.ref b] s = true) ∧ va_X b L xs s s.heap ∧ b < s.heap.size ∧ meth.locks = false ∧ (Jvm.Cond.and given_1 narrow_1).before #[Value.ref b] s = true
def m_npL : List (Nat × Nat × Nat) := [(0, 1, 27), (0, 2, 37), (0, 3, 49), (0, 4, 60), (0, 5, 72), (0, 6, 88), (0, 7, 101), (0, 8, 115), (0, 9, 130), (0, 10, 148), (0, 11, 167), (0, 12, 187), (0, 13, 205), (0, 14, 226), (1, 2, 38), (1, 3, 50), (1, 4, 61), (1, 5, 73), (1, 6, 89), (1, 7, 102), (1, 8, 116), (1, 9, 131), (1, 10, 149), (1, 11, 168), (1, 12, 188), (1, 13, 206), (1, 14, 227), (2, 3, 51), (2, 4, 62), (2, 5, 74), (2, 6, 90), (2, 7, 103), (2, 8, 117), (2, 9, 132), (2, 10, 150), (2, 11, 169), (2, 12, 189), (2, 13, 207), (2, 14, 228), (3, 4, 63), (3, 5, 75), (3, 6, 91), (3, 7, 104), (3, 8, 118), (3, 9, 133), (3, 10, 151), (3, 11, 170), (3, 12, 190), (3, 13, 208), (3, 14, 229), (4, 5, 76), (4, 6, 92), (4, 7, 105), (4, 8, 119), (4, 9, 134), (4, 10, 152), (4, 11, 171), (4, 12, 191), (4, 13, 209), (4, 14, 230), (5, 6, 93), (5, 7, 106), (5, 8, 120), (5, 9, 135), (5, 10, 153), (5, 11, 172), (5, 12, 192), (5, 13, 210), (5, 14, 231), (6, 7, 107), (6, 8, 121), (6, 9, 136), (6, 10, 154), (6, 11, 173), (6, 12, 193), (6, 13, 211), (6, 14, 232), (7, 8, 122), (7, 9, 137), (7, 10, 155), (7, 11, 174), (7, 12, 194), (7, 13, 212), (7, 14, 233), (8, 9, 138), (8, 10, 156), (8, 11, 175), (8, 12, 195), (8, 13, 213), (8, 14, 234), (9, 10, 157), (9, 11, 176), (9, 12, 196), (9, 13, 214), (9, 14, 235), (10, 11, 177), (10, 12, 197), (10, 13, 215), (10, 14, 236), (11, 12, 198), (11, 13, 216), (11, 14, 237), (12, 13, 217), (12, 14, 238), (13, 14, 239)]
def m_tm (i : Nat) : Term := .string RX6 (m_strL.getD i 0)
theorem m_law_class (ci : Nat) (h : ci ≤ 9) : Cond.instantiable (m_RR ci) (m_NN ci) ∈ m_ws := by
  have hall : ∀ ci : Fin 10, ∃ q ∈ m_lkC, q.2.2 = ci.val := by decide +kernel
  obtain ⟨q, hq, he⟩ := hall ⟨ci, by omega⟩
  have := (m_lkC_ok q hq).2.1
  rw [he] at this
  exact this
theorem m_arr {s : State} {args : Array Value} {ty : FieldType} (h6 : m_t6 ty = true) (h : (Cond.arrayClass ty).before args s = true) : ∃ cA, ArrOfT s cA ty ∧ va_RA s cA ty := by
  obtain ⟨cA, kA, comp, h1, h2, h3⟩ := Cond.arrayClass_spec h
  refine ⟨cA, fun n z => ⟨fun k h => (by cases h), kA, h2, comp, h3⟩, ?_⟩
  cases ty <;> first | (cases h6; done) | exact h1
set_option maxHeartbeats 4000000 in
set_option maxRecDepth 100000 in
theorem m_ctx0 {s : State} {b L : Nat} {xs : Nat → Int32} (hts : ∀ w ∈ lw_tbl, w.before #[Value.ref b] s = true) (hX : va_X b L xs s s.heap) (hbl : b < s.heap.size) (hgv : (Jvm.Cond.and given_1 narrow_1).before #[Value.ref b] s = true) :
    ∃ (ad : Nat → Nat) (aC : FieldType → ClassId) (dC : Nat → ClassId) (dI : Nat → Nat → Nat), (∀ k, k < 1000000 → ad k = s.heap.size + k) ∧ ad 3000000 = b ∧ m_Ctx ad aC dC dI s.heap.size L xs s := by
  have htw : ∀ w ∈ m_ws, w.before #[Value.ref b] s = true := fun w hw => hts w (List.mem_filter.mp hw).1
  have hA : ∀ a : Nat, a < s.heap.size → ¬ (fun q => s.heap.size ≤ q) a := fun a h => Nat.not_le.mpr h
  have hs := flat_of_before _ hgv
  -- classes
  have hk : ∀ k : Nat, ∃ q : ClassId × (Nat → Nat), k ≤ 9 → u_Kn s (m_RR k) (m_TT k) (m_NN k) q.1 q.2 := by
    intro k
    by_cases h : k ≤ 9
    · obtain ⟨c0, i0, h0⟩ := u_known (C := m_RR k) (T := m_TT k) (N := m_NN k) (n := m_NN k) htw (m_lay k h) (htw _ (m_law_class k h))
      exact ⟨(c0, i0), fun _ => h0⟩
    · exact ⟨(0, fun _ => 0), fun h2 => absurd h2 h⟩
  obtain ⟨dd, hdd⟩ := Classical.axiomOfChoice hk
  -- array classes
  obtain ⟨aB, hB⟩ := m_arr (ty := .byte) rfl (htw _ m_ac_byte)
  obtain ⟨aCh, hCh⟩ := m_arr (ty := .char) rfl (htw _ m_ac_char)
  obtain ⟨aI, hI⟩ := m_arr (ty := .int) rfl (htw _ m_ac_int)
  obtain ⟨aL, hLg⟩ := m_arr (ty := .long) rfl (htw _ m_ac_long)
  obtain ⟨aS, hSh⟩ := m_arr (ty := .short) rfl (htw _ m_ac_short)
  obtain ⟨aZ, hZ⟩ := m_arr (ty := .boolean) rfl (htw _ m_ac_boolean)
  -- Strings
  have c1 : ∀ i : Fin 15, Cond.exactly (m_tm i.val) "java/lang/String" ∈ flatC (Jvm.Cond.and given_1 narrow_1) := by decide +kernel
  have c2 : ∀ i : Fin 15, Cond.eq (.field (m_tm i.val) "java/lang/String" "coder" "B") (.int 0) ∈ flatC (Jvm.Cond.and given_1 narrow_1) := by decide +kernel
  have c3 : ∀ i : Fin 15, Cond.arrayOf (.field (m_tm i.val) "java/lang/String" "value" "[B") .byte ∈ flatC (Jvm.Cond.and given_1 narrow_1) := by decide +kernel
  have c4 : ∀ i : Fin 15, Cond.eq (.length (.field (m_tm i.val) "java/lang/String" "value" "[B")) (.int (Int32.ofNat (m_slen.getD i.val 0))) ∈ flatC (Jvm.Cond.and given_1 narrow_1) := by decide +kernel
  have c5 : ∀ i : Fin 15, ∀ j : Fin 8, j.val < m_slen.getD i.val 0 → Cond.eq (.elem (.field (m_tm i.val) "java/lang/String" "value" "[B") (.int (Int32.ofNat j.val))) (.int ((m_sbyt.getD i.val []).getD j.val 0)) ∈ flatC (Jvm.Cond.and given_1 narrow_1) := by decide +kernel
  have c6 : ∀ q ∈ m_npL, (flatC (Jvm.Cond.and given_1 narrow_1))[q.2.2]? = some (Cond.not (Cond.eq (m_tm q.1) (m_tm q.2.1))) := by decide +kernel
  have c8 : ∀ i j : Fin 15, i.val < j.val → ∃ q ∈ m_npL, q.1 = i.val ∧ q.2.1 = j.val := by decide +kernel
  have c9 : ∀ i j : Nat, i < j → j < 15 → Cond.not (Cond.eq (m_tm i) (m_tm j)) ∈ flatC (Jvm.Cond.and given_1 narrow_1) := by
    intro i j hij hj
    obtain ⟨q, hq, e1, e2⟩ := c8 ⟨i, by omega⟩ ⟨j, hj⟩ hij
    simp only at e1 e2
    have := List.mem_of_getElem? (c6 q hq)
    rw [e1, e2] at this
    exact this
  have c7 : ∀ i : Fin 15, m_slen.getD i.val 0 < 8 := by decide +kernel
  obtain ⟨adK, adV, hvS, hvE⟩ := vk_Sof (args := #[Value.ref b]) (s := s) (N := 15) (tm := m_tm) (len := m_slen) (byt := m_sbyt) (A := fun q => s.heap.size ≤ q) (fun i hi => by have := c7 ⟨i, hi⟩; simp only at this; omega) (fun i hi => hs _ (c1 ⟨i, hi⟩)) (fun i hi => hs _ (c2 ⟨i, hi⟩)) (fun i hi => hs _ (c3 ⟨i, hi⟩)) (fun i hi => hs _ (c4 ⟨i, hi⟩)) (fun i hi j hj => hs _ (c5 ⟨i, hi⟩ ⟨j, by have := c7 ⟨i, hi⟩; simp only at this; omega⟩ hj)) (fun i j hi hj hij => by
    rcases Nat.lt_or_ge i j with h | h
    · exact Or.inl (hs _ (c9 i j h hj))
    · exact Or.inr (hs _ (c9 j i (by omega) hi))) hA
  refine ⟨fun k => if k < 1000000 then s.heap.size + k else if k < 2000000 then adK (k - 1000000) else if k < 3000000 then adV (k - 2000000) else b, fun ty => match ty with | .byte => aB | .char => aCh | .int => aI | .long => aL | .short => aS | _ => aZ, fun k => (dd k).1, fun k => (dd k).2, fun k hk => by simp [hk], by simp, ?_⟩
  refine ⟨⟨fun k q hq => ?_, fun k q hq => ?_⟩, fun w hw => ?_, ⟨by simpa using hX, by simpa using hbl⟩, fun i hi => ?_, ?_, ?_, ?_, Nat.le_refl _⟩
  · have hk9 : k ≤ 9 := by
      have := (List.getElem?_eq_some_iff.mp hq).1
      simp only [vwCl, List.length_cons, List.length_nil] at this
      omega
    rw [m_cl k hk9] at hq
    cases hq
    exact hdd k hk9
  · match k, hq with
    | 0, hq => cases hq; exact hB
    | 1, hq => cases hq; exact hCh
    | 2, hq => cases hq; exact hI
    | 3, hq => cases hq; exact hLg
    | 4, hq => cases hq; exact hSh
    | 5, hq => cases hq; exact hZ
    | k + 6, hq => simp [m_tys] at hq
  · have hn := (List.mem_filter.mp hw).2
    have hb := hts w (List.mem_filter.mp hw).1
    cases w <;> first | (cases hn; done) | exact va_Nw.of rfl hb
  · have h1 : ¬ (1000000 + i < 1000000) := by omega
    have h2 : 1000000 + i < 2000000 := by omega
    simp only [h1, h2, if_false, if_true, Nat.add_sub_cancel_left]
    exact vk_R.of (A := #[Value.ref b]) (hts _ (m_str_ok i hi)) (hvE i hi)
  · have e1 : ∀ i, i < 15 → (if 1000000 + i < 1000000 then s.heap.size + (1000000 + i) else if 1000000 + i < 2000000 then adK (1000000 + i - 1000000) else if 1000000 + i < 3000000 then adV (1000000 + i - 2000000) else b) = adK i := by
      intro i hi
      rw [if_neg (by omega), if_pos (by omega), Nat.add_sub_cancel_left]
    have e2 : ∀ i, i < 15 → (if 2000000 + i < 1000000 then s.heap.size + (2000000 + i) else if 2000000 + i < 2000000 then adK (2000000 + i - 1000000) else if 2000000 + i < 3000000 then adV (2000000 + i - 2000000) else b) = adV i := by
      intro i hi
      rw [if_neg (by omega), if_neg (by omega), if_pos (by omega), Nat.add_sub_cancel_left]
    refine ⟨fun i hi => ?_, fun i j hi hj hij => ?_⟩
    · have := hvS.1 i hi
      simp only [e1 i hi, e2 i hi]
      exact this
    · simp only [e1 i hi, e1 j hj] at hij
      exact hvS.2 i j hi hj hij
  · exact va_Zof (hts _ (by decide +kernel)) (hts _ (by decide +kernel)) (va_eqi (hs _ (by decide +kernel))) hA
  · exact va_Zqof (hts _ (by decide +kernel)) (hts _ (by decide +kernel)) (hs _ (by decide +kernel)) hA
set_option maxHeartbeats 4000000 in
/-- the law, out of a walk of the small machine -/
theorem m_whole_open {p : Program} {e : Env} {s : State} {m : MethodId} {below : List Frame} {meth : Method} {c : Code} (l : Launch) {b L : Nat} {xs : Nat → Int32} (C0 : lw_At p s m meth c b L xs)
    (hPW : ∀ (ad : Nat → Nat) (aC : FieldType → ClassId) (dC : Nat → ClassId) (dI : Nat → Nat → Nat) (base d : Nat) (as : List Value) (w : mW) (K : mK), m_pwC as w K → m_Met l ad aC dC dI base L xs (d + 1) 62 as w K)
    (hwp : m_WP L xs (m_C L xs 100) kL_law (some .boolean) 0 57 20924 (fun r _ => r = some (.int 1)) (0, m_pad 4 (m_ent [.ref 3000000]), [], ([], fun _ _ => 0, fun _ _ => 0), 0, 0)) :
    W p l e room_1 s m #[Value.ref b] below meth c s.heap [] 0 0 (lw_Z below #[Value.ref b] s) (entryFrame m ([Value.ref b] : List Value).toArray 4) := by
  obtain ⟨hx, hb, hr, hml, hown, hts, hX, hbl, hlocks, hgv⟩ := C0
  obtain ⟨ad, aC, dC, dI, had, hab, hctx⟩ := m_ctx0 hts hX hbl hgv
  have htw : ∀ w ∈ m_ws, w.before #[Value.ref b] s = true := fun w hw => hts w (List.mem_filter.mp hw).1
  have Cx : m_Cx p room_1 s m #[Value.ref b] c code 4 10 ad aC dC dI s.heap.size L xs 100 := ⟨hx, hb, hml, hown, htw, hctx, had, by decide, by decide⟩
  have hR : m_Ret p l e room_1 s m #[Value.ref b] below meth c (lw_Z below #[Value.ref b] s) ad aC dC dI s.heap.size code (some .boolean) 57 20924 (fun r _ => r = some (.int 1)) := by
    intro rv w H locs ls pc hq hP hsz hl hS
    refine ⟨fun x ty hrv hrt hn hdg => ?_, fun x hrv hrt hdg => (by cases hrt), fun hrv hrt hdg => (by cases hrt)⟩
    rw [hrv] at hq
    cases hq
    refine va_forget (fun q hq => hS.2.2 q hq) ?_
    refine W.widen (k := 600000) (n := 7302250) (by decide) (by decide) ?_
    exact lw_ret hx hb hr hlocks hdg
  have key := hwp _ (m_step (p := p) (l := l) (e := e) (R := room_1) (s := s) (m := m) (below := below) (meth := meth) (c := c) (QT := lw_Z below #[Value.ref b] s) Cx kL_law_ok (fun x h => by omega) (m_met_open had (fun d as w K h => hPW ad aC dC dI s.heap.size d as w K h) 100) ⟨by decide, by decide⟩ hR)
  have he : ([Value.ref b] : List Value) = ([.ref 3000000] : List Value).map (m_tr ad) := by simp [m_tr, hab]
  have hlh := m_lh_entry ad [.ref 3000000] 4 (by decide)
  rw [← he] at hlh
  rw [lg_entry_eq]
  exact key s.heap [] _ (fun k q h => by simp [m_wl] at h) (by simp) (by simp) va_S.rf hlh
end
section
/-! ===== the world behind both constructors, and the methods' starts ===== -/
def m_SH : List mS := [.inr (8, [some (some 1), some (some 3), some (some 8), some (some 17), some (some 23), some (some 27)]), .inr (2, [some (some 2), none]), .inl (.char, 3000), .inr (6, [some (some 4), some (some 5), some (some 6), some (some 7), none]), .inl (.byte, 3001), .inl (.short, 3001), .inl (.long, 3001), .inl (.long, 15), .inr (7, [none, none, none, none, none, none, none, none, none, some (some 9), some (some 10), some (some 11), some (some 12), some (some 13)]), .inl (.int, 20), .inl (.int, 32), .inl (.int, 32), .inl (.long, 32), .inr (0, [some (some 14), some (some 15), some (some 16), none]), .inl (.byte, 260), .inl (.int, 260), .inl (.int, 260), .inr (1, [some (some 3), some (some 8), some (some 18), some (some 20), some (some 21), some (some 22), none, none, none, none, none]), .inr (4, [some (some 19), none, none]), .inl (.long, 20), .inl (.long, 4), .inl (.int, 4), .inl (.long, 64), .inr (5, [some (some 24), some (some 25), some (some 26), none]), .inl (.int, 32), .inl (.int, 32), .inl (.int, 32), .inr (3, [some (some 28), some (some 29), none, none, none]), .inl (.int, 120), .inl (.int, 20), .inr (9, [some (some 31), some (some 32), none, none, none, none, none, none, none, none, none, none, none, some (some 33), some (some 34), some (some 35), none, none, none, none, some (some 36), none, some (some 37), some (some 38), some (some 39), some (some 40), none, none, none, none, some (some 41), some (some 42), some (some 43), none, some (some 44), none, none, some (some 45), some (some 46), some (some 47), some (some 48), some (some 49), some (some 50), some (some 51), none, none, none, none, none, none, some (some 52), some (some 53), none, some (some 54), some (some 55), some (some 56)]), .inl (.long, 15), .inl (.byte, 3000), .inl (.long, 4), .inl (.int, 4), .inl (.long, 64), .inl (.int, 21), .inl (.int, 32), .inl (.int, 32), .inl (.long, 32), .inl (.int, 32), .inl (.int, 700), .inl (.int, 700), .inl (.int, 700), .inl (.long, 20), .inl (.int, 200), .inl (.boolean, 200), .inl (.int, 200), .inl (.int, 200), .inl (.int, 200), .inl (.int, 200), .inl (.int, 200), .inl (.int, 700), .inl (.int, 20), .inl (.int, 32), .inl (.int, 32), .inl (.int, 32)]
/-- calls of at least so many frames -/
def m_Ge (XL : Nat) (XS : Nat → Int32) (n : Nat) (C : mC) : Prop := ∃ d, n ≤ d ∧ C = m_C XL XS d
theorem m_Ge.le {XL : Nat} {XS : Nat → Int32} {n k : Nat} {C : mC} (h : m_Ge XL XS n C) (hk : k ≤ n) : m_Ge XL XS k C := by
  obtain ⟨d, h1, h2⟩ := h
  exact ⟨d, Nat.le_trans hk h1, h2⟩
theorem m_enter {XL : Nat} {XS : Nat → Int32} {n id : Nat} {C : mC} {as : List Value} {w : mW} {K : mK} {M : mM} (hM : m_nth m_tab id = some M) (h62 : Nat.beq id 62 = false) (hC : m_Ge XL XS (n + 1) C) (hel : (m_ent as).length ≤ M.2.2.1)
    (h : ∀ C', m_Ge XL XS n C' → ∀ P : mT → Prop, (∀ t, m_F XL XS C' M.2.2.2.2.2.2.2 M.2.2.2.1 (m_kdc M.2.2.2.2.1 M.2.2.2.2.2.1) (m_cost id).1 (m_cost id).2 K P t → P t) → P (0, m_pad M.2.2.1 (m_ent as), [], w, 0, 0)) : C id as w K := by
  obtain ⟨d, hd, rfl⟩ := hC
  obtain ⟨d', rfl⟩ : ∃ d', d = d' + 1 := ⟨d - 1, by omega⟩
  simp only [m_C, h62, hM]
  exact ⟨hel, fun P hP => h _ ⟨d', by omega, rfl⟩ P hP⟩
theorem e_X0_init {XL : Nat} {XS : Nat → Int32} {n : Nat} {C : mC} {as : List Value} {w : mW} {K : mK} (hC : m_Ge XL XS (n + 1) C) (hel : (m_ent as).length ≤ 1) (h : ∀ C', m_Ge XL XS n C' → ∀ P : mT → Prop, (∀ t, m_F XL XS C' kX0_init none 100 3 780 K P t → P t) → P (0, m_pad 1 (m_ent as), [], w, 0, 0)) : C 0 as w K :=
  m_enter (M := (yX0_init, cX0_init, 1, none, 2, 0, 1, kX0_init)) rfl rfl hC hel h
theorem e_X0_step {XL : Nat} {XS : Nat → Int32} {n : Nat} {C : mC} {as : List Value} {w : mW} {K : mK} (hC : m_Ge XL XS (n + 1) C) (hel : (m_ent as).length ≤ 4) (h : ∀ C', m_Ge XL XS n C' → ∀ P : mT → Prop, (∀ t, m_F XL XS C' kX0_step none 0 0 0 K P t → P t) → P (0, m_pad 4 (m_ent as), [], w, 0, 0)) : C 1 as w K :=
  m_enter (M := (yX0_step, cX0_step, 4, none, 0, 0, 4, kX0_step)) rfl rfl hC hel h
theorem e_X0_leadHere {XL : Nat} {XS : Nat → Int32} {n : Nat} {C : mC} {as : List Value} {w : mW} {K : mK} (hC : m_Ge XL XS (n + 1) C) (hel : (m_ent as).length ≤ 2) (h : ∀ C', m_Ge XL XS n C' → ∀ P : mT → Prop, (∀ t, m_F XL XS C' kX0_leadHere none 0 0 0 K P t → P t) → P (0, m_pad 2 (m_ent as), [], w, 0, 0)) : C 2 as w K :=
  m_enter (M := (yX0_leadHere, cX0_leadHere, 2, none, 0, 0, 2, kX0_leadHere)) rfl rfl hC hel h
theorem e_X1_init {XL : Nat} {XS : Nat → Int32} {n : Nat} {C : mC} {as : List Value} {w : mW} {K : mK} (hC : m_Ge XL XS (n + 1) C) (hel : (m_ent as).length ≤ 3) (h : ∀ C', m_Ge XL XS n C' → ∀ P : mT → Prop, (∀ t, m_F XL XS C' kX1_init none 101 5 95 K P t → P t) → P (0, m_pad 3 (m_ent as), [], w, 0, 0)) : C 3 as w K :=
  m_enter (M := (yX1_init, cX1_init, 3, none, 2, 1, 3, kX1_init)) rfl rfl hC hel h
theorem e_X1_begin {XL : Nat} {XS : Nat → Int32} {n : Nat} {C : mC} {as : List Value} {w : mW} {K : mK} (hC : m_Ge XL XS (n + 1) C) (hel : (m_ent as).length ≤ 1) (h : ∀ C', m_Ge XL XS n C' → ∀ P : mT → Prop, (∀ t, m_F XL XS C' kX1_begin none 0 0 0 K P t → P t) → P (0, m_pad 1 (m_ent as), [], w, 0, 0)) : C 4 as w K :=
  m_enter (M := (yX1_begin, cX1_begin, 1, none, 0, 1, 1, kX1_begin)) rfl rfl hC hel h
theorem e_X1_kind {XL : Nat} {XS : Nat → Int32} {n : Nat} {C : mC} {as : List Value} {w : mW} {K : mK} (hC : m_Ge XL XS (n + 1) C) (hel : (m_ent as).length ≤ 1) (h : ∀ C', m_Ge XL XS n C' → ∀ P : mT → Prop, (∀ t, m_F XL XS C' kX1_kind (some .int) 0 0 0 K P t → P t) → P (0, m_pad 1 (m_ent as), [], w, 0, 0)) : C 5 as w K :=
  m_enter (M := (yX1_kind, cX1_kind, 1, (some .int), 0, 1, 1, kX1_kind)) rfl rfl hC hel h
theorem e_X1_tokenValue {XL : Nat} {XS : Nat → Int32} {n : Nat} {C : mC} {as : List Value} {w : mW} {K : mK} (hC : m_Ge XL XS (n + 1) C) (hel : (m_ent as).length ≤ 1) (h : ∀ C', m_Ge XL XS n C' → ∀ P : mT → Prop, (∀ t, m_F XL XS C' kX1_tokenValue (some .long) 0 0 0 K P t → P t) → P (0, m_pad 1 (m_ent as), [], w, 0, 0)) : C 6 as w K :=
  m_enter (M := (yX1_tokenValue, cX1_tokenValue, 1, (some .long), 0, 1, 1, kX1_tokenValue)) rfl rfl hC hel h
theorem e_X1_fail {XL : Nat} {XS : Nat → Int32} {n : Nat} {C : mC} {as : List Value} {w : mW} {K : mK} (hC : m_Ge XL XS (n + 1) C) (hel : (m_ent as).length ≤ 3) (h : ∀ C', m_Ge XL XS n C' → ∀ P : mT → Prop, (∀ t, m_F XL XS C' kX1_fail none 0 0 0 K P t → P t) → P (0, m_pad 3 (m_ent as), [], w, 0, 0)) : C 7 as w K :=
  m_enter (M := (yX1_fail, cX1_fail, 3, none, 0, 1, 3, kX1_fail)) rfl rfl hC hel h
theorem e_X1_expect {XL : Nat} {XS : Nat → Int32} {n : Nat} {C : mC} {as : List Value} {w : mW} {K : mK} (hC : m_Ge XL XS (n + 1) C) (hel : (m_ent as).length ≤ 2) (h : ∀ C', m_Ge XL XS n C' → ∀ P : mT → Prop, (∀ t, m_F XL XS C' kX1_expect none 0 0 0 K P t → P t) → P (0, m_pad 2 (m_ent as), [], w, 0, 0)) : C 8 as w K :=
  m_enter (M := (yX1_expect, cX1_expect, 2, none, 0, 1, 2, kX1_expect)) rfl rfl hC hel h
theorem e_X1_enumerations {XL : Nat} {XS : Nat → Int32} {n : Nat} {C : mC} {as : List Value} {w : mW} {K : mK} (hC : m_Ge XL XS (n + 1) C) (hel : (m_ent as).length ≤ 2) (h : ∀ C', m_Ge XL XS n C' → ∀ P : mT → Prop, (∀ t, m_F XL XS C' kX1_enumerations none 0 0 0 K P t → P t) → P (0, m_pad 2 (m_ent as), [], w, 0, 0)) : C 9 as w K :=
  m_enter (M := (yX1_enumerations, cX1_enumerations, 2, none, 0, 1, 1, kX1_enumerations)) rfl rfl hC hel h
theorem e_X1_enumeration {XL : Nat} {XS : Nat → Int32} {n : Nat} {C : mC} {as : List Value} {w : mW} {K : mK} (hC : m_Ge XL XS (n + 1) C) (hel : (m_ent as).length ≤ 1) (h : ∀ C', m_Ge XL XS n C' → ∀ P : mT → Prop, (∀ t, m_F XL XS C' kX1_enumeration none 0 0 0 K P t → P t) → P (0, m_pad 1 (m_ent as), [], w, 0, 0)) : C 10 as w K :=
  m_enter (M := (yX1_enumeration, cX1_enumeration, 1, none, 0, 1, 1, kX1_enumeration)) rfl rfl hC hel h
theorem e_X1_constants {XL : Nat} {XS : Nat → Int32} {n : Nat} {C : mC} {as : List Value} {w : mW} {K : mK} (hC : m_Ge XL XS (n + 1) C) (hel : (m_ent as).length ≤ 3) (h : ∀ C', m_Ge XL XS n C' → ∀ P : mT → Prop, (∀ t, m_F XL XS C' kX1_constants none 0 0 0 K P t → P t) → P (0, m_pad 3 (m_ent as), [], w, 0, 0)) : C 11 as w K :=
  m_enter (M := (yX1_constants, cX1_constants, 3, none, 0, 1, 2, kX1_constants)) rfl rfl hC hel h
theorem e_X1_constant {XL : Nat} {XS : Nat → Int32} {n : Nat} {C : mC} {as : List Value} {w : mW} {K : mK} (hC : m_Ge XL XS (n + 1) C) (hel : (m_ent as).length ≤ 3) (h : ∀ C', m_Ge XL XS n C' → ∀ P : mT → Prop, (∀ t, m_F XL XS C' kX1_constant none 0 0 0 K P t → P t) → P (0, m_pad 3 (m_ent as), [], w, 0, 0)) : C 12 as w K :=
  m_enter (M := (yX1_constant, cX1_constant, 3, none, 0, 1, 2, kX1_constant)) rfl rfl hC hel h
theorem e_X1_findEnumeration {XL : Nat} {XS : Nat → Int32} {n : Nat} {C : mC} {as : List Value} {w : mW} {K : mK} (hC : m_Ge XL XS (n + 1) C) (hel : (m_ent as).length ≤ 4) (h : ∀ C', m_Ge XL XS n C' → ∀ P : mT → Prop, (∀ t, m_F XL XS C' kX1_findEnumeration (some .int) 0 0 0 K P t → P t) → P (0, m_pad 4 (m_ent as), [], w, 0, 0)) : C 13 as w K :=
  m_enter (M := (yX1_findEnumeration, cX1_findEnumeration, 4, (some .int), 0, 1, 2, kX1_findEnumeration)) rfl rfl hC hel h
theorem e_X1_constantCount {XL : Nat} {XS : Nat → Int32} {n : Nat} {C : mC} {as : List Value} {w : mW} {K : mK} (hC : m_Ge XL XS (n + 1) C) (hel : (m_ent as).length ≤ 2) (h : ∀ C', m_Ge XL XS n C' → ∀ P : mT → Prop, (∀ t, m_F XL XS C' kX1_constantCount (some .int) 0 0 0 K P t → P t) → P (0, m_pad 2 (m_ent as), [], w, 0, 0)) : C 14 as w K :=
  m_enter (M := (yX1_constantCount, cX1_constantCount, 2, (some .int), 0, 1, 2, kX1_constantCount)) rfl rfl hC hel h
theorem e_X1_findConstant {XL : Nat} {XS : Nat → Int32} {n : Nat} {C : mC} {as : List Value} {w : mW} {K : mK} (hC : m_Ge XL XS (n + 1) C) (hel : (m_ent as).length ≤ 6) (h : ∀ C', m_Ge XL XS n C' → ∀ P : mT → Prop, (∀ t, m_F XL XS C' kX1_findConstant (some .int) 0 0 0 K P t → P t) → P (0, m_pad 6 (m_ent as), [], w, 0, 0)) : C 15 as w K :=
  m_enter (M := (yX1_findConstant, cX1_findConstant, 6, (some .int), 0, 1, 3, kX1_findConstant)) rfl rfl hC hel h
theorem e_X1_selector {XL : Nat} {XS : Nat → Int32} {n : Nat} {C : mC} {as : List Value} {w : mW} {K : mK} (hC : m_Ge XL XS (n + 1) C) (hel : (m_ent as).length ≤ 1) (h : ∀ C', m_Ge XL XS n C' → ∀ P : mT → Prop, (∀ t, m_F XL XS C' kX1_selector none 0 0 0 K P t → P t) → P (0, m_pad 1 (m_ent as), [], w, 0, 0)) : C 16 as w K :=
  m_enter (M := (yX1_selector, cX1_selector, 1, none, 0, 1, 1, kX1_selector)) rfl rfl hC hel h
theorem e_X1_chooseEnumeration {XL : Nat} {XS : Nat → Int32} {n : Nat} {C : mC} {as : List Value} {w : mW} {K : mK} (hC : m_Ge XL XS (n + 1) C) (hel : (m_ent as).length ≤ 1) (h : ∀ C', m_Ge XL XS n C' → ∀ P : mT → Prop, (∀ t, m_F XL XS C' kX1_chooseEnumeration none 0 0 0 K P t → P t) → P (0, m_pad 1 (m_ent as), [], w, 0, 0)) : C 17 as w K :=
  m_enter (M := (yX1_chooseEnumeration, cX1_chooseEnumeration, 1, none, 0, 1, 1, kX1_chooseEnumeration)) rfl rfl hC hel h
theorem e_X1_arms {XL : Nat} {XS : Nat → Int32} {n : Nat} {C : mC} {as : List Value} {w : mW} {K : mK} (hC : m_Ge XL XS (n + 1) C) (hel : (m_ent as).length ≤ 2) (h : ∀ C', m_Ge XL XS n C' → ∀ P : mT → Prop, (∀ t, m_F XL XS C' kX1_arms none 0 0 0 K P t → P t) → P (0, m_pad 2 (m_ent as), [], w, 0, 0)) : C 18 as w K :=
  m_enter (M := (yX1_arms, cX1_arms, 2, none, 0, 1, 1, kX1_arms)) rfl rfl hC hel h
theorem e_X1_arm {XL : Nat} {XS : Nat → Int32} {n : Nat} {C : mC} {as : List Value} {w : mW} {K : mK} (hC : m_Ge XL XS (n + 1) C) (hel : (m_ent as).length ≤ 4) (h : ∀ C', m_Ge XL XS n C' → ∀ P : mT → Prop, (∀ t, m_F XL XS C' kX1_arm none 0 0 0 K P t → P t) → P (0, m_pad 4 (m_ent as), [], w, 0, 0)) : C 19 as w K :=
  m_enter (M := (yX1_arm, cX1_arm, 4, none, 0, 1, 2, kX1_arm)) rfl rfl hC hel h
theorem e_X1_labels {XL : Nat} {XS : Nat → Int32} {n : Nat} {C : mC} {as : List Value} {w : mW} {K : mK} (hC : m_Ge XL XS (n + 1) C) (hel : (m_ent as).length ≤ 2) (h : ∀ C', m_Ge XL XS n C' → ∀ P : mT → Prop, (∀ t, m_F XL XS C' kX1_labels none 0 0 0 K P t → P t) → P (0, m_pad 2 (m_ent as), [], w, 0, 0)) : C 20 as w K :=
  m_enter (M := (yX1_labels, cX1_labels, 2, none, 0, 1, 1, kX1_labels)) rfl rfl hC hel h
theorem e_X1_oneLabel {XL : Nat} {XS : Nat → Int32} {n : Nat} {C : mC} {as : List Value} {w : mW} {K : mK} (hC : m_Ge XL XS (n + 1) C) (hel : (m_ent as).length ≤ 7) (h : ∀ C', m_Ge XL XS n C' → ∀ P : mT → Prop, (∀ t, m_F XL XS C' kX1_oneLabel none 0 0 0 K P t → P t) → P (0, m_pad 7 (m_ent as), [], w, 0, 0)) : C 21 as w K :=
  m_enter (M := (yX1_oneLabel, cX1_oneLabel, 7, none, 0, 1, 1, kX1_oneLabel)) rfl rfl hC hel h
theorem e_X1_body {XL : Nat} {XS : Nat → Int32} {n : Nat} {C : mC} {as : List Value} {w : mW} {K : mK} (hC : m_Ge XL XS (n + 1) C) (hel : (m_ent as).length ≤ 4) (h : ∀ C', m_Ge XL XS n C' → ∀ P : mT → Prop, (∀ t, m_F XL XS C' kX1_body none 0 0 0 K P t → P t) → P (0, m_pad 4 (m_ent as), [], w, 0, 0)) : C 22 as w K :=
  m_enter (M := (yX1_body, cX1_body, 4, none, 0, 1, 1, kX1_body)) rfl rfl hC hel h
theorem e_X1_stmts {XL : Nat} {XS : Nat → Int32} {n : Nat} {C : mC} {as : List Value} {w : mW} {K : mK} (hC : m_Ge XL XS (n + 1) C) (hel : (m_ent as).length ≤ 3) (h : ∀ C', m_Ge XL XS n C' → ∀ P : mT → Prop, (∀ t, m_F XL XS C' kX1_stmts none 0 0 0 K P t → P t) → P (0, m_pad 3 (m_ent as), [], w, 0, 0)) : C 23 as w K :=
  m_enter (M := (yX1_stmts, cX1_stmts, 3, none, 0, 1, 2, kX1_stmts)) rfl rfl hC hel h
theorem e_X1_beginsStmt {XL : Nat} {XS : Nat → Int32} {n : Nat} {C : mC} {as : List Value} {w : mW} {K : mK} (hC : m_Ge XL XS (n + 1) C) (hel : (m_ent as).length ≤ 1) (h : ∀ C', m_Ge XL XS n C' → ∀ P : mT → Prop, (∀ t, m_F XL XS C' kX1_beginsStmt (some .boolean) 0 0 0 K P t → P t) → P (0, m_pad 1 (m_ent as), [], w, 0, 0)) : C 24 as w K :=
  m_enter (M := (yX1_beginsStmt, cX1_beginsStmt, 1, (some .boolean), 1, 1, 1, kX1_beginsStmt)) rfl rfl hC hel h
theorem e_X1_openStmt {XL : Nat} {XS : Nat → Int32} {n : Nat} {C : mC} {as : List Value} {w : mW} {K : mK} (hC : m_Ge XL XS (n + 1) C) (hel : (m_ent as).length ≤ 3) (h : ∀ C', m_Ge XL XS n C' → ∀ P : mT → Prop, (∀ t, m_F XL XS C' kX1_openStmt none 0 0 0 K P t → P t) → P (0, m_pad 3 (m_ent as), [], w, 0, 0)) : C 25 as w K :=
  m_enter (M := (yX1_openStmt, cX1_openStmt, 3, none, 0, 1, 2, kX1_openStmt)) rfl rfl hC hel h
theorem e_X1_stmt {XL : Nat} {XS : Nat → Int32} {n : Nat} {C : mC} {as : List Value} {w : mW} {K : mK} (hC : m_Ge XL XS (n + 1) C) (hel : (m_ent as).length ≤ 2) (h : ∀ C', m_Ge XL XS n C' → ∀ P : mT → Prop, (∀ t, m_F XL XS C' kX1_stmt none 0 0 0 K P t → P t) → P (0, m_pad 2 (m_ent as), [], w, 0, 0)) : C 26 as w K :=
  m_enter (M := (yX1_stmt, cX1_stmt, 2, none, 0, 1, 2, kX1_stmt)) rfl rfl hC hel h
theorem e_X1_block {XL : Nat} {XS : Nat → Int32} {n : Nat} {C : mC} {as : List Value} {w : mW} {K : mK} (hC : m_Ge XL XS (n + 1) C) (hel : (m_ent as).length ≤ 3) (h : ∀ C', m_Ge XL XS n C' → ∀ P : mT → Prop, (∀ t, m_F XL XS C' kX1_block none 0 0 0 K P t → P t) → P (0, m_pad 3 (m_ent as), [], w, 0, 0)) : C 27 as w K :=
  m_enter (M := (yX1_block, cX1_block, 3, none, 0, 1, 2, kX1_block)) rfl rfl hC hel h
theorem e_X1_branches {XL : Nat} {XS : Nat → Int32} {n : Nat} {C : mC} {as : List Value} {w : mW} {K : mK} (hC : m_Ge XL XS (n + 1) C) (hel : (m_ent as).length ≤ 6) (h : ∀ C', m_Ge XL XS n C' → ∀ P : mT → Prop, (∀ t, m_F XL XS C' kX1_branches none 0 0 0 K P t → P t) → P (0, m_pad 6 (m_ent as), [], w, 0, 0)) : C 28 as w K :=
  m_enter (M := (yX1_branches, cX1_branches, 6, none, 0, 1, 2, kX1_branches)) rfl rfl hC hel h
theorem e_X1_let {XL : Nat} {XS : Nat → Int32} {n : Nat} {C : mC} {as : List Value} {w : mW} {K : mK} (hC : m_Ge XL XS (n + 1) C) (hel : (m_ent as).length ≤ 2) (h : ∀ C', m_Ge XL XS n C' → ∀ P : mT → Prop, (∀ t, m_F XL XS C' kX1_let none 0 0 0 K P t → P t) → P (0, m_pad 2 (m_ent as), [], w, 0, 0)) : C 29 as w K :=
  m_enter (M := (yX1_let, cX1_let, 2, none, 0, 1, 1, kX1_let)) rfl rfl hC hel h
theorem e_X1_setName {XL : Nat} {XS : Nat → Int32} {n : Nat} {C : mC} {as : List Value} {w : mW} {K : mK} (hC : m_Ge XL XS (n + 1) C) (hel : (m_ent as).length ≤ 3) (h : ∀ C', m_Ge XL XS n C' → ∀ P : mT → Prop, (∀ t, m_F XL XS C' kX1_setName none 0 0 0 K P t → P t) → P (0, m_pad 3 (m_ent as), [], w, 0, 0)) : C 30 as w K :=
  m_enter (M := (yX1_setName, cX1_setName, 3, none, 0, 1, 3, kX1_setName)) rfl rfl hC hel h
theorem e_X1_simple {XL : Nat} {XS : Nat → Int32} {n : Nat} {C : mC} {as : List Value} {w : mW} {K : mK} (hC : m_Ge XL XS (n + 1) C) (hel : (m_ent as).length ≤ 3) (h : ∀ C', m_Ge XL XS n C' → ∀ P : mT → Prop, (∀ t, m_F XL XS C' kX1_simple none 0 0 0 K P t → P t) → P (0, m_pad 3 (m_ent as), [], w, 0, 0)) : C 31 as w K :=
  m_enter (M := (yX1_simple, cX1_simple, 3, none, 0, 1, 1, kX1_simple)) rfl rfl hC hel h
theorem e_X1_useName {XL : Nat} {XS : Nat → Int32} {n : Nat} {C : mC} {as : List Value} {w : mW} {K : mK} (hC : m_Ge XL XS (n + 1) C) (hel : (m_ent as).length ≤ 2) (h : ∀ C', m_Ge XL XS n C' → ∀ P : mT → Prop, (∀ t, m_F XL XS C' kX1_useName none 0 0 0 K P t → P t) → P (0, m_pad 2 (m_ent as), [], w, 0, 0)) : C 32 as w K :=
  m_enter (M := (yX1_useName, cX1_useName, 2, none, 0, 1, 1, kX1_useName)) rfl rfl hC hel h
theorem e_X1_yieldNumber {XL : Nat} {XS : Nat → Int32} {n : Nat} {C : mC} {as : List Value} {w : mW} {K : mK} (hC : m_Ge XL XS (n + 1) C) (hel : (m_ent as).length ≤ 3) (h : ∀ C', m_Ge XL XS n C' → ∀ P : mT → Prop, (∀ t, m_F XL XS C' kX1_yieldNumber none 0 0 0 K P t → P t) → P (0, m_pad 3 (m_ent as), [], w, 0, 0)) : C 33 as w K :=
  m_enter (M := (yX1_yieldNumber, cX1_yieldNumber, 3, none, 0, 1, 1, kX1_yieldNumber)) rfl rfl hC hel h
theorem e_X1_leave {XL : Nat} {XS : Nat → Int32} {n : Nat} {C : mC} {as : List Value} {w : mW} {K : mK} (hC : m_Ge XL XS (n + 1) C) (hel : (m_ent as).length ≤ 3) (h : ∀ C', m_Ge XL XS n C' → ∀ P : mT → Prop, (∀ t, m_F XL XS C' kX1_leave none 0 0 0 K P t → P t) → P (0, m_pad 3 (m_ent as), [], w, 0, 0)) : C 34 as w K :=
  m_enter (M := (yX1_leave, cX1_leave, 3, none, 0, 1, 3, kX1_leave)) rfl rfl hC hel h
theorem e_X1_number {XL : Nat} {XS : Nat → Int32} {n : Nat} {C : mC} {as : List Value} {w : mW} {K : mK} (hC : m_Ge XL XS (n + 1) C) (hel : (m_ent as).length ≤ 2) (h : ∀ C', m_Ge XL XS n C' → ∀ P : mT → Prop, (∀ t, m_F XL XS C' kX1_number (some .int) 0 0 0 K P t → P t) → P (0, m_pad 2 (m_ent as), [], w, 0, 0)) : C 35 as w K :=
  m_enter (M := (yX1_number, cX1_number, 2, (some .int), 0, 1, 1, kX1_number)) rfl rfl hC hel h
theorem e_X1_end {XL : Nat} {XS : Nat → Int32} {n : Nat} {C : mC} {as : List Value} {w : mW} {K : mK} (hC : m_Ge XL XS (n + 1) C) (hel : (m_ent as).length ≤ 1) (h : ∀ C', m_Ge XL XS n C' → ∀ P : mT → Prop, (∀ t, m_F XL XS C' kX1_end none 0 0 0 K P t → P t) → P (0, m_pad 1 (m_ent as), [], w, 0, 0)) : C 36 as w K :=
  m_enter (M := (yX1_end, cX1_end, 1, none, 0, 1, 1, kX1_end)) rfl rfl hC hel h
theorem e_X2_init {XL : Nat} {XS : Nat → Int32} {n : Nat} {C : mC} {as : List Value} {w : mW} {K : mK} (hC : m_Ge XL XS (n + 1) C) (hel : (m_ent as).length ≤ 1) (h : ∀ C', m_Ge XL XS n C' → ∀ P : mT → Prop, (∀ t, m_F XL XS C' kX2_init none 102 1 3000 K P t → P t) → P (0, m_pad 1 (m_ent as), [], w, 0, 0)) : C 37 as w K :=
  m_enter (M := (yX2_init, cX2_init, 1, none, 2, 2, 1, kX2_init)) rfl rfl hC hel h
theorem e_X2_at {XL : Nat} {XS : Nat → Int32} {n : Nat} {C : mC} {as : List Value} {w : mW} {K : mK} (hC : m_Ge XL XS (n + 1) C) (hel : (m_ent as).length ≤ 2) (h : ∀ C', m_Ge XL XS n C' → ∀ P : mT → Prop, (∀ t, m_F XL XS C' kX2_at (some .int) 0 0 0 K P t → P t) → P (0, m_pad 2 (m_ent as), [], w, 0, 0)) : C 38 as w K :=
  m_enter (M := (yX2_at, cX2_at, 2, (some .int), 0, 2, 2, kX2_at)) rfl rfl hC hel h
theorem e_X2_append {XL : Nat} {XS : Nat → Int32} {n : Nat} {C : mC} {as : List Value} {w : mW} {K : mK} (hC : m_Ge XL XS (n + 1) C) (hel : (m_ent as).length ≤ 5) (h : ∀ C', m_Ge XL XS n C' → ∀ P : mT → Prop, (∀ t, m_F XL XS C' kX2_append (some .boolean) 0 0 0 K P t → P t) → P (0, m_pad 5 (m_ent as), [], w, 0, 0)) : C 39 as w K :=
  m_enter (M := (yX2_append, cX2_append, 5, (some .boolean), 0, 2, 3, kX2_append)) rfl rfl hC hel h
theorem e_X2_packed {XL : Nat} {XS : Nat → Int32} {n : Nat} {C : mC} {as : List Value} {w : mW} {K : mK} (hC : m_Ge XL XS (n + 1) C) (hel : (m_ent as).length ≤ 6) (h : ∀ C', m_Ge XL XS n C' → ∀ P : mT → Prop, (∀ t, m_F XL XS C' kX2_packed (some .long) 0 0 0 K P t → P t) → P (0, m_pad 6 (m_ent as), [], w, 0, 0)) : C 40 as w K :=
  m_enter (M := (yX2_packed, cX2_packed, 6, (some .long), 0, 2, 3, kX2_packed)) rfl rfl hC hel h
theorem e_X2_whole {XL : Nat} {XS : Nat → Int32} {n : Nat} {C : mC} {as : List Value} {w : mW} {K : mK} (hC : m_Ge XL XS (n + 1) C) (hel : (m_ent as).length ≤ 2) (h : ∀ C', m_Ge XL XS n C' → ∀ P : mT → Prop, (∀ t, m_F XL XS C' kX2_whole (some .long) 0 0 0 K P t → P t) → P (0, m_pad 2 (m_ent as), [], w, 0, 0)) : C 41 as w K :=
  m_enter (M := (yX2_whole, cX2_whole, 2, (some .long), 0, 2, 1, kX2_whole)) rfl rfl hC hel h
theorem e_X2_wholeHash {XL : Nat} {XS : Nat → Int32} {n : Nat} {C : mC} {as : List Value} {w : mW} {K : mK} (hC : m_Ge XL XS (n + 1) C) (hel : (m_ent as).length ≤ 3) (h : ∀ C', m_Ge XL XS n C' → ∀ P : mT → Prop, (∀ t, m_F XL XS C' kX2_wholeHash (some .int) 0 0 0 K P t → P t) → P (0, m_pad 3 (m_ent as), [], w, 0, 0)) : C 42 as w K :=
  m_enter (M := (yX2_wholeHash, cX2_wholeHash, 3, (some .int), 0, 2, 1, kX2_wholeHash)) rfl rfl hC hel h
theorem e_X3_init {XL : Nat} {XS : Nat → Int32} {n : Nat} {C : mC} {as : List Value} {w : mW} {K : mK} (hC : m_Ge XL XS (n + 1) C) (hel : (m_ent as).length ≤ 1) (h : ∀ C', m_Ge XL XS n C' → ∀ P : mT → Prop, (∀ t, m_F XL XS C' kX3_init none 103 2 140 K P t → P t) → P (0, m_pad 1 (m_ent as), [], w, 0, 0)) : C 43 as w K :=
  m_enter (M := (yX3_init, cX3_init, 1, none, 2, 3, 1, kX3_init)) rfl rfl hC hel h
theorem e_X3_forget {XL : Nat} {XS : Nat → Int32} {n : Nat} {C : mC} {as : List Value} {w : mW} {K : mK} (hC : m_Ge XL XS (n + 1) C) (hel : (m_ent as).length ≤ 1) (h : ∀ C', m_Ge XL XS n C' → ∀ P : mT → Prop, (∀ t, m_F XL XS C' kX3_forget none 0 0 0 K P t → P t) → P (0, m_pad 1 (m_ent as), [], w, 0, 0)) : C 44 as w K :=
  m_enter (M := (yX3_forget, cX3_forget, 1, none, 0, 3, 1, kX3_forget)) rfl rfl hC hel h
theorem e_X3_begin {XL : Nat} {XS : Nat → Int32} {n : Nat} {C : mC} {as : List Value} {w : mW} {K : mK} (hC : m_Ge XL XS (n + 1) C) (hel : (m_ent as).length ≤ 1) (h : ∀ C', m_Ge XL XS n C' → ∀ P : mT → Prop, (∀ t, m_F XL XS C' kX3_begin none 0 0 0 K P t → P t) → P (0, m_pad 1 (m_ent as), [], w, 0, 0)) : C 45 as w K :=
  m_enter (M := (yX3_begin, cX3_begin, 1, none, 0, 3, 1, kX3_begin)) rfl rfl hC hel h
theorem e_X3_go {XL : Nat} {XS : Nat → Int32} {n : Nat} {C : mC} {as : List Value} {w : mW} {K : mK} (hC : m_Ge XL XS (n + 1) C) (hel : (m_ent as).length ≤ 10) (h : ∀ C', m_Ge XL XS n C' → ∀ P : mT → Prop, (∀ t, m_F XL XS C' kX3_go (some .int) 0 0 0 K P t → P t) → P (0, m_pad 10 (m_ent as), [], w, 0, 0)) : C 46 as w K :=
  m_enter (M := (yX3_go, cX3_go, 10, (some .int), 0, 3, 4, kX3_go)) rfl rfl hC hel h
theorem e_X3_isName {XL : Nat} {XS : Nat → Int32} {n : Nat} {C : mC} {as : List Value} {w : mW} {K : mK} (hC : m_Ge XL XS (n + 1) C) (hel : (m_ent as).length ≤ 1) (h : ∀ C', m_Ge XL XS n C' → ∀ P : mT → Prop, (∀ t, m_F XL XS C' kX3_isName (some .boolean) 0 0 0 K P t → P t) → P (0, m_pad 1 (m_ent as), [], w, 0, 0)) : C 47 as w K :=
  m_enter (M := (yX3_isName, cX3_isName, 1, (some .boolean), 1, 3, 1, kX3_isName)) rfl rfl hC hel h
theorem e_X3_addToTrace {XL : Nat} {XS : Nat → Int32} {n : Nat} {C : mC} {as : List Value} {w : mW} {K : mK} (hC : m_Ge XL XS (n + 1) C) (hel : (m_ent as).length ≤ 2) (h : ∀ C', m_Ge XL XS n C' → ∀ P : mT → Prop, (∀ t, m_F XL XS C' kX3_addToTrace none 0 0 0 K P t → P t) → P (0, m_pad 2 (m_ent as), [], w, 0, 0)) : C 48 as w K :=
  m_enter (M := (yX3_addToTrace, cX3_addToTrace, 2, none, 0, 3, 2, kX3_addToTrace)) rfl rfl hC hel h
theorem e_X4_init {XL : Nat} {XS : Nat → Int32} {n : Nat} {C : mC} {as : List Value} {w : mW} {K : mK} (hC : m_Ge XL XS (n + 1) C) (hel : (m_ent as).length ≤ 1) (h : ∀ C', m_Ge XL XS n C' → ∀ P : mT → Prop, (∀ t, m_F XL XS C' kX4_init none 104 1 20 K P t → P t) → P (0, m_pad 1 (m_ent as), [], w, 0, 0)) : C 49 as w K :=
  m_enter (M := (yX4_init, cX4_init, 1, none, 2, 4, 1, kX4_init)) rfl rfl hC hel h
theorem e_X4_find {XL : Nat} {XS : Nat → Int32} {n : Nat} {C : mC} {as : List Value} {w : mW} {K : mK} (hC : m_Ge XL XS (n + 1) C) (hel : (m_ent as).length ≤ 4) (h : ∀ C', m_Ge XL XS n C' → ∀ P : mT → Prop, (∀ t, m_F XL XS C' kX4_find (some .int) 0 0 0 K P t → P t) → P (0, m_pad 4 (m_ent as), [], w, 0, 0)) : C 50 as w K :=
  m_enter (M := (yX4_find, cX4_find, 4, (some .int), 0, 4, 2, kX4_find)) rfl rfl hC hel h
theorem e_X4_add {XL : Nat} {XS : Nat → Int32} {n : Nat} {C : mC} {as : List Value} {w : mW} {K : mK} (hC : m_Ge XL XS (n + 1) C) (hel : (m_ent as).length ≤ 3) (h : ∀ C', m_Ge XL XS n C' → ∀ P : mT → Prop, (∀ t, m_F XL XS C' kX4_add (some .int) 0 0 0 K P t → P t) → P (0, m_pad 3 (m_ent as), [], w, 0, 0)) : C 51 as w K :=
  m_enter (M := (yX4_add, cX4_add, 3, (some .int), 0, 4, 2, kX4_add)) rfl rfl hC hel h
theorem e_X4_shrink {XL : Nat} {XS : Nat → Int32} {n : Nat} {C : mC} {as : List Value} {w : mW} {K : mK} (hC : m_Ge XL XS (n + 1) C) (hel : (m_ent as).length ≤ 2) (h : ∀ C', m_Ge XL XS n C' → ∀ P : mT → Prop, (∀ t, m_F XL XS C' kX4_shrink none 0 0 0 K P t → P t) → P (0, m_pad 2 (m_ent as), [], w, 0, 0)) : C 52 as w K :=
  m_enter (M := (yX4_shrink, cX4_shrink, 2, none, 0, 4, 2, kX4_shrink)) rfl rfl hC hel h
theorem e_X4_isSet {XL : Nat} {XS : Nat → Int32} {n : Nat} {C : mC} {as : List Value} {w : mW} {K : mK} (hC : m_Ge XL XS (n + 1) C) (hel : (m_ent as).length ≤ 2) (h : ∀ C', m_Ge XL XS n C' → ∀ P : mT → Prop, (∀ t, m_F XL XS C' kX4_isSet (some .boolean) 0 0 0 K P t → P t) → P (0, m_pad 2 (m_ent as), [], w, 0, 0)) : C 53 as w K :=
  m_enter (M := (yX4_isSet, cX4_isSet, 2, (some .boolean), 0, 4, 2, kX4_isSet)) rfl rfl hC hel h
theorem e_X4_makeSet {XL : Nat} {XS : Nat → Int32} {n : Nat} {C : mC} {as : List Value} {w : mW} {K : mK} (hC : m_Ge XL XS (n + 1) C) (hel : (m_ent as).length ≤ 2) (h : ∀ C', m_Ge XL XS n C' → ∀ P : mT → Prop, (∀ t, m_F XL XS C' kX4_makeSet none 0 0 0 K P t → P t) → P (0, m_pad 2 (m_ent as), [], w, 0, 0)) : C 54 as w K :=
  m_enter (M := (yX4_makeSet, cX4_makeSet, 2, none, 0, 4, 2, kX4_makeSet)) rfl rfl hC hel h
theorem e_X4_isReached {XL : Nat} {XS : Nat → Int32} {n : Nat} {C : mC} {as : List Value} {w : mW} {K : mK} (hC : m_Ge XL XS (n + 1) C) (hel : (m_ent as).length ≤ 1) (h : ∀ C', m_Ge XL XS n C' → ∀ P : mT → Prop, (∀ t, m_F XL XS C' kX4_isReached (some .boolean) 0 0 0 K P t → P t) → P (0, m_pad 1 (m_ent as), [], w, 0, 0)) : C 55 as w K :=
  m_enter (M := (yX4_isReached, cX4_isReached, 1, (some .boolean), 0, 4, 1, kX4_isReached)) rfl rfl hC hel h
theorem e_X5_init {XL : Nat} {XS : Nat → Int32} {n : Nat} {C : mC} {as : List Value} {w : mW} {K : mK} (hC : m_Ge XL XS (n + 1) C) (hel : (m_ent as).length ≤ 1) (h : ∀ C', m_Ge XL XS n C' → ∀ P : mT → Prop, (∀ t, m_F XL XS C' kX5_init none 105 3 96 K P t → P t) → P (0, m_pad 1 (m_ent as), [], w, 0, 0)) : C 56 as w K :=
  m_enter (M := (yX5_init, cX5_init, 1, none, 2, 5, 1, kX5_init)) rfl rfl hC hel h
theorem e_X5_make {XL : Nat} {XS : Nat → Int32} {n : Nat} {C : mC} {as : List Value} {w : mW} {K : mK} (hC : m_Ge XL XS (n + 1) C) (hel : (m_ent as).length ≤ 3) (h : ∀ C', m_Ge XL XS n C' → ∀ P : mT → Prop, (∀ t, m_F XL XS C' kX5_make none 0 0 0 K P t → P t) → P (0, m_pad 3 (m_ent as), [], w, 0, 0)) : C 57 as w K :=
  m_enter (M := (yX5_make, cX5_make, 3, none, 0, 5, 2, kX5_make)) rfl rfl hC hel h
theorem e_X5_put {XL : Nat} {XS : Nat → Int32} {n : Nat} {C : mC} {as : List Value} {w : mW} {K : mK} (hC : m_Ge XL XS (n + 1) C) (hel : (m_ent as).length ≤ 5) (h : ∀ C', m_Ge XL XS n C' → ∀ P : mT → Prop, (∀ t, m_F XL XS C' kX5_put none 0 0 0 K P t → P t) → P (0, m_pad 5 (m_ent as), [], w, 0, 0)) : C 58 as w K :=
  m_enter (M := (yX5_put, cX5_put, 5, none, 0, 5, 3, kX5_put)) rfl rfl hC hel h
theorem e_X5_has {XL : Nat} {XS : Nat → Int32} {n : Nat} {C : mC} {as : List Value} {w : mW} {K : mK} (hC : m_Ge XL XS (n + 1) C) (hel : (m_ent as).length ≤ 2) (h : ∀ C', m_Ge XL XS n C' → ∀ P : mT → Prop, (∀ t, m_F XL XS C' kX5_has (some .boolean) 0 0 0 K P t → P t) → P (0, m_pad 2 (m_ent as), [], w, 0, 0)) : C 59 as w K :=
  m_enter (M := (yX5_has, cX5_has, 2, (some .boolean), 0, 5, 2, kX5_has)) rfl rfl hC hel h
theorem e_X5_isDense {XL : Nat} {XS : Nat → Int32} {n : Nat} {C : mC} {as : List Value} {w : mW} {K : mK} (hC : m_Ge XL XS (n + 1) C) (hel : (m_ent as).length ≤ 3) (h : ∀ C', m_Ge XL XS n C' → ∀ P : mT → Prop, (∀ t, m_F XL XS C' kX5_isDense (some .boolean) 0 0 0 K P t → P t) → P (0, m_pad 3 (m_ent as), [], w, 0, 0)) : C 60 as w K :=
  m_enter (M := (yX5_isDense, cX5_isDense, 3, (some .boolean), 0, 5, 1, kX5_isDense)) rfl rfl hC hel h
theorem e_X6_init {XL : Nat} {XS : Nat → Int32} {n : Nat} {C : mC} {as : List Value} {w : mW} {K : mK} (hC : m_Ge XL XS (n + 1) C) (hel : (m_ent as).length ≤ 1) (h : ∀ C', m_Ge XL XS n C' → ∀ P : mT → Prop, (∀ t, m_F XL XS C' kX6_init none 106 4 9018 K P t → P t) → P (0, m_pad 1 (m_ent as), [], w, 0, 0)) : C 61 as w K :=
  m_enter (M := (yX6_init, cX6_init, 1, none, 2, 6, 1, kX6_init)) rfl rfl hC hel h
theorem e_X6_cut {XL : Nat} {XS : Nat → Int32} {n : Nat} {C : mC} {as : List Value} {w : mW} {K : mK} (hC : m_Ge XL XS (n + 1) C) (hel : (m_ent as).length ≤ 6) (h : ∀ C', m_Ge XL XS n C' → ∀ P : mT → Prop, (∀ t, m_F XL XS C' kX6_cut none 0 0 0 K P t → P t) → P (0, m_pad 6 (m_ent as), [], w, 0, 0)) : C 63 as w K :=
  m_enter (M := (yX6_cut, cX6_cut, 6, none, 0, 6, 2, kX6_cut)) rfl rfl hC hel h
theorem e_X6_behindBlanks {XL : Nat} {XS : Nat → Int32} {n : Nat} {C : mC} {as : List Value} {w : mW} {K : mK} (hC : m_Ge XL XS (n + 1) C) (hel : (m_ent as).length ≤ 4) (h : ∀ C', m_Ge XL XS n C' → ∀ P : mT → Prop, (∀ t, m_F XL XS C' kX6_behindBlanks (some .int) 0 0 0 K P t → P t) → P (0, m_pad 4 (m_ent as), [], w, 0, 0)) : C 64 as w K :=
  m_enter (M := (yX6_behindBlanks, cX6_behindBlanks, 4, (some .int), 1, 6, 2, kX6_behindBlanks)) rfl rfl hC hel h
theorem e_X6_cutOne {XL : Nat} {XS : Nat → Int32} {n : Nat} {C : mC} {as : List Value} {w : mW} {K : mK} (hC : m_Ge XL XS (n + 1) C) (hel : (m_ent as).length ≤ 5) (h : ∀ C', m_Ge XL XS n C' → ∀ P : mT → Prop, (∀ t, m_F XL XS C' kX6_cutOne (some .int) 0 0 0 K P t → P t) → P (0, m_pad 5 (m_ent as), [], w, 0, 0)) : C 65 as w K :=
  m_enter (M := (yX6_cutOne, cX6_cutOne, 5, (some .int), 0, 6, 4, kX6_cutOne)) rfl rfl hC hel h
theorem e_X6_cutName {XL : Nat} {XS : Nat → Int32} {n : Nat} {C : mC} {as : List Value} {w : mW} {K : mK} (hC : m_Ge XL XS (n + 1) C) (hel : (m_ent as).length ≤ 6) (h : ∀ C', m_Ge XL XS n C' → ∀ P : mT → Prop, (∀ t, m_F XL XS C' kX6_cutName (some .int) 0 0 0 K P t → P t) → P (0, m_pad 6 (m_ent as), [], w, 0, 0)) : C 66 as w K :=
  m_enter (M := (yX6_cutName, cX6_cutName, 6, (some .int), 0, 6, 3, kX6_cutName)) rfl rfl hC hel h
theorem e_X6_nameKind {XL : Nat} {XS : Nat → Int32} {n : Nat} {C : mC} {as : List Value} {w : mW} {K : mK} (hC : m_Ge XL XS (n + 1) C) (hel : (m_ent as).length ≤ 4) (h : ∀ C', m_Ge XL XS n C' → ∀ P : mT → Prop, (∀ t, m_F XL XS C' kX6_nameKind (some .int) 0 0 0 K P t → P t) → P (0, m_pad 4 (m_ent as), [], w, 0, 0)) : C 67 as w K :=
  m_enter (M := (yX6_nameKind, cX6_nameKind, 4, (some .int), 0, 6, 2, kX6_nameKind)) rfl rfl hC hel h
theorem e_X6_cutNumber {XL : Nat} {XS : Nat → Int32} {n : Nat} {C : mC} {as : List Value} {w : mW} {K : mK} (hC : m_Ge XL XS (n + 1) C) (hel : (m_ent as).length ≤ 6) (h : ∀ C', m_Ge XL XS n C' → ∀ P : mT → Prop, (∀ t, m_F XL XS C' kX6_cutNumber (some .int) 0 0 0 K P t → P t) → P (0, m_pad 6 (m_ent as), [], w, 0, 0)) : C 68 as w K :=
  m_enter (M := (yX6_cutNumber, cX6_cutNumber, 6, (some .int), 0, 6, 3, kX6_cutNumber)) rfl rfl hC hel h
theorem e_X6_cutText {XL : Nat} {XS : Nat → Int32} {n : Nat} {C : mC} {as : List Value} {w : mW} {K : mK} (hC : m_Ge XL XS (n + 1) C) (hel : (m_ent as).length ≤ 4) (h : ∀ C', m_Ge XL XS n C' → ∀ P : mT → Prop, (∀ t, m_F XL XS C' kX6_cutText (some .int) 0 0 0 K P t → P t) → P (0, m_pad 4 (m_ent as), [], w, 0, 0)) : C 69 as w K :=
  m_enter (M := (yX6_cutText, cX6_cutText, 4, (some .int), 0, 6, 3, kX6_cutText)) rfl rfl hC hel h
theorem e_X6_isSmall {XL : Nat} {XS : Nat → Int32} {n : Nat} {C : mC} {as : List Value} {w : mW} {K : mK} (hC : m_Ge XL XS (n + 1) C) (hel : (m_ent as).length ≤ 1) (h : ∀ C', m_Ge XL XS n C' → ∀ P : mT → Prop, (∀ t, m_F XL XS C' kX6_isSmall (some .boolean) 0 0 0 K P t → P t) → P (0, m_pad 1 (m_ent as), [], w, 0, 0)) : C 70 as w K :=
  m_enter (M := (yX6_isSmall, cX6_isSmall, 1, (some .boolean), 1, 6, 1, kX6_isSmall)) rfl rfl hC hel h
theorem e_X6_isFigure {XL : Nat} {XS : Nat → Int32} {n : Nat} {C : mC} {as : List Value} {w : mW} {K : mK} (hC : m_Ge XL XS (n + 1) C) (hel : (m_ent as).length ≤ 1) (h : ∀ C', m_Ge XL XS n C' → ∀ P : mT → Prop, (∀ t, m_F XL XS C' kX6_isFigure (some .boolean) 0 0 0 K P t → P t) → P (0, m_pad 1 (m_ent as), [], w, 0, 0)) : C 71 as w K :=
  m_enter (M := (yX6_isFigure, cX6_isFigure, 1, (some .boolean), 1, 6, 1, kX6_isFigure)) rfl rfl hC hel h
theorem e_X6_isTextSign {XL : Nat} {XS : Nat → Int32} {n : Nat} {C : mC} {as : List Value} {w : mW} {K : mK} (hC : m_Ge XL XS (n + 1) C) (hel : (m_ent as).length ≤ 1) (h : ∀ C', m_Ge XL XS n C' → ∀ P : mT → Prop, (∀ t, m_F XL XS C' kX6_isTextSign (some .boolean) 0 0 0 K P t → P t) → P (0, m_pad 1 (m_ent as), [], w, 0, 0)) : C 72 as w K :=
  m_enter (M := (yX6_isTextSign, cX6_isTextSign, 1, (some .boolean), 1, 6, 1, kX6_isTextSign)) rfl rfl hC hel h
theorem e_X6_signKind {XL : Nat} {XS : Nat → Int32} {n : Nat} {C : mC} {as : List Value} {w : mW} {K : mK} (hC : m_Ge XL XS (n + 1) C) (hel : (m_ent as).length ≤ 1) (h : ∀ C', m_Ge XL XS n C' → ∀ P : mT → Prop, (∀ t, m_F XL XS C' kX6_signKind (some .int) 0 0 0 K P t → P t) → P (0, m_pad 1 (m_ent as), [], w, 0, 0)) : C 73 as w K :=
  m_enter (M := (yX6_signKind, cX6_signKind, 1, (some .int), 1, 6, 1, kX6_signKind)) rfl rfl hC hel h
theorem e_X6_keep {XL : Nat} {XS : Nat → Int32} {n : Nat} {C : mC} {as : List Value} {w : mW} {K : mK} (hC : m_Ge XL XS (n + 1) C) (hel : (m_ent as).length ≤ 5) (h : ∀ C', m_Ge XL XS n C' → ∀ P : mT → Prop, (∀ t, m_F XL XS C' kX6_keep none 0 0 0 K P t → P t) → P (0, m_pad 5 (m_ent as), [], w, 0, 0)) : C 74 as w K :=
  m_enter (M := (yX6_keep, cX6_keep, 5, none, 0, 6, 4, kX6_keep)) rfl rfl hC hel h
theorem e_X7_init {XL : Nat} {XS : Nat → Int32} {n : Nat} {C : mC} {as : List Value} {w : mW} {K : mK} (hC : m_Ge XL XS (n + 1) C) (hel : (m_ent as).length ≤ 1) (h : ∀ C', m_Ge XL XS n C' → ∀ P : mT → Prop, (∀ t, m_F XL XS C' kX7_init none 107 8 900 K P t → P t) → P (0, m_pad 1 (m_ent as), [], w, 0, 0)) : C 75 as w K :=
  m_enter (M := (yX7_init, cX7_init, 1, none, 2, 7, 1, kX7_init)) rfl rfl hC hel h
theorem e_X7_clear {XL : Nat} {XS : Nat → Int32} {n : Nat} {C : mC} {as : List Value} {w : mW} {K : mK} (hC : m_Ge XL XS (n + 1) C) (hel : (m_ent as).length ≤ 1) (h : ∀ C', m_Ge XL XS n C' → ∀ P : mT → Prop, (∀ t, m_F XL XS C' kX7_clear none 0 0 0 K P t → P t) → P (0, m_pad 1 (m_ent as), [], w, 0, 0)) : C 76 as w K :=
  m_enter (M := (yX7_clear, cX7_clear, 1, none, 0, 7, 1, kX7_clear)) rfl rfl hC hel h
theorem e_X7_addArm {XL : Nat} {XS : Nat → Int32} {n : Nat} {C : mC} {as : List Value} {w : mW} {K : mK} (hC : m_Ge XL XS (n + 1) C) (hel : (m_ent as).length ≤ 1) (h : ∀ C', m_Ge XL XS n C' → ∀ P : mT → Prop, (∀ t, m_F XL XS C' kX7_addArm none 0 0 0 K P t → P t) → P (0, m_pad 1 (m_ent as), [], w, 0, 0)) : C 77 as w K :=
  m_enter (M := (yX7_addArm, cX7_addArm, 1, none, 0, 7, 1, kX7_addArm)) rfl rfl hC hel h
theorem e_X7_startOf {XL : Nat} {XS : Nat → Int32} {n : Nat} {C : mC} {as : List Value} {w : mW} {K : mK} (hC : m_Ge XL XS (n + 1) C) (hel : (m_ent as).length ≤ 2) (h : ∀ C', m_Ge XL XS n C' → ∀ P : mT → Prop, (∀ t, m_F XL XS C' kX7_startOf (some .int) 0 0 0 K P t → P t) → P (0, m_pad 2 (m_ent as), [], w, 0, 0)) : C 78 as w K :=
  m_enter (M := (yX7_startOf, cX7_startOf, 2, (some .int), 0, 7, 2, kX7_startOf)) rfl rfl hC hel h
theorem e_X7_addLabel {XL : Nat} {XS : Nat → Int32} {n : Nat} {C : mC} {as : List Value} {w : mW} {K : mK} (hC : m_Ge XL XS (n + 1) C) (hel : (m_ent as).length ≤ 3) (h : ∀ C', m_Ge XL XS n C' → ∀ P : mT → Prop, (∀ t, m_F XL XS C' kX7_addLabel none 0 0 0 K P t → P t) → P (0, m_pad 3 (m_ent as), [], w, 0, 0)) : C 79 as w K :=
  m_enter (M := (yX7_addLabel, cX7_addLabel, 3, none, 0, 7, 2, kX7_addLabel)) rfl rfl hC hel h
theorem e_X7_packedHash {XL : Nat} {XS : Nat → Int32} {n : Nat} {C : mC} {as : List Value} {w : mW} {K : mK} (hC : m_Ge XL XS (n + 1) C) (hel : (m_ent as).length ≤ 4) (h : ∀ C', m_Ge XL XS n C' → ∀ P : mT → Prop, (∀ t, m_F XL XS C' kX7_packedHash (some .int) 0 0 0 K P t → P t) → P (0, m_pad 4 (m_ent as), [], w, 0, 0)) : C 80 as w K :=
  m_enter (M := (yX7_packedHash, cX7_packedHash, 4, (some .int), 1, 7, 1, kX7_packedHash)) rfl rfl hC hel h
theorem e_X7_hasLabel {XL : Nat} {XS : Nat → Int32} {n : Nat} {C : mC} {as : List Value} {w : mW} {K : mK} (hC : m_Ge XL XS (n + 1) C) (hel : (m_ent as).length ≤ 3) (h : ∀ C', m_Ge XL XS n C' → ∀ P : mT → Prop, (∀ t, m_F XL XS C' kX7_hasLabel (some .boolean) 0 0 0 K P t → P t) → P (0, m_pad 3 (m_ent as), [], w, 0, 0)) : C 81 as w K :=
  m_enter (M := (yX7_hasLabel, cX7_hasLabel, 3, (some .boolean), 0, 7, 2, kX7_hasLabel)) rfl rfl hC hel h
theorem e_X7_labelWith {XL : Nat} {XS : Nat → Int32} {n : Nat} {C : mC} {as : List Value} {w : mW} {K : mK} (hC : m_Ge XL XS (n + 1) C) (hel : (m_ent as).length ≤ 4) (h : ∀ C', m_Ge XL XS n C' → ∀ P : mT → Prop, (∀ t, m_F XL XS C' kX7_labelWith (some .int) 0 0 0 K P t → P t) → P (0, m_pad 4 (m_ent as), [], w, 0, 0)) : C 82 as w K :=
  m_enter (M := (yX7_labelWith, cX7_labelWith, 4, (some .int), 0, 7, 2, kX7_labelWith)) rfl rfl hC hel h
theorem e_X7_armFor {XL : Nat} {XS : Nat → Int32} {n : Nat} {C : mC} {as : List Value} {w : mW} {K : mK} (hC : m_Ge XL XS (n + 1) C) (hel : (m_ent as).length ≤ 4) (h : ∀ C', m_Ge XL XS n C' → ∀ P : mT → Prop, (∀ t, m_F XL XS C' kX7_armFor (some .int) 0 0 0 K P t → P t) → P (0, m_pad 4 (m_ent as), [], w, 0, 0)) : C 83 as w K :=
  m_enter (M := (yX7_armFor, cX7_armFor, 4, (some .int), 0, 7, 2, kX7_armFor)) rfl rfl hC hel h
theorem e_X7_isExhaustive {XL : Nat} {XS : Nat → Int32} {n : Nat} {C : mC} {as : List Value} {w : mW} {K : mK} (hC : m_Ge XL XS (n + 1) C) (hel : (m_ent as).length ≤ 1) (h : ∀ C', m_Ge XL XS n C' → ∀ P : mT → Prop, (∀ t, m_F XL XS C' kX7_isExhaustive (some .boolean) 0 0 0 K P t → P t) → P (0, m_pad 1 (m_ent as), [], w, 0, 0)) : C 84 as w K :=
  m_enter (M := (yX7_isExhaustive, cX7_isExhaustive, 1, (some .boolean), 0, 7, 1, kX7_isExhaustive)) rfl rfl hC hel h
theorem e_X8_init {XL : Nat} {XS : Nat → Int32} {n : Nat} {C : mC} {as : List Value} {w : mW} {K : mK} (hC : m_Ge XL XS (n + 1) C) (hel : (m_ent as).length ≤ 1) (h : ∀ C', m_Ge XL XS n C' → ∀ P : mT → Prop, (∀ t, m_F XL XS C' kX8_init none 108 29 13290 K P t → P t) → P (0, m_pad 1 (m_ent as), [], w, 0, 0)) : C 85 as w K :=
  m_enter (M := (yX8_init, cX8_init, 1, none, 2, 8, 1, kX8_init)) rfl rfl hC hel h
theorem e_X8_type {XL : Nat} {XS : Nat → Int32} {n : Nat} {C : mC} {as : List Value} {w : mW} {K : mK} (hC : m_Ge XL XS (n + 1) C) (hel : (m_ent as).length ≤ 4) (h : ∀ C', m_Ge XL XS n C' → ∀ P : mT → Prop, (∀ t, m_F XL XS C' kX8_type (some .int) 0 0 0 K P t → P t) → P (0, m_pad 4 (m_ent as), [], w, 0, 0)) : C 86 as w K :=
  m_enter (M := (yX8_type, cX8_type, 4, (some .int), 0, 8, 3, kX8_type)) rfl rfl hC hel h
theorem e_X8_read {XL : Nat} {XS : Nat → Int32} {n : Nat} {C : mC} {as : List Value} {w : mW} {K : mK} (hC : m_Ge XL XS (n + 1) C) (hel : (m_ent as).length ≤ 1) (h : ∀ C', m_Ge XL XS n C' → ∀ P : mT → Prop, (∀ t, m_F XL XS C' kX8_read (some .int) 0 0 0 K P t → P t) → P (0, m_pad 1 (m_ent as), [], w, 0, 0)) : C 87 as w K :=
  m_enter (M := (yX8_read, cX8_read, 1, (some .int), 0, 8, 1, kX8_read)) rfl rfl hC hel h
theorem e_X8_place {XL : Nat} {XS : Nat → Int32} {n : Nat} {C : mC} {as : List Value} {w : mW} {K : mK} (hC : m_Ge XL XS (n + 1) C) (hel : (m_ent as).length ≤ 1) (h : ∀ C', m_Ge XL XS n C' → ∀ P : mT → Prop, (∀ t, m_F XL XS C' kX8_place (some .int) 0 0 0 K P t → P t) → P (0, m_pad 1 (m_ent as), [], w, 0, 0)) : C 88 as w K :=
  m_enter (M := (yX8_place, cX8_place, 1, (some .int), 0, 8, 1, kX8_place)) rfl rfl hC hel h
theorem e_X8_told {XL : Nat} {XS : Nat → Int32} {n : Nat} {C : mC} {as : List Value} {w : mW} {K : mK} (hC : m_Ge XL XS (n + 1) C) (hel : (m_ent as).length ≤ 2) (h : ∀ C', m_Ge XL XS n C' → ∀ P : mT → Prop, (∀ t, m_F XL XS C' kX8_told (some .int) 0 0 0 K P t → P t) → P (0, m_pad 2 (m_ent as), [], w, 0, 0)) : C 89 as w K :=
  m_enter (M := (yX8_told, cX8_told, 2, (some .int), 0, 8, 2, kX8_told)) rfl rfl hC hel h
theorem e_X8_label {XL : Nat} {XS : Nat → Int32} {n : Nat} {C : mC} {as : List Value} {w : mW} {K : mK} (hC : m_Ge XL XS (n + 1) C) (hel : (m_ent as).length ≤ 3) (h : ∀ C', m_Ge XL XS n C' → ∀ P : mT → Prop, (∀ t, m_F XL XS C' kX8_label (some .int) 0 0 0 K P t → P t) → P (0, m_pad 3 (m_ent as), [], w, 0, 0)) : C 90 as w K :=
  m_enter (M := (yX8_label, cX8_label, 3, (some .int), 0, 8, 3, kX8_label)) rfl rfl hC hel h
theorem e_X8_run {XL : Nat} {XS : Nat → Int32} {n : Nat} {C : mC} {as : List Value} {w : mW} {K : mK} (hC : m_Ge XL XS (n + 1) C) (hel : (m_ent as).length ≤ 4) (h : ∀ C', m_Ge XL XS n C' → ∀ P : mT → Prop, (∀ t, m_F XL XS C' kX8_run (some .int) 0 0 0 K P t → P t) → P (0, m_pad 4 (m_ent as), [], w, 0, 0)) : C 91 as w K :=
  m_enter (M := (yX8_run, cX8_run, 4, (some .int), 0, 8, 3, kX8_run)) rfl rfl hC hel h
theorem e_X8_runNone {XL : Nat} {XS : Nat → Int32} {n : Nat} {C : mC} {as : List Value} {w : mW} {K : mK} (hC : m_Ge XL XS (n + 1) C) (hel : (m_ent as).length ≤ 1) (h : ∀ C', m_Ge XL XS n C' → ∀ P : mT → Prop, (∀ t, m_F XL XS C' kX8_runNone (some .int) 0 0 0 K P t → P t) → P (0, m_pad 1 (m_ent as), [], w, 0, 0)) : C 92 as w K :=
  m_enter (M := (yX8_runNone, cX8_runNone, 1, (some .int), 0, 8, 1, kX8_runNone)) rfl rfl hC hel h
theorem e_X8_traced {XL : Nat} {XS : Nat → Int32} {n : Nat} {C : mC} {as : List Value} {w : mW} {K : mK} (hC : m_Ge XL XS (n + 1) C) (hel : (m_ent as).length ≤ 1) (h : ∀ C', m_Ge XL XS n C' → ∀ P : mT → Prop, (∀ t, m_F XL XS C' kX8_traced (some .int) 0 0 0 K P t → P t) → P (0, m_pad 1 (m_ent as), [], w, 0, 0)) : C 93 as w K :=
  m_enter (M := (yX8_traced, cX8_traced, 1, (some .int), 0, 8, 1, kX8_traced)) rfl rfl hC hel h
theorem e_X8_trace {XL : Nat} {XS : Nat → Int32} {n : Nat} {C : mC} {as : List Value} {w : mW} {K : mK} (hC : m_Ge XL XS (n + 1) C) (hel : (m_ent as).length ≤ 2) (h : ∀ C', m_Ge XL XS n C' → ∀ P : mT → Prop, (∀ t, m_F XL XS C' kX8_trace (some .int) 0 0 0 K P t → P t) → P (0, m_pad 2 (m_ent as), [], w, 0, 0)) : C 94 as w K :=
  m_enter (M := (yX8_trace, cX8_trace, 2, (some .int), 0, 8, 2, kX8_trace)) rfl rfl hC hel h
theorem e_X8_value {XL : Nat} {XS : Nat → Int32} {n : Nat} {C : mC} {as : List Value} {w : mW} {K : mK} (hC : m_Ge XL XS (n + 1) C) (hel : (m_ent as).length ≤ 1) (h : ∀ C', m_Ge XL XS n C' → ∀ P : mT → Prop, (∀ t, m_F XL XS C' kX8_value (some .int) 0 0 0 K P t → P t) → P (0, m_pad 1 (m_ent as), [], w, 0, 0)) : C 95 as w K :=
  m_enter (M := (yX8_value, cX8_value, 1, (some .int), 0, 8, 1, kX8_value)) rfl rfl hC hel h
theorem e_X8_form {XL : Nat} {XS : Nat → Int32} {n : Nat} {C : mC} {as : List Value} {w : mW} {K : mK} (hC : m_Ge XL XS (n + 1) C) (hel : (m_ent as).length ≤ 1) (h : ∀ C', m_Ge XL XS n C' → ∀ P : mT → Prop, (∀ t, m_F XL XS C' kX8_form (some .int) 0 0 0 K P t → P t) → P (0, m_pad 1 (m_ent as), [], w, 0, 0)) : C 96 as w K :=
  m_enter (M := (yX8_form, cX8_form, 1, (some .int), 0, 8, 1, kX8_form)) rfl rfl hC hel h
theorem e_X8_keys {XL : Nat} {XS : Nat → Int32} {n : Nat} {C : mC} {as : List Value} {w : mW} {K : mK} (hC : m_Ge XL XS (n + 1) C) (hel : (m_ent as).length ≤ 1) (h : ∀ C', m_Ge XL XS n C' → ∀ P : mT → Prop, (∀ t, m_F XL XS C' kX8_keys (some .int) 0 0 0 K P t → P t) → P (0, m_pad 1 (m_ent as), [], w, 0, 0)) : C 97 as w K :=
  m_enter (M := (yX8_keys, cX8_keys, 1, (some .int), 0, 8, 1, kX8_keys)) rfl rfl hC hel h
theorem e_X8_key {XL : Nat} {XS : Nat → Int32} {n : Nat} {C : mC} {as : List Value} {w : mW} {K : mK} (hC : m_Ge XL XS (n + 1) C) (hel : (m_ent as).length ≤ 2) (h : ∀ C', m_Ge XL XS n C' → ∀ P : mT → Prop, (∀ t, m_F XL XS C' kX8_key (some .int) 0 0 0 K P t → P t) → P (0, m_pad 2 (m_ent as), [], w, 0, 0)) : C 98 as w K :=
  m_enter (M := (yX8_key, cX8_key, 2, (some .int), 0, 8, 2, kX8_key)) rfl rfl hC hel h
theorem e_X8_target {XL : Nat} {XS : Nat → Int32} {n : Nat} {C : mC} {as : List Value} {w : mW} {K : mK} (hC : m_Ge XL XS (n + 1) C) (hel : (m_ent as).length ≤ 2) (h : ∀ C', m_Ge XL XS n C' → ∀ P : mT → Prop, (∀ t, m_F XL XS C' kX8_target (some .int) 0 0 0 K P t → P t) → P (0, m_pad 2 (m_ent as), [], w, 0, 0)) : C 99 as w K :=
  m_enter (M := (yX8_target, cX8_target, 2, (some .int), 0, 8, 2, kX8_target)) rfl rfl hC hel h
theorem e_X8_alike {XL : Nat} {XS : Nat → Int32} {n : Nat} {C : mC} {as : List Value} {w : mW} {K : mK} (hC : m_Ge XL XS (n + 1) C) (hel : (m_ent as).length ≤ 2) (h : ∀ C', m_Ge XL XS n C' → ∀ P : mT → Prop, (∀ t, m_F XL XS C' kX8_alike (some .int) 0 0 0 K P t → P t) → P (0, m_pad 2 (m_ent as), [], w, 0, 0)) : C 100 as w K :=
  m_enter (M := (yX8_alike, cX8_alike, 2, (some .int), 0, 8, 2, kX8_alike)) rfl rfl hC hel h
theorem e_X8_hash {XL : Nat} {XS : Nat → Int32} {n : Nat} {C : mC} {as : List Value} {w : mW} {K : mK} (hC : m_Ge XL XS (n + 1) C) (hel : (m_ent as).length ≤ 1) (h : ∀ C', m_Ge XL XS n C' → ∀ P : mT → Prop, (∀ t, m_F XL XS C' kX8_hash (some .int) 0 0 0 K P t → P t) → P (0, m_pad 1 (m_ent as), [], w, 0, 0)) : C 101 as w K :=
  m_enter (M := (yX8_hash, cX8_hash, 1, (some .int), 0, 8, 1, kX8_hash)) rfl rfl hC hel h
theorem e_X9_init {XL : Nat} {XS : Nat → Int32} {n : Nat} {C : mC} {as : List Value} {w : mW} {K : mK} (hC : m_Ge XL XS (n + 1) C) (hel : (m_ent as).length ≤ 1) (h : ∀ C', m_Ge XL XS n C' → ∀ P : mT → Prop, (∀ t, m_F XL XS C' kX9_init none 109 26 7572 K P t → P t) → P (0, m_pad 1 (m_ent as), [], w, 0, 0)) : C 102 as w K :=
  m_enter (M := (yX9_init, cX9_init, 1, none, 2, 9, 1, kX9_init)) rfl rfl hC hel h
theorem e_X9_type {XL : Nat} {XS : Nat → Int32} {n : Nat} {C : mC} {as : List Value} {w : mW} {K : mK} (hC : m_Ge XL XS (n + 1) C) (hel : (m_ent as).length ≤ 5) (h : ∀ C', m_Ge XL XS n C' → ∀ P : mT → Prop, (∀ t, m_F XL XS C' kX9_type (some .int) 0 0 0 K P t → P t) → P (0, m_pad 5 (m_ent as), [], w, 0, 0)) : C 103 as w K :=
  m_enter (M := (yX9_type, cX9_type, 5, (some .int), 0, 9, 3, kX9_type)) rfl rfl hC hel h
theorem e_X9_octet {XL : Nat} {XS : Nat → Int32} {n : Nat} {C : mC} {as : List Value} {w : mW} {K : mK} (hC : m_Ge XL XS (n + 1) C) (hel : (m_ent as).length ≤ 2) (h : ∀ C', m_Ge XL XS n C' → ∀ P : mT → Prop, (∀ t, m_F XL XS C' kX9_octet (some .int) 0 0 0 K P t → P t) → P (0, m_pad 2 (m_ent as), [], w, 0, 0)) : C 104 as w K :=
  m_enter (M := (yX9_octet, cX9_octet, 2, (some .int), 0, 9, 2, kX9_octet)) rfl rfl hC hel h
theorem e_X9_isSmall {XL : Nat} {XS : Nat → Int32} {n : Nat} {C : mC} {as : List Value} {w : mW} {K : mK} (hC : m_Ge XL XS (n + 1) C) (hel : (m_ent as).length ≤ 1) (h : ∀ C', m_Ge XL XS n C' → ∀ P : mT → Prop, (∀ t, m_F XL XS C' kX9_isSmall (some .boolean) 0 0 0 K P t → P t) → P (0, m_pad 1 (m_ent as), [], w, 0, 0)) : C 105 as w K :=
  m_enter (M := (yX9_isSmall, cX9_isSmall, 1, (some .boolean), 1, 9, 1, kX9_isSmall)) rfl rfl hC hel h
theorem e_X9_isFigure {XL : Nat} {XS : Nat → Int32} {n : Nat} {C : mC} {as : List Value} {w : mW} {K : mK} (hC : m_Ge XL XS (n + 1) C) (hel : (m_ent as).length ≤ 1) (h : ∀ C', m_Ge XL XS n C' → ∀ P : mT → Prop, (∀ t, m_F XL XS C' kX9_isFigure (some .boolean) 0 0 0 K P t → P t) → P (0, m_pad 1 (m_ent as), [], w, 0, 0)) : C 106 as w K :=
  m_enter (M := (yX9_isFigure, cX9_isFigure, 1, (some .boolean), 1, 9, 1, kX9_isFigure)) rfl rfl hC hel h
theorem e_X9_next {XL : Nat} {XS : Nat → Int32} {n : Nat} {C : mC} {as : List Value} {w : mW} {K : mK} (hC : m_Ge XL XS (n + 1) C) (hel : (m_ent as).length ≤ 2) (h : ∀ C', m_Ge XL XS n C' → ∀ P : mT → Prop, (∀ t, m_F XL XS C' kX9_next none 0 0 0 K P t → P t) → P (0, m_pad 2 (m_ent as), [], w, 0, 0)) : C 107 as w K :=
  m_enter (M := (yX9_next, cX9_next, 2, none, 0, 9, 1, kX9_next)) rfl rfl hC hel h
theorem e_X9_nextName {XL : Nat} {XS : Nat → Int32} {n : Nat} {C : mC} {as : List Value} {w : mW} {K : mK} (hC : m_Ge XL XS (n + 1) C) (hel : (m_ent as).length ≤ 3) (h : ∀ C', m_Ge XL XS n C' → ∀ P : mT → Prop, (∀ t, m_F XL XS C' kX9_nextName none 0 0 0 K P t → P t) → P (0, m_pad 3 (m_ent as), [], w, 0, 0)) : C 108 as w K :=
  m_enter (M := (yX9_nextName, cX9_nextName, 3, none, 0, 9, 1, kX9_nextName)) rfl rfl hC hel h
theorem e_X9_nextNumber {XL : Nat} {XS : Nat → Int32} {n : Nat} {C : mC} {as : List Value} {w : mW} {K : mK} (hC : m_Ge XL XS (n + 1) C) (hel : (m_ent as).length ≤ 2) (h : ∀ C', m_Ge XL XS n C' → ∀ P : mT → Prop, (∀ t, m_F XL XS C' kX9_nextNumber none 0 0 0 K P t → P t) → P (0, m_pad 2 (m_ent as), [], w, 0, 0)) : C 109 as w K :=
  m_enter (M := (yX9_nextNumber, cX9_nextNumber, 2, none, 0, 9, 1, kX9_nextNumber)) rfl rfl hC hel h
theorem e_X9_nextText {XL : Nat} {XS : Nat → Int32} {n : Nat} {C : mC} {as : List Value} {w : mW} {K : mK} (hC : m_Ge XL XS (n + 1) C) (hel : (m_ent as).length ≤ 2) (h : ∀ C', m_Ge XL XS n C' → ∀ P : mT → Prop, (∀ t, m_F XL XS C' kX9_nextText none 0 0 0 K P t → P t) → P (0, m_pad 2 (m_ent as), [], w, 0, 0)) : C 110 as w K :=
  m_enter (M := (yX9_nextText, cX9_nextText, 2, none, 0, 9, 1, kX9_nextText)) rfl rfl hC hel h
theorem e_X9_wrong {XL : Nat} {XS : Nat → Int32} {n : Nat} {C : mC} {as : List Value} {w : mW} {K : mK} (hC : m_Ge XL XS (n + 1) C) (hel : (m_ent as).length ≤ 2) (h : ∀ C', m_Ge XL XS n C' → ∀ P : mT → Prop, (∀ t, m_F XL XS C' kX9_wrong none 0 0 0 K P t → P t) → P (0, m_pad 2 (m_ent as), [], w, 0, 0)) : C 111 as w K :=
  m_enter (M := (yX9_wrong, cX9_wrong, 2, none, 0, 9, 2, kX9_wrong)) rfl rfl hC hel h
theorem e_X9_wrongAt {XL : Nat} {XS : Nat → Int32} {n : Nat} {C : mC} {as : List Value} {w : mW} {K : mK} (hC : m_Ge XL XS (n + 1) C) (hel : (m_ent as).length ≤ 3) (h : ∀ C', m_Ge XL XS n C' → ∀ P : mT → Prop, (∀ t, m_F XL XS C' kX9_wrongAt none 0 0 0 K P t → P t) → P (0, m_pad 3 (m_ent as), [], w, 0, 0)) : C 112 as w K :=
  m_enter (M := (yX9_wrongAt, cX9_wrongAt, 3, none, 0, 9, 3, kX9_wrongAt)) rfl rfl hC hel h
theorem e_X9_cannot {XL : Nat} {XS : Nat → Int32} {n : Nat} {C : mC} {as : List Value} {w : mW} {K : mK} (hC : m_Ge XL XS (n + 1) C) (hel : (m_ent as).length ≤ 1) (h : ∀ C', m_Ge XL XS n C' → ∀ P : mT → Prop, (∀ t, m_F XL XS C' kX9_cannot none 0 0 0 K P t → P t) → P (0, m_pad 1 (m_ent as), [], w, 0, 0)) : C 113 as w K :=
  m_enter (M := (yX9_cannot, cX9_cannot, 1, none, 0, 9, 1, kX9_cannot)) rfl rfl hC hel h
theorem e_X9_isSign {XL : Nat} {XS : Nat → Int32} {n : Nat} {C : mC} {as : List Value} {w : mW} {K : mK} (hC : m_Ge XL XS (n + 1) C) (hel : (m_ent as).length ≤ 2) (h : ∀ C', m_Ge XL XS n C' → ∀ P : mT → Prop, (∀ t, m_F XL XS C' kX9_isSign (some .boolean) 0 0 0 K P t → P t) → P (0, m_pad 2 (m_ent as), [], w, 0, 0)) : C 114 as w K :=
  m_enter (M := (yX9_isSign, cX9_isSign, 2, (some .boolean), 0, 9, 2, kX9_isSign)) rfl rfl hC hel h
theorem e_X9_isWord {XL : Nat} {XS : Nat → Int32} {n : Nat} {C : mC} {as : List Value} {w : mW} {K : mK} (hC : m_Ge XL XS (n + 1) C) (hel : (m_ent as).length ≤ 2) (h : ∀ C', m_Ge XL XS n C' → ∀ P : mT → Prop, (∀ t, m_F XL XS C' kX9_isWord (some .boolean) 0 0 0 K P t → P t) → P (0, m_pad 2 (m_ent as), [], w, 0, 0)) : C 115 as w K :=
  m_enter (M := (yX9_isWord, cX9_isWord, 2, (some .boolean), 0, 9, 2, kX9_isWord)) rfl rfl hC hel h
theorem e_X9_wantsSign {XL : Nat} {XS : Nat → Int32} {n : Nat} {C : mC} {as : List Value} {w : mW} {K : mK} (hC : m_Ge XL XS (n + 1) C) (hel : (m_ent as).length ≤ 2) (h : ∀ C', m_Ge XL XS n C' → ∀ P : mT → Prop, (∀ t, m_F XL XS C' kX9_wantsSign none 0 0 0 K P t → P t) → P (0, m_pad 2 (m_ent as), [], w, 0, 0)) : C 116 as w K :=
  m_enter (M := (yX9_wantsSign, cX9_wantsSign, 2, none, 0, 9, 2, kX9_wantsSign)) rfl rfl hC hel h
theorem e_X9_number {XL : Nat} {XS : Nat → Int32} {n : Nat} {C : mC} {as : List Value} {w : mW} {K : mK} (hC : m_Ge XL XS (n + 1) C) (hel : (m_ent as).length ≤ 2) (h : ∀ C', m_Ge XL XS n C' → ∀ P : mT → Prop, (∀ t, m_F XL XS C' kX9_number (some .int) 0 0 0 K P t → P t) → P (0, m_pad 2 (m_ent as), [], w, 0, 0)) : C 117 as w K :=
  m_enter (M := (yX9_number, cX9_number, 2, (some .int), 0, 9, 1, kX9_number)) rfl rfl hC hel h
theorem e_X9_signed {XL : Nat} {XS : Nat → Int32} {n : Nat} {C : mC} {as : List Value} {w : mW} {K : mK} (hC : m_Ge XL XS (n + 1) C) (hel : (m_ent as).length ≤ 3) (h : ∀ C', m_Ge XL XS n C' → ∀ P : mT → Prop, (∀ t, m_F XL XS C' kX9_signed (some .int) 0 0 0 K P t → P t) → P (0, m_pad 3 (m_ent as), [], w, 0, 0)) : C 118 as w K :=
  m_enter (M := (yX9_signed, cX9_signed, 3, (some .int), 0, 9, 1, kX9_signed)) rfl rfl hC hel h
theorem e_X9_readEnum {XL : Nat} {XS : Nat → Int32} {n : Nat} {C : mC} {as : List Value} {w : mW} {K : mK} (hC : m_Ge XL XS (n + 1) C) (hel : (m_ent as).length ≤ 3) (h : ∀ C', m_Ge XL XS n C' → ∀ P : mT → Prop, (∀ t, m_F XL XS C' kX9_readEnum none 0 0 0 K P t → P t) → P (0, m_pad 3 (m_ent as), [], w, 0, 0)) : C 119 as w K :=
  m_enter (M := (yX9_readEnum, cX9_readEnum, 3, none, 0, 9, 1, kX9_readEnum)) rfl rfl hC hel h
theorem e_X9_constantOf {XL : Nat} {XS : Nat → Int32} {n : Nat} {C : mC} {as : List Value} {w : mW} {K : mK} (hC : m_Ge XL XS (n + 1) C) (hel : (m_ent as).length ≤ 5) (h : ∀ C', m_Ge XL XS n C' → ∀ P : mT → Prop, (∀ t, m_F XL XS C' kX9_constantOf (some .int) 0 0 0 K P t → P t) → P (0, m_pad 5 (m_ent as), [], w, 0, 0)) : C 120 as w K :=
  m_enter (M := (yX9_constantOf, cX9_constantOf, 5, (some .int), 0, 9, 3, kX9_constantOf)) rfl rfl hC hel h
theorem e_X9_readHead {XL : Nat} {XS : Nat → Int32} {n : Nat} {C : mC} {as : List Value} {w : mW} {K : mK} (hC : m_Ge XL XS (n + 1) C) (hel : (m_ent as).length ≤ 2) (h : ∀ C', m_Ge XL XS n C' → ∀ P : mT → Prop, (∀ t, m_F XL XS C' kX9_readHead none 0 0 0 K P t → P t) → P (0, m_pad 2 (m_ent as), [], w, 0, 0)) : C 121 as w K :=
  m_enter (M := (yX9_readHead, cX9_readHead, 2, none, 0, 9, 1, kX9_readHead)) rfl rfl hC hel h
theorem e_X9_isOther {XL : Nat} {XS : Nat → Int32} {n : Nat} {C : mC} {as : List Value} {w : mW} {K : mK} (hC : m_Ge XL XS (n + 1) C) (hel : (m_ent as).length ≤ 6) (h : ∀ C', m_Ge XL XS n C' → ∀ P : mT → Prop, (∀ t, m_F XL XS C' kX9_isOther (some .boolean) 0 0 0 K P t → P t) → P (0, m_pad 6 (m_ent as), [], w, 0, 0)) : C 122 as w K :=
  m_enter (M := (yX9_isOther, cX9_isOther, 6, (some .boolean), 0, 9, 4, kX9_isOther)) rfl rfl hC hel h
theorem e_X9_hashOf {XL : Nat} {XS : Nat → Int32} {n : Nat} {C : mC} {as : List Value} {w : mW} {K : mK} (hC : m_Ge XL XS (n + 1) C) (hel : (m_ent as).length ≤ 5) (h : ∀ C', m_Ge XL XS n C' → ∀ P : mT → Prop, (∀ t, m_F XL XS C' kX9_hashOf (some .int) 0 0 0 K P t → P t) → P (0, m_pad 5 (m_ent as), [], w, 0, 0)) : C 123 as w K :=
  m_enter (M := (yX9_hashOf, cX9_hashOf, 5, (some .int), 1, 9, 2, kX9_hashOf)) rfl rfl hC hel h
theorem e_X9_readLabel {XL : Nat} {XS : Nat → Int32} {n : Nat} {C : mC} {as : List Value} {w : mW} {K : mK} (hC : m_Ge XL XS (n + 1) C) (hel : (m_ent as).length ≤ 8) (h : ∀ C', m_Ge XL XS n C' → ∀ P : mT → Prop, (∀ t, m_F XL XS C' kX9_readLabel none 0 0 0 K P t → P t) → P (0, m_pad 8 (m_ent as), [], w, 0, 0)) : C 124 as w K :=
  m_enter (M := (yX9_readLabel, cX9_readLabel, 8, none, 0, 9, 1, kX9_readLabel)) rfl rfl hC hel h
theorem e_X9_emit {XL : Nat} {XS : Nat → Int32} {n : Nat} {C : mC} {as : List Value} {w : mW} {K : mK} (hC : m_Ge XL XS (n + 1) C) (hel : (m_ent as).length ≤ 4) (h : ∀ C', m_Ge XL XS n C' → ∀ P : mT → Prop, (∀ t, m_F XL XS C' kX9_emit (some .int) 0 0 0 K P t → P t) → P (0, m_pad 4 (m_ent as), [], w, 0, 0)) : C 125 as w K :=
  m_enter (M := (yX9_emit, cX9_emit, 4, (some .int), 0, 9, 4, kX9_emit)) rfl rfl hC hel h
theorem e_X9_inScope {XL : Nat} {XS : Nat → Int32} {n : Nat} {C : mC} {as : List Value} {w : mW} {K : mK} (hC : m_Ge XL XS (n + 1) C) (hel : (m_ent as).length ≤ 4) (h : ∀ C', m_Ge XL XS n C' → ∀ P : mT → Prop, (∀ t, m_F XL XS C' kX9_inScope (some .int) 0 0 0 K P t → P t) → P (0, m_pad 4 (m_ent as), [], w, 0, 0)) : C 126 as w K :=
  m_enter (M := (yX9_inScope, cX9_inScope, 4, (some .int), 0, 9, 2, kX9_inScope)) rfl rfl hC hel h
theorem e_X9_push {XL : Nat} {XS : Nat → Int32} {n : Nat} {C : mC} {as : List Value} {w : mW} {K : mK} (hC : m_Ge XL XS (n + 1) C) (hel : (m_ent as).length ≤ 2) (h : ∀ C', m_Ge XL XS n C' → ∀ P : mT → Prop, (∀ t, m_F XL XS C' kX9_push none 0 0 0 K P t → P t) → P (0, m_pad 2 (m_ent as), [], w, 0, 0)) : C 127 as w K :=
  m_enter (M := (yX9_push, cX9_push, 2, none, 0, 9, 2, kX9_push)) rfl rfl hC hel h
theorem e_X9_pop {XL : Nat} {XS : Nat → Int32} {n : Nat} {C : mC} {as : List Value} {w : mW} {K : mK} (hC : m_Ge XL XS (n + 1) C) (hel : (m_ent as).length ≤ 1) (h : ∀ C', m_Ge XL XS n C' → ∀ P : mT → Prop, (∀ t, m_F XL XS C' kX9_pop none 0 0 0 K P t → P t) → P (0, m_pad 1 (m_ent as), [], w, 0, 0)) : C 128 as w K :=
  m_enter (M := (yX9_pop, cX9_pop, 1, none, 0, 9, 1, kX9_pop)) rfl rfl hC hel h
theorem e_X9_through {XL : Nat} {XS : Nat → Int32} {n : Nat} {C : mC} {as : List Value} {w : mW} {K : mK} (hC : m_Ge XL XS (n + 1) C) (hel : (m_ent as).length ≤ 5) (h : ∀ C', m_Ge XL XS n C' → ∀ P : mT → Prop, (∀ t, m_F XL XS C' kX9_through none 0 0 0 K P t → P t) → P (0, m_pad 5 (m_ent as), [], w, 0, 0)) : C 129 as w K :=
  m_enter (M := (yX9_through, cX9_through, 5, none, 0, 9, 2, kX9_through)) rfl rfl hC hel h
theorem e_X9_isList {XL : Nat} {XS : Nat → Int32} {n : Nat} {C : mC} {as : List Value} {w : mW} {K : mK} (hC : m_Ge XL XS (n + 1) C) (hel : (m_ent as).length ≤ 1) (h : ∀ C', m_Ge XL XS n C' → ∀ P : mT → Prop, (∀ t, m_F XL XS C' kX9_isList (some .boolean) 0 0 0 K P t → P t) → P (0, m_pad 1 (m_ent as), [], w, 0, 0)) : C 130 as w K :=
  m_enter (M := (yX9_isList, cX9_isList, 1, (some .boolean), 0, 9, 1, kX9_isList)) rfl rfl hC hel h
theorem e_X9_begin {XL : Nat} {XS : Nat → Int32} {n : Nat} {C : mC} {as : List Value} {w : mW} {K : mK} (hC : m_Ge XL XS (n + 1) C) (hel : (m_ent as).length ≤ 1) (h : ∀ C', m_Ge XL XS n C' → ∀ P : mT → Prop, (∀ t, m_F XL XS C' kX9_begin none 0 0 0 K P t → P t) → P (0, m_pad 1 (m_ent as), [], w, 0, 0)) : C 131 as w K :=
  m_enter (M := (yX9_begin, cX9_begin, 1, none, 0, 9, 1, kX9_begin)) rfl rfl hC hel h
theorem e_X9_dead {XL : Nat} {XS : Nat → Int32} {n : Nat} {C : mC} {as : List Value} {w : mW} {K : mK} (hC : m_Ge XL XS (n + 1) C) (hel : (m_ent as).length ≤ 1) (h : ∀ C', m_Ge XL XS n C' → ∀ P : mT → Prop, (∀ t, m_F XL XS C' kX9_dead none 0 0 0 K P t → P t) → P (0, m_pad 1 (m_ent as), [], w, 0, 0)) : C 132 as w K :=
  m_enter (M := (yX9_dead, cX9_dead, 1, none, 0, 9, 1, kX9_dead)) rfl rfl hC hel h
theorem e_X9_simple {XL : Nat} {XS : Nat → Int32} {n : Nat} {C : mC} {as : List Value} {w : mW} {K : mK} (hC : m_Ge XL XS (n + 1) C) (hel : (m_ent as).length ≤ 3) (h : ∀ C', m_Ge XL XS n C' → ∀ P : mT → Prop, (∀ t, m_F XL XS C' kX9_simple none 0 0 0 K P t → P t) → P (0, m_pad 3 (m_ent as), [], w, 0, 0)) : C 133 as w K :=
  m_enter (M := (yX9_simple, cX9_simple, 3, none, 0, 9, 1, kX9_simple)) rfl rfl hC hel h
theorem e_X9_use {XL : Nat} {XS : Nat → Int32} {n : Nat} {C : mC} {as : List Value} {w : mW} {K : mK} (hC : m_Ge XL XS (n + 1) C) (hel : (m_ent as).length ≤ 2) (h : ∀ C', m_Ge XL XS n C' → ∀ P : mT → Prop, (∀ t, m_F XL XS C' kX9_use none 0 0 0 K P t → P t) → P (0, m_pad 2 (m_ent as), [], w, 0, 0)) : C 134 as w K :=
  m_enter (M := (yX9_use, cX9_use, 2, none, 0, 9, 1, kX9_use)) rfl rfl hC hel h
theorem e_X9_let {XL : Nat} {XS : Nat → Int32} {n : Nat} {C : mC} {as : List Value} {w : mW} {K : mK} (hC : m_Ge XL XS (n + 1) C) (hel : (m_ent as).length ≤ 2) (h : ∀ C', m_Ge XL XS n C' → ∀ P : mT → Prop, (∀ t, m_F XL XS C' kX9_let none 0 0 0 K P t → P t) → P (0, m_pad 2 (m_ent as), [], w, 0, 0)) : C 135 as w K :=
  m_enter (M := (yX9_let, cX9_let, 2, none, 0, 9, 1, kX9_let)) rfl rfl hC hel h
theorem e_X9_yieldStmt {XL : Nat} {XS : Nat → Int32} {n : Nat} {C : mC} {as : List Value} {w : mW} {K : mK} (hC : m_Ge XL XS (n + 1) C) (hel : (m_ent as).length ≤ 1) (h : ∀ C', m_Ge XL XS n C' → ∀ P : mT → Prop, (∀ t, m_F XL XS C' kX9_yieldStmt none 0 0 0 K P t → P t) → P (0, m_pad 1 (m_ent as), [], w, 0, 0)) : C 136 as w K :=
  m_enter (M := (yX9_yieldStmt, cX9_yieldStmt, 1, none, 0, 9, 1, kX9_yieldStmt)) rfl rfl hC hel h
theorem e_X9_isSimple {XL : Nat} {XS : Nat → Int32} {n : Nat} {C : mC} {as : List Value} {w : mW} {K : mK} (hC : m_Ge XL XS (n + 1) C) (hel : (m_ent as).length ≤ 1) (h : ∀ C', m_Ge XL XS n C' → ∀ P : mT → Prop, (∀ t, m_F XL XS C' kX9_isSimple (some .boolean) 0 0 0 K P t → P t) → P (0, m_pad 1 (m_ent as), [], w, 0, 0)) : C 137 as w K :=
  m_enter (M := (yX9_isSimple, cX9_isSimple, 1, (some .boolean), 0, 9, 1, kX9_isSimple)) rfl rfl hC hel h
theorem e_X9_stmt {XL : Nat} {XS : Nat → Int32} {n : Nat} {C : mC} {as : List Value} {w : mW} {K : mK} (hC : m_Ge XL XS (n + 1) C) (hel : (m_ent as).length ≤ 1) (h : ∀ C', m_Ge XL XS n C' → ∀ P : mT → Prop, (∀ t, m_F XL XS C' kX9_stmt none 0 0 0 K P t → P t) → P (0, m_pad 1 (m_ent as), [], w, 0, 0)) : C 138 as w K :=
  m_enter (M := (yX9_stmt, cX9_stmt, 1, none, 0, 9, 1, kX9_stmt)) rfl rfl hC hel h
theorem e_X9_endBlock {XL : Nat} {XS : Nat → Int32} {n : Nat} {C : mC} {as : List Value} {w : mW} {K : mK} (hC : m_Ge XL XS (n + 1) C) (hel : (m_ent as).length ≤ 3) (h : ∀ C', m_Ge XL XS n C' → ∀ P : mT → Prop, (∀ t, m_F XL XS C' kX9_endBlock none 0 0 0 K P t → P t) → P (0, m_pad 3 (m_ent as), [], w, 0, 0)) : C 139 as w K :=
  m_enter (M := (yX9_endBlock, cX9_endBlock, 3, none, 0, 9, 1, kX9_endBlock)) rfl rfl hC hel h
theorem e_X9_readStmts {XL : Nat} {XS : Nat → Int32} {n : Nat} {C : mC} {as : List Value} {w : mW} {K : mK} (hC : m_Ge XL XS (n + 1) C) (hel : (m_ent as).length ≤ 3) (h : ∀ C', m_Ge XL XS n C' → ∀ P : mT → Prop, (∀ t, m_F XL XS C' kX9_readStmts none 0 0 0 K P t → P t) → P (0, m_pad 3 (m_ent as), [], w, 0, 0)) : C 140 as w K :=
  m_enter (M := (yX9_readStmts, cX9_readStmts, 3, none, 0, 9, 2, kX9_readStmts)) rfl rfl hC hel h
theorem e_X9_readOld {XL : Nat} {XS : Nat → Int32} {n : Nat} {C : mC} {as : List Value} {w : mW} {K : mK} (hC : m_Ge XL XS (n + 1) C) (hel : (m_ent as).length ≤ 1) (h : ∀ C', m_Ge XL XS n C' → ∀ P : mT → Prop, (∀ t, m_F XL XS C' kX9_readOld none 0 0 0 K P t → P t) → P (0, m_pad 1 (m_ent as), [], w, 0, 0)) : C 141 as w K :=
  m_enter (M := (yX9_readOld, cX9_readOld, 1, none, 0, 9, 1, kX9_readOld)) rfl rfl hC hel h
theorem e_X9_readBody {XL : Nat} {XS : Nat → Int32} {n : Nat} {C : mC} {as : List Value} {w : mW} {K : mK} (hC : m_Ge XL XS (n + 1) C) (hel : (m_ent as).length ≤ 2) (h : ∀ C', m_Ge XL XS n C' → ∀ P : mT → Prop, (∀ t, m_F XL XS C' kX9_readBody none 0 0 0 K P t → P t) → P (0, m_pad 2 (m_ent as), [], w, 0, 0)) : C 142 as w K :=
  m_enter (M := (yX9_readBody, cX9_readBody, 2, none, 0, 9, 1, kX9_readBody)) rfl rfl hC hel h
theorem e_X9_readArm {XL : Nat} {XS : Nat → Int32} {n : Nat} {C : mC} {as : List Value} {w : mW} {K : mK} (hC : m_Ge XL XS (n + 1) C) (hel : (m_ent as).length ≤ 2) (h : ∀ C', m_Ge XL XS n C' → ∀ P : mT → Prop, (∀ t, m_F XL XS C' kX9_readArm none 0 0 0 K P t → P t) → P (0, m_pad 2 (m_ent as), [], w, 0, 0)) : C 143 as w K :=
  m_enter (M := (yX9_readArm, cX9_readArm, 2, none, 0, 9, 1, kX9_readArm)) rfl rfl hC hel h
theorem e_X9_read {XL : Nat} {XS : Nat → Int32} {n : Nat} {C : mC} {as : List Value} {w : mW} {K : mK} (hC : m_Ge XL XS (n + 1) C) (hel : (m_ent as).length ≤ 1) (h : ∀ C', m_Ge XL XS n C' → ∀ P : mT → Prop, (∀ t, m_F XL XS C' kX9_read (some .int) 0 0 0 K P t → P t) → P (0, m_pad 1 (m_ent as), [], w, 0, 0)) : C 144 as w K :=
  m_enter (M := (yX9_read, cX9_read, 1, (some .int), 0, 9, 1, kX9_read)) rfl rfl hC hel h
theorem e_X9_emitEnd {XL : Nat} {XS : Nat → Int32} {n : Nat} {C : mC} {as : List Value} {w : mW} {K : mK} (hC : m_Ge XL XS (n + 1) C) (hel : (m_ent as).length ≤ 1) (h : ∀ C', m_Ge XL XS n C' → ∀ P : mT → Prop, (∀ t, m_F XL XS C' kX9_emitEnd none 0 0 0 K P t → P t) → P (0, m_pad 1 (m_ent as), [], w, 0, 0)) : C 145 as w K :=
  m_enter (M := (yX9_emitEnd, cX9_emitEnd, 1, none, 0, 9, 1, kX9_emitEnd)) rfl rfl hC hel h
theorem e_X9_place {XL : Nat} {XS : Nat → Int32} {n : Nat} {C : mC} {as : List Value} {w : mW} {K : mK} (hC : m_Ge XL XS (n + 1) C) (hel : (m_ent as).length ≤ 1) (h : ∀ C', m_Ge XL XS n C' → ∀ P : mT → Prop, (∀ t, m_F XL XS C' kX9_place (some .int) 0 0 0 K P t → P t) → P (0, m_pad 1 (m_ent as), [], w, 0, 0)) : C 146 as w K :=
  m_enter (M := (yX9_place, cX9_place, 1, (some .int), 0, 9, 1, kX9_place)) rfl rfl hC hel h
theorem e_X9_told {XL : Nat} {XS : Nat → Int32} {n : Nat} {C : mC} {as : List Value} {w : mW} {K : mK} (hC : m_Ge XL XS (n + 1) C) (hel : (m_ent as).length ≤ 2) (h : ∀ C', m_Ge XL XS n C' → ∀ P : mT → Prop, (∀ t, m_F XL XS C' kX9_told (some .int) 0 0 0 K P t → P t) → P (0, m_pad 2 (m_ent as), [], w, 0, 0)) : C 147 as w K :=
  m_enter (M := (yX9_told, cX9_told, 2, (some .int), 0, 9, 2, kX9_told)) rfl rfl hC hel h
theorem e_X9_label {XL : Nat} {XS : Nat → Int32} {n : Nat} {C : mC} {as : List Value} {w : mW} {K : mK} (hC : m_Ge XL XS (n + 1) C) (hel : (m_ent as).length ≤ 3) (h : ∀ C', m_Ge XL XS n C' → ∀ P : mT → Prop, (∀ t, m_F XL XS C' kX9_label (some .int) 0 0 0 K P t → P t) → P (0, m_pad 3 (m_ent as), [], w, 0, 0)) : C 148 as w K :=
  m_enter (M := (yX9_label, cX9_label, 3, (some .int), 0, 9, 3, kX9_label)) rfl rfl hC hel h
theorem e_X9_armFor {XL : Nat} {XS : Nat → Int32} {n : Nat} {C : mC} {as : List Value} {w : mW} {K : mK} (hC : m_Ge XL XS (n + 1) C) (hel : (m_ent as).length ≤ 3) (h : ∀ C', m_Ge XL XS n C' → ∀ P : mT → Prop, (∀ t, m_F XL XS C' kX9_armFor (some .int) 0 0 0 K P t → P t) → P (0, m_pad 3 (m_ent as), [], w, 0, 0)) : C 149 as w K :=
  m_enter (M := (yX9_armFor, cX9_armFor, 3, (some .int), 0, 9, 2, kX9_armFor)) rfl rfl hC hel h
theorem e_X9_isTextAt {XL : Nat} {XS : Nat → Int32} {n : Nat} {C : mC} {as : List Value} {w : mW} {K : mK} (hC : m_Ge XL XS (n + 1) C) (hel : (m_ent as).length ≤ 4) (h : ∀ C', m_Ge XL XS n C' → ∀ P : mT → Prop, (∀ t, m_F XL XS C' kX9_isTextAt (some .boolean) 0 0 0 K P t → P t) → P (0, m_pad 4 (m_ent as), [], w, 0, 0)) : C 150 as w K :=
  m_enter (M := (yX9_isTextAt, cX9_isTextAt, 4, (some .boolean), 0, 9, 2, kX9_isTextAt)) rfl rfl hC hel h
theorem e_X9_run {XL : Nat} {XS : Nat → Int32} {n : Nat} {C : mC} {as : List Value} {w : mW} {K : mK} (hC : m_Ge XL XS (n + 1) C) (hel : (m_ent as).length ≤ 7) (h : ∀ C', m_Ge XL XS n C' → ∀ P : mT → Prop, (∀ t, m_F XL XS C' kX9_run (some .int) 0 0 0 K P t → P t) → P (0, m_pad 7 (m_ent as), [], w, 0, 0)) : C 151 as w K :=
  m_enter (M := (yX9_run, cX9_run, 7, (some .int), 0, 9, 3, kX9_run)) rfl rfl hC hel h
theorem e_X9_runNone {XL : Nat} {XS : Nat → Int32} {n : Nat} {C : mC} {as : List Value} {w : mW} {K : mK} (hC : m_Ge XL XS (n + 1) C) (hel : (m_ent as).length ≤ 1) (h : ∀ C', m_Ge XL XS n C' → ∀ P : mT → Prop, (∀ t, m_F XL XS C' kX9_runNone (some .int) 0 0 0 K P t → P t) → P (0, m_pad 1 (m_ent as), [], w, 0, 0)) : C 152 as w K :=
  m_enter (M := (yX9_runNone, cX9_runNone, 1, (some .int), 0, 9, 1, kX9_runNone)) rfl rfl hC hel h
theorem e_X9_traced {XL : Nat} {XS : Nat → Int32} {n : Nat} {C : mC} {as : List Value} {w : mW} {K : mK} (hC : m_Ge XL XS (n + 1) C) (hel : (m_ent as).length ≤ 1) (h : ∀ C', m_Ge XL XS n C' → ∀ P : mT → Prop, (∀ t, m_F XL XS C' kX9_traced (some .int) 0 0 0 K P t → P t) → P (0, m_pad 1 (m_ent as), [], w, 0, 0)) : C 153 as w K :=
  m_enter (M := (yX9_traced, cX9_traced, 1, (some .int), 0, 9, 1, kX9_traced)) rfl rfl hC hel h
theorem e_X9_trace {XL : Nat} {XS : Nat → Int32} {n : Nat} {C : mC} {as : List Value} {w : mW} {K : mK} (hC : m_Ge XL XS (n + 1) C) (hel : (m_ent as).length ≤ 2) (h : ∀ C', m_Ge XL XS n C' → ∀ P : mT → Prop, (∀ t, m_F XL XS C' kX9_trace (some .int) 0 0 0 K P t → P t) → P (0, m_pad 2 (m_ent as), [], w, 0, 0)) : C 154 as w K :=
  m_enter (M := (yX9_trace, cX9_trace, 2, (some .int), 0, 9, 2, kX9_trace)) rfl rfl hC hel h
theorem e_X9_value {XL : Nat} {XS : Nat → Int32} {n : Nat} {C : mC} {as : List Value} {w : mW} {K : mK} (hC : m_Ge XL XS (n + 1) C) (hel : (m_ent as).length ≤ 1) (h : ∀ C', m_Ge XL XS n C' → ∀ P : mT → Prop, (∀ t, m_F XL XS C' kX9_value (some .int) 0 0 0 K P t → P t) → P (0, m_pad 1 (m_ent as), [], w, 0, 0)) : C 155 as w K :=
  m_enter (M := (yX9_value, cX9_value, 1, (some .int), 0, 9, 1, kX9_value)) rfl rfl hC hel h
theorem e_X9_findKeys {XL : Nat} {XS : Nat → Int32} {n : Nat} {C : mC} {as : List Value} {w : mW} {K : mK} (hC : m_Ge XL XS (n + 1) C) (hel : (m_ent as).length ≤ 4) (h : ∀ C', m_Ge XL XS n C' → ∀ P : mT → Prop, (∀ t, m_F XL XS C' kX9_findKeys none 0 0 0 K P t → P t) → P (0, m_pad 4 (m_ent as), [], w, 0, 0)) : C 156 as w K :=
  m_enter (M := (yX9_findKeys, cX9_findKeys, 4, none, 0, 9, 1, kX9_findKeys)) rfl rfl hC hel h
theorem e_X9_form {XL : Nat} {XS : Nat → Int32} {n : Nat} {C : mC} {as : List Value} {w : mW} {K : mK} (hC : m_Ge XL XS (n + 1) C) (hel : (m_ent as).length ≤ 3) (h : ∀ C', m_Ge XL XS n C' → ∀ P : mT → Prop, (∀ t, m_F XL XS C' kX9_form (some .int) 0 0 0 K P t → P t) → P (0, m_pad 3 (m_ent as), [], w, 0, 0)) : C 157 as w K :=
  m_enter (M := (yX9_form, cX9_form, 3, (some .int), 0, 9, 1, kX9_form)) rfl rfl hC hel h
theorem e_X9_keys {XL : Nat} {XS : Nat → Int32} {n : Nat} {C : mC} {as : List Value} {w : mW} {K : mK} (hC : m_Ge XL XS (n + 1) C) (hel : (m_ent as).length ≤ 1) (h : ∀ C', m_Ge XL XS n C' → ∀ P : mT → Prop, (∀ t, m_F XL XS C' kX9_keys (some .int) 0 0 0 K P t → P t) → P (0, m_pad 1 (m_ent as), [], w, 0, 0)) : C 158 as w K :=
  m_enter (M := (yX9_keys, cX9_keys, 1, (some .int), 0, 9, 1, kX9_keys)) rfl rfl hC hel h
theorem e_X9_key {XL : Nat} {XS : Nat → Int32} {n : Nat} {C : mC} {as : List Value} {w : mW} {K : mK} (hC : m_Ge XL XS (n + 1) C) (hel : (m_ent as).length ≤ 2) (h : ∀ C', m_Ge XL XS n C' → ∀ P : mT → Prop, (∀ t, m_F XL XS C' kX9_key (some .int) 0 0 0 K P t → P t) → P (0, m_pad 2 (m_ent as), [], w, 0, 0)) : C 159 as w K :=
  m_enter (M := (yX9_key, cX9_key, 2, (some .int), 0, 9, 2, kX9_key)) rfl rfl hC hel h
theorem e_X9_target {XL : Nat} {XS : Nat → Int32} {n : Nat} {C : mC} {as : List Value} {w : mW} {K : mK} (hC : m_Ge XL XS (n + 1) C) (hel : (m_ent as).length ≤ 2) (h : ∀ C', m_Ge XL XS n C' → ∀ P : mT → Prop, (∀ t, m_F XL XS C' kX9_target (some .int) 0 0 0 K P t → P t) → P (0, m_pad 2 (m_ent as), [], w, 0, 0)) : C 160 as w K :=
  m_enter (M := (yX9_target, cX9_target, 2, (some .int), 0, 9, 2, kX9_target)) rfl rfl hC hel h
theorem e_X9_alike {XL : Nat} {XS : Nat → Int32} {n : Nat} {C : mC} {as : List Value} {w : mW} {K : mK} (hC : m_Ge XL XS (n + 1) C) (hel : (m_ent as).length ≤ 2) (h : ∀ C', m_Ge XL XS n C' → ∀ P : mT → Prop, (∀ t, m_F XL XS C' kX9_alike (some .int) 0 0 0 K P t → P t) → P (0, m_pad 2 (m_ent as), [], w, 0, 0)) : C 161 as w K :=
  m_enter (M := (yX9_alike, cX9_alike, 2, (some .int), 0, 9, 2, kX9_alike)) rfl rfl hC hel h
theorem e_X9_hash {XL : Nat} {XS : Nat → Int32} {n : Nat} {C : mC} {as : List Value} {w : mW} {K : mK} (hC : m_Ge XL XS (n + 1) C) (hel : (m_ent as).length ≤ 3) (h : ∀ C', m_Ge XL XS n C' → ∀ P : mT → Prop, (∀ t, m_F XL XS C' kX9_hash (some .int) 0 0 0 K P t → P t) → P (0, m_pad 3 (m_ent as), [], w, 0, 0)) : C 162 as w K :=
  m_enter (M := (yX9_hash, cX9_hash, 3, (some .int), 0, 9, 1, kX9_hash)) rfl rfl hC hel h
end
section
/-! ===== the class's leaves ===== -/
theorem m_vin {x : Int32} {n : Nat} (h0 : ¬ x < 0) (h1 : x < Int32.ofNat n) (hn : n < 2 ^ 31) : vp_in x n := by
  rw [vp_in_iff]
  have h2 : (Int32.ofNat n).toInt = (n : Int) := nI_toInt hn
  rw [Int32.lt_iff_toInt_lt] at h0 h1
  rw [h2] at h1
  have h3 : (0 : Int32).toInt = 0 := rfl
  rw [h3] at h0
  omega
theorem m_upr {I : Nat → Nat → Int32} {k j k' j' : Nat} {x : Int32} : m_up I k j x k' j' = if k' = k then (if j' = j then x else I k' j') else I k' j' := by
  unfold m_up va_up upd
  by_cases h : k' = k
  · subst h; simp
  · simp [h]
theorem m_uprL {L : Nat → Nat → Int64} {k j k' j' : Nat} {x : Int64} : m_upL L k j x k' j' = if k' = k then (if j' = j then x else L k' j') else L k' j' := by
  unfold m_upL va_up vp_updL
  by_cases h : k' = k
  · subst h; simp
  · simp [h]
def oAt (I : Nat → Nat → Int32) (i : Int32) : Int32 := if i < 0 then -1 else if i < I 1 1 then (if i < 3000 then I 2 i.toNatClampNeg else -1) else -1
theorem c_at {XL : Nat} {XS : Nat → Int32} {n : Nat} {C : mC} {I : Nat → Nat → Int32} {L : Nat → Nat → Int64} {K : mK} {i : Int32} (hC : m_Ge XL XS (n + 1) C) (hK : K (some (.int (oAt I i))) (m_SH, I, L)) : C 38 [.ref 1, .int i] (m_SH, I, L) K := by
  refine e_X2_at hC (Nat.le_of_ble_eq_true rfl) ?_
  intro C' hC' P hP
  repeat' (first | (refine hP _ ?_; conv => whnf) | (refine And.intro (m_vin (by assumption) (by assumption) (by decide)) ?_) | (refine And.intro (fun _ => ?_) (fun _ => ?_)))
  all_goals (clear hP; try simp only [show Int32.ofNat 3000 = (3000 : Int32) from rfl] at *)
  all_goals (simpa [oAt, *] using hK)
def isSm (x : Int32) : Int32 := if x < 97 then 0 else if 122 < x then 0 else 1
def isFg (x : Int32) : Int32 := if x < 48 then 0 else if 57 < x then 0 else 1
def isTs (x : Int32) : Int32 := if isSm x = 0 then (if isFg x = 0 then (if x < 65 then 0 else if 90 < x then 0 else 1) else 1) else 1
theorem c_isSmall {XL : Nat} {XS : Nat → Int32} {n : Nat} {C : mC} {I : Nat → Nat → Int32} {L : Nat → Nat → Int64} {K : mK} {x : Int32} (hC : m_Ge XL XS (n + 1) C) (hK : K (some (.int (isSm x))) (m_SH, I, L)) : C 70 [.int x] (m_SH, I, L) K := by
  refine e_X6_isSmall hC (Nat.le_of_ble_eq_true rfl) ?_
  intro C' hC' P hP
  repeat' (first | (refine hP _ ?_; conv => whnf) | (refine And.intro rfl ?_) | (refine And.intro (Or.inl rfl) ?_) | (refine And.intro (Or.inr rfl) ?_) | (refine And.intro (m_vin (by assumption) (by assumption) (by decide)) ?_) | (refine And.intro (by assumption) ?_) | (refine And.intro (fun _ => ?_) (fun _ => ?_)))
  all_goals (clear hP; first | (simpa [m_upr, m_uprL, isSm, *] using hK) | (clear hC hC'; simp_all [m_upr, m_uprL, isSm]; done))
theorem c_isFigure {XL : Nat} {XS : Nat → Int32} {n : Nat} {C : mC} {I : Nat → Nat → Int32} {L : Nat → Nat → Int64} {K : mK} {x : Int32} (hC : m_Ge XL XS (n + 1) C) (hK : K (some (.int (isFg x))) (m_SH, I, L)) : C 71 [.int x] (m_SH, I, L) K := by
  refine e_X6_isFigure hC (Nat.le_of_ble_eq_true rfl) ?_
  intro C' hC' P hP
  repeat' (first | (refine hP _ ?_; conv => whnf) | (refine And.intro rfl ?_) | (refine And.intro (Or.inl rfl) ?_) | (refine And.intro (Or.inr rfl) ?_) | (refine And.intro (m_vin (by assumption) (by assumption) (by decide)) ?_) | (refine And.intro (by assumption) ?_) | (refine And.intro (fun _ => ?_) (fun _ => ?_)))
  all_goals (clear hP; first | (simpa [m_upr, m_uprL, isFg, *] using hK) | (clear hC hC'; simp_all [m_upr, m_uprL, isFg]; done))
theorem c_isTextSign {XL : Nat} {XS : Nat → Int32} {n : Nat} {C : mC} {I : Nat → Nat → Int32} {L : Nat → Nat → Int64} {K : mK} {x : Int32} (hC : m_Ge XL XS (n + 2) C) (hK : K (some (.int (isTs x))) (m_SH, I, L)) : C 72 [.int x] (m_SH, I, L) K := by
  refine e_X6_isTextSign hC (Nat.le_of_ble_eq_true rfl) ?_
  intro C' hC' P hP
  repeat' (first | (refine hP _ ?_; conv => whnf) | (refine And.intro rfl ?_) | (refine And.intro (Or.inl rfl) ?_) | (refine And.intro (Or.inr rfl) ?_) | (refine And.intro (m_vin (by assumption) (by assumption) (by decide)) ?_) | (refine And.intro (by assumption) ?_) | (refine c_isSmall hC' ?_) | (refine c_isFigure hC' ?_) | (refine And.intro (fun _ => ?_) (fun _ => ?_)))
  all_goals (clear hP; first | (simpa [m_upr, m_uprL, isTs, *] using hK) | (clear hC hC'; simp_all [m_upr, m_uprL, isTs]; done))
def sgK (x : Int32) : Int32 := if x = 44 then 23 else if x = 45 then 25 else if x = 58 then 21 else if x = 59 then 22 else if x = 61 then 24 else if x = 123 then 19 else if x = 125 then 20 else 28
theorem c_signKind {XL : Nat} {XS : Nat → Int32} {n : Nat} {C : mC} {I : Nat → Nat → Int32} {L : Nat → Nat → Int64} {K : mK} {x : Int32} (hC : m_Ge XL XS (n + 1) C) (hK : K (some (.int (sgK x))) (m_SH, I, L)) : C 73 [.int x] (m_SH, I, L) K := by
  refine e_X6_signKind hC (Nat.le_of_ble_eq_true rfl) ?_
  intro C' hC' P hP
  repeat' (first | (refine hP _ ?_; conv => whnf) | (refine And.intro rfl ?_) | (refine And.intro (Or.inl rfl) ?_) | (refine And.intro (Or.inr rfl) ?_) | (refine And.intro (m_vin (by assumption) (by assumption) (by decide)) ?_) | (refine And.intro (by assumption) ?_) | (refine And.intro (fun _ => ?_) (fun _ => ?_)))
  all_goals (clear hP; first | (simpa [m_upr, m_uprL, sgK, *] using hK) | (clear hC hC'; simp_all [m_upr, m_uprL, sgK]; done))
def kindF (I : Nat → Nat → Int32) : Int32 := if I 17 9 = 0 then (if I 17 8 < 0 then 0 else if I 17 8 < I 3 4 then (if I 17 8 < 3001 then I 4 (I 17 8).toNatClampNeg else 0) else 0) else 0
theorem c_kind {XL : Nat} {XS : Nat → Int32} {n : Nat} {C : mC} {I : Nat → Nat → Int32} {L : Nat → Nat → Int64} {K : mK} (hC : m_Ge XL XS (n + 1) C) (hK : K (some (.int (kindF I))) (m_SH, I, L)) : C 5 [.ref 17] (m_SH, I, L) K := by
  refine e_X1_kind hC (Nat.le_of_ble_eq_true rfl) ?_
  intro C' hC' P hP
  repeat' (first | (refine hP _ ?_; conv => whnf) | (refine And.intro rfl ?_) | (refine And.intro (Or.inl rfl) ?_) | (refine And.intro (Or.inr rfl) ?_) | (refine And.intro (m_vin (by assumption) (by assumption) (by decide)) ?_) | (refine And.intro (by assumption) ?_) | (refine And.intro (fun _ => ?_) (fun _ => ?_)))
  all_goals (clear hP; first | (simpa [m_upr, m_uprL, kindF, *] using hK) | (clear hC hC'; simp_all [m_upr, m_uprL, kindF]; done))
def tvF (I : Nat → Nat → Int32) (L : Nat → Nat → Int64) : Int64 := if I 17 8 < 0 then 0 else if I 17 8 < 3001 then L 6 (I 17 8).toNatClampNeg else 0
theorem c_tokenValue {XL : Nat} {XS : Nat → Int32} {n : Nat} {C : mC} {I : Nat → Nat → Int32} {L : Nat → Nat → Int64} {K : mK} (hC : m_Ge XL XS (n + 1) C) (hK : K (some (.long (tvF I L))) (m_SH, I, L)) : C 6 [.ref 17] (m_SH, I, L) K := by
  refine e_X1_tokenValue hC (Nat.le_of_ble_eq_true rfl) ?_
  intro C' hC' P hP
  repeat' (first | (refine hP _ ?_; conv => whnf) | (refine And.intro rfl ?_) | (refine And.intro (Or.inl rfl) ?_) | (refine And.intro (Or.inr rfl) ?_) | (refine And.intro (m_vin (by assumption) (by assumption) (by decide)) ?_) | (refine And.intro (by assumption) ?_) | (refine And.intro (fun _ => ?_) (fun _ => ?_)))
  all_goals (clear hP; first | (simpa [m_upr, m_uprL, tvF, *] using hK) | (clear hC hC'; simp_all [m_upr, m_uprL, tvF]; done))
def failF (a t : Int32) (I : Nat → Nat → Int32) : Nat → Nat → Int32 := if I 17 9 = 0 then (if t < 0 then I else if t < 3001 then m_up (m_up I 17 9 (if a = 2 then (if I 4 t.toNatClampNeg = 28 then 1 else a) else a)) 17 10 (I 5 t.toNatClampNeg) else I) else I
theorem c_fail {XL : Nat} {XS : Nat → Int32} {n : Nat} {C : mC} {I : Nat → Nat → Int32} {L : Nat → Nat → Int64} {K : mK} {a t : Int32} (hC : m_Ge XL XS (n + 1) C) (hK : K none (m_SH, failF a t I, L)) : C 7 [.ref 17, .int a, .int t] (m_SH, I, L) K := by
  refine e_X1_fail hC (Nat.le_of_ble_eq_true rfl) ?_
  intro C' hC' P hP
  repeat' (first | (refine hP _ ?_; conv => whnf) | (refine And.intro rfl ?_) | (refine And.intro (Or.inl rfl) ?_) | (refine And.intro (Or.inr rfl) ?_) | (refine And.intro (m_vin (by assumption) (by assumption) (by decide)) ?_) | (refine And.intro (by assumption) ?_) | (refine And.intro (fun _ => ?_) (fun _ => ?_)))
  all_goals (clear hP; first | (simpa [m_upr, m_uprL, failF, *] using hK) | (clear hC hC'; simp_all [m_upr, m_uprL, failF]; done))
def expF (k : Int32) (I : Nat → Nat → Int32) : Nat → Nat → Int32 := if kindF I = k then m_up I 17 8 (I 17 8 + 1) else failF 2 (I 17 8) I
theorem c_expect {XL : Nat} {XS : Nat → Int32} {n : Nat} {C : mC} {I : Nat → Nat → Int32} {L : Nat → Nat → Int64} {K : mK} {k : Int32} (hC : m_Ge XL XS (n + 2) C) (hK : K none (m_SH, expF k I, L)) : C 8 [.ref 17, .int k] (m_SH, I, L) K := by
  refine e_X1_expect hC (Nat.le_of_ble_eq_true rfl) ?_
  intro C' hC' P hP
  repeat' (first | (refine hP _ ?_; conv => whnf) | (refine And.intro rfl ?_) | (refine And.intro (Or.inl rfl) ?_) | (refine And.intro (Or.inr rfl) ?_) | (refine And.intro (m_vin (by assumption) (by assumption) (by decide)) ?_) | (refine And.intro (by assumption) ?_) | (refine c_kind hC' ?_) | (refine c_fail hC' ?_) | (refine And.intro (fun _ => ?_) (fun _ => ?_)))
  all_goals (clear hP; first | (simpa [m_upr, m_uprL, expF, *] using hK) | (clear hC hC'; simp_all [m_upr, m_uprL, expF]; done))
end
section
def bgF (k : Int32) : Int32 := if k = 19 then 1 else if k = 16 then 1 else if k < 8 then 0 else if 14 < k then 0 else 1
theorem c_beginsStmt {XL : Nat} {XS : Nat → Int32} {n : Nat} {C : mC} {I : Nat → Nat → Int32} {L : Nat → Nat → Int64} {K : mK} {k : Int32} (hC : m_Ge XL XS (n + 1) C) (hK : K (some (.int (bgF k))) (m_SH, I, L)) : C 24 [.int k] (m_SH, I, L) K := by
  refine e_X1_beginsStmt hC (Nat.le_of_ble_eq_true rfl) ?_
  intro C' hC' P hP
  repeat' (first | (refine hP _ ?_; conv => whnf) | (refine And.intro rfl ?_) | (refine And.intro (Or.inl rfl) ?_) | (refine And.intro (Or.inr rfl) ?_) | (refine And.intro (m_vin (by assumption) (by assumption) (by decide)) ?_) | (refine And.intro (by assumption) ?_) | (refine And.intro (fun _ => ?_) (fun _ => ?_)))
  all_goals (clear hP; first | (simpa [m_upr, m_uprL, bgF, *] using hK) | (clear hC hC'; simp_all [m_upr, m_uprL, bgF]; done))
def ccF (e : Int32) (I : Nat → Nat → Int32) : Int32 := if e < 0 then 0 else if e < 4 then I 21 e.toNatClampNeg else 0
theorem c_constantCount {XL : Nat} {XS : Nat → Int32} {n : Nat} {C : mC} {I : Nat → Nat → Int32} {L : Nat → Nat → Int64} {K : mK} {a : Int32} (hC : m_Ge XL XS (n + 1) C) (hK : K (some (.int (ccF a I))) (m_SH, I, L)) : C 14 [.ref 17, .int a] (m_SH, I, L) K := by
  refine e_X1_constantCount hC (Nat.le_of_ble_eq_true rfl) ?_
  intro C' hC' P hP
  repeat' (first | (refine hP _ ?_; conv => whnf) | (refine And.intro rfl ?_) | (refine And.intro (Or.inl rfl) ?_) | (refine And.intro (Or.inr rfl) ?_) | (refine And.intro (m_vin (by assumption) (by assumption) (by decide)) ?_) | (refine And.intro (by assumption) ?_) | (refine And.intro (fun _ => ?_) (fun _ => ?_)))
  all_goals (clear hP; first | (simpa [m_upr, m_uprL, ccF, *] using hK) | (clear hC hC'; simp_all [m_upr, m_uprL, ccF]; done))
def stepF (k a b : Int32) (I : Nat → Nat → Int32) : Nat → Nat → Int32 := if I 13 3 < 260 then m_up (m_up (m_up (m_up I 14 (I 13 3).toNatClampNeg (vp_nar .byte k.toInt8.toInt32)) 15 (I 13 3).toNatClampNeg a) 16 (I 13 3).toNatClampNeg b) 13 3 (I 13 3 + 1) else I
theorem c_step {XL : Nat} {XS : Nat → Int32} {n : Nat} {C : mC} {I : Nat → Nat → Int32} {L : Nat → Nat → Int64} {K : mK} {k a b : Int32} (hC : m_Ge XL XS (n + 1) C) (h0 : ¬ I 13 3 < 0) (hK : K none (m_SH, stepF k a b I, L)) : C 1 [.ref 13, .int k, .int a, .int b] (m_SH, I, L) K := by
  refine e_X0_step hC (Nat.le_of_ble_eq_true rfl) ?_
  intro C' hC' P hP
  repeat' (first | (refine hP _ ?_; conv => whnf) | (refine And.intro rfl ?_) | (refine And.intro (Or.inl rfl) ?_) | (refine And.intro (Or.inr rfl) ?_) | (refine And.intro (m_vin (by assumption) (by assumption) (by decide)) ?_) | (refine And.intro (by assumption) ?_) | (refine And.intro (fun _ => ?_) (fun _ => ?_)))
  all_goals (clear hP; first | (simpa [m_upr, m_uprL, stepF, *] using hK) | (clear hC hC'; simp_all [m_upr, m_uprL, stepF]; done))
def leadF (a : Int32) (I : Nat → Nat → Int32) : Nat → Nat → Int32 := if a < 0 then I else if a < I 13 3 then m_up I 15 a.toNatClampNeg (I 13 3) else I
theorem c_leadHere {XL : Nat} {XS : Nat → Int32} {n : Nat} {C : mC} {I : Nat → Nat → Int32} {L : Nat → Nat → Int64} {K : mK} {a : Int32} (hC : m_Ge XL XS (n + 1) C) (h0 : ¬ a < 0 → a < I 13 3 → vp_in a 260) (hK : K none (m_SH, leadF a I, L)) : C 2 [.ref 13, .int a] (m_SH, I, L) K := by
  refine e_X0_leadHere hC (Nat.le_of_ble_eq_true rfl) ?_
  intro C' hC' P hP
  repeat' (first | (refine hP _ ?_; conv => whnf) | (refine And.intro (h0 (by assumption) (by assumption)) ?_) | (refine And.intro (fun _ => ?_) (fun _ => ?_)))
  all_goals (clear hP; simpa [leadF, *] using hK)
theorem c_makeSet {XL : Nat} {XS : Nat → Int32} {n : Nat} {C : mC} {I : Nat → Nat → Int32} {L : Nat → Nat → Int64} {K : mK} {a : Int32} (hC : m_Ge XL XS (n + 1) C) (hK : K none (m_SH, if a < 0 then I else m_up I 18 2 (I 18 2 ||| (1 <<< (a &&& 31))), L)) : C 54 [.ref 18, .int a] (m_SH, I, L) K := by
  refine e_X4_makeSet hC (Nat.le_of_ble_eq_true rfl) ?_
  intro C' hC' P hP
  repeat' (first | (refine hP _ ?_; conv => whnf) | (refine And.intro rfl ?_) | (refine And.intro (Or.inl rfl) ?_) | (refine And.intro (Or.inr rfl) ?_) | (refine And.intro (m_vin (by assumption) (by assumption) (by decide)) ?_) | (refine And.intro (by assumption) ?_) | (refine And.intro (fun _ => ?_) (fun _ => ?_)))
  all_goals (clear hP; first | (simpa [m_upr, m_uprL, *] using hK) | (clear hC hC'; simp_all [m_upr, m_uprL]; done))
def isSetF (a : Int32) (I : Nat → Nat → Int32) : Int32 := if a < 0 then 0 else if (((I 18 2).toUInt32 >>> (a.toUInt32 &&& Int32.toUInt32 31)).toInt32 &&& 1) = 1 then 1 else 0
theorem c_isSet {XL : Nat} {XS : Nat → Int32} {n : Nat} {C : mC} {I : Nat → Nat → Int32} {L : Nat → Nat → Int64} {K : mK} {a : Int32} (hC : m_Ge XL XS (n + 1) C) (hK : K (some (.int (isSetF a I))) (m_SH, I, L)) : C 53 [.ref 18, .int a] (m_SH, I, L) K := by
  refine e_X4_isSet hC (Nat.le_of_ble_eq_true rfl) ?_
  intro C' hC' P hP
  repeat' (first | (refine hP _ ?_; conv => whnf) | (refine And.intro rfl ?_) | (refine And.intro (Or.inl rfl) ?_) | (refine And.intro (Or.inr rfl) ?_) | (refine And.intro (m_vin (by assumption) (by assumption) (by decide)) ?_) | (refine And.intro (by assumption) ?_) | (refine And.intro (fun _ => ?_) (fun _ => ?_)))
  all_goals (clear hP; first | (simpa [m_upr, m_uprL, isSetF, *] using hK) | (clear hC hC'; simp_all [m_upr, m_uprL, isSetF]; done))
theorem c_isReached {XL : Nat} {XS : Nat → Int32} {n : Nat} {C : mC} {I : Nat → Nat → Int32} {L : Nat → Nat → Int64} {K : mK} (hC : m_Ge XL XS (n + 1) C) (hK : K (some (.int (if I 18 2 = -1 then 0 else 1))) (m_SH, I, L)) : C 55 [.ref 18] (m_SH, I, L) K := by
  refine e_X4_isReached hC (Nat.le_of_ble_eq_true rfl) ?_
  intro C' hC' P hP
  repeat' (first | (refine hP _ ?_; conv => whnf) | (refine And.intro rfl ?_) | (refine And.intro (Or.inl rfl) ?_) | (refine And.intro (Or.inr rfl) ?_) | (refine And.intro (m_vin (by assumption) (by assumption) (by decide)) ?_) | (refine And.intro (by assumption) ?_) | (refine And.intro (fun _ => ?_) (fun _ => ?_)))
  all_goals (clear hP; first | (simpa [m_upr, m_uprL, *] using hK) | (clear hC hC'; simp_all [m_upr, m_uprL]; done))
def shrinkF (a : Int32) (I : Nat → Nat → Int32) : Nat → Nat → Int32 := if I 18 2 = -1 then m_up I 18 1 a else m_up (m_up I 18 1 a) 18 2 (I 18 2 &&& ((1 <<< (a &&& 31)) - 1))
theorem c_shrink {XL : Nat} {XS : Nat → Int32} {n : Nat} {C : mC} {I : Nat → Nat → Int32} {L : Nat → Nat → Int64} {K : mK} {a : Int32} (hC : m_Ge XL XS (n + 1) C) (hK : K none (m_SH, shrinkF a I, L)) : C 52 [.ref 18, .int a] (m_SH, I, L) K := by
  refine e_X4_shrink hC (Nat.le_of_ble_eq_true rfl) ?_
  intro C' hC' P hP
  repeat' (first | (refine hP _ ?_; conv => whnf) | (refine And.intro rfl ?_) | (refine And.intro (Or.inl rfl) ?_) | (refine And.intro (Or.inr rfl) ?_) | (refine And.intro (m_vin (by assumption) (by assumption) (by decide)) ?_) | (refine And.intro (by assumption) ?_) | (refine And.intro (fun _ => ?_) (fun _ => ?_)))
  all_goals (clear hP; first | (simpa [m_upr, m_uprL, shrinkF, *] using hK) | (clear hC hC'; simp_all [m_upr, m_uprL, shrinkF]; done))
theorem c_number {XL : Nat} {XS : Nat → Int32} {n : Nat} {C : mC} {I : Nat → Nat → Int32} {L : Nat → Nat → Int64} {K : mK} (hC : m_Ge XL XS (n + 2) C) (hK : K (some (.int (if kindF I = 17 then (tvF I L).toInt32 else 0))) (m_SH, if kindF I = 17 then m_up I 17 8 (I 17 8 + 1) else failF 2 (I 17 8) I, L)) : C 35 [.ref 17] (m_SH, I, L) K := by
  refine e_X1_number hC (Nat.le_of_ble_eq_true rfl) ?_
  intro C' hC' P hP
  repeat' (first | (refine hP _ ?_; conv => whnf) | (refine And.intro rfl ?_) | (refine And.intro (Or.inl rfl) ?_) | (refine And.intro (Or.inr rfl) ?_) | (refine And.intro (m_vin (by assumption) (by assumption) (by decide)) ?_) | (refine And.intro (by assumption) ?_) | (refine c_kind hC' ?_) | (refine c_fail hC' ?_) | (refine c_tokenValue hC' ?_) | (refine And.intro (fun _ => ?_) (fun _ => ?_)))
  all_goals (clear hP; first | (simpa [m_upr, m_uprL, *] using hK) | (clear hC hC'; simp_all [m_upr, m_uprL]; done))
theorem c_add {XL : Nat} {XS : Nat → Int32} {n : Nat} {C : mC} {I : Nat → Nat → Int32} {L : Nat → Nat → Int64} {K : mK} {a : Int64} (hC : m_Ge XL XS (n + 1) C) (h0 : ¬ I 18 1 < 0) (h1 : I 18 1 < 20) (hK : K (some (.int (I 18 1 + 1 - 1))) (m_SH, m_up I 18 1 (I 18 1 + 1), m_upL L 19 (I 18 1).toNatClampNeg a)) : C 51 [.ref 18, .long a] (m_SH, I, L) K := by
  refine e_X4_add hC (Nat.le_of_ble_eq_true rfl) ?_
  intro C' hC' P hP
  repeat' (first | (refine hP _ ?_; conv => whnf) | (refine And.intro rfl ?_) | (refine And.intro (Or.inl rfl) ?_) | (refine And.intro (Or.inr rfl) ?_) | (refine And.intro (m_vin (by assumption) (by assumption) (by decide)) ?_) | (refine And.intro (by assumption) ?_) | (refine And.intro (fun _ => ?_) (fun _ => ?_)))
  all_goals (clear hP; first | (simpa [m_upr, m_uprL, *] using hK) | (clear hC hC'; simp_all [m_upr, m_uprL]; done))
theorem c_leave {XL : Nat} {XS : Nat → Int32} {n : Nat} {C : mC} {I : Nat → Nat → Int32} {L : Nat → Nat → Int64} {K : mK} {a b : Int32} (hC : m_Ge XL XS (n + 2) C) (h0 : ¬ I 13 3 < 0) (hK : K none (m_SH, m_up (stepF 5 a b I) 18 2 (-1), L)) : C 34 [.ref 17, .int a, .int b] (m_SH, I, L) K := by
  refine e_X1_leave hC (Nat.le_of_ble_eq_true rfl) ?_
  intro C' hC' P hP
  repeat (refine hP _ ?_; conv => whnf)
  refine c_step hC' h0 ?_
  repeat' (first | (refine hP _ ?_; conv => whnf) | (refine And.intro rfl ?_) | (refine And.intro (Or.inl rfl) ?_) | (refine And.intro (Or.inr rfl) ?_) | (refine And.intro (m_vin (by assumption) (by assumption) (by decide)) ?_) | (refine And.intro (by assumption) ?_) | (refine And.intro (fun _ => ?_) (fun _ => ?_)))
  all_goals (clear hP; first | (simpa [m_upr, m_uprL, *] using hK) | (clear hC hC'; simp_all [m_upr, m_uprL]; done))
theorem c_setName {XL : Nat} {XS : Nat → Int32} {n : Nat} {C : mC} {I : Nat → Nat → Int32} {L : Nat → Nat → Int64} {K : mK} {a b : Int32} (hC : m_Ge XL XS (n + 2) C) (h0 : ¬ I 13 3 < 0) (hK : K none (m_SH, if a < 0 then stepF 2 a b I else m_up (stepF 2 a b I) 18 2 (stepF 2 a b I 18 2 ||| (1 <<< (a &&& 31))), L)) : C 30 [.ref 17, .int a, .int b] (m_SH, I, L) K := by
  refine e_X1_setName hC (Nat.le_of_ble_eq_true rfl) ?_
  intro C' hC' P hP
  repeat (refine hP _ ?_; conv => whnf)
  refine c_step hC' h0 ?_
  repeat' (first | (refine hP _ ?_; conv => whnf) | (refine And.intro rfl ?_) | (refine And.intro (Or.inl rfl) ?_) | (refine And.intro (Or.inr rfl) ?_) | (refine And.intro (m_vin (by assumption) (by assumption) (by decide)) ?_) | (refine And.intro (by assumption) ?_) | (refine c_makeSet hC' ?_) | (refine And.intro (fun _ => ?_) (fun _ => ?_)))
  all_goals (clear hP; first | (simpa [m_upr, m_uprL, *] using hK) | (clear hC hC'; simp_all [m_upr, m_uprL]; done))
/-! the answers that are read off the class's fields -/
theorem c_place {XL : Nat} {XS : Nat → Int32} {n : Nat} {C : mC} {I : Nat → Nat → Int32} {L : Nat → Nat → Int64} {K : mK} (hC : m_Ge XL XS (n + 1) C) (hK : K (some (.int (I 17 10))) (m_SH, I, L)) : C 88 [.ref 0] (m_SH, I, L) K := by
  refine e_X8_place hC (Nat.le_of_ble_eq_true rfl) ?_
  intro C' hC' P hP
  repeat' (first | (refine hP _ ?_; conv => whnf) | (refine And.intro rfl ?_) | (refine And.intro (Or.inl rfl) ?_) | (refine And.intro (Or.inr rfl) ?_) | (refine And.intro (m_vin (by assumption) (by assumption) (by decide)) ?_) | (refine And.intro (by assumption) ?_) | (refine And.intro (fun _ => ?_) (fun _ => ?_)))
  all_goals (clear hP; first | (simpa [m_upr, m_uprL, *] using hK) | (clear hC hC'; simp_all [m_upr, m_uprL]; done))
def toldF (a : Int32) (I : Nat → Nat → Int32) : Int32 := if a < 0 then -2 else if 7 < a then -2 else if I 8 0 = 0 then -3 else if a = 0 then (if I 8 1 = 0 then 0 else 1) else if a = 1 then I 8 2 else if a = 2 then I 8 4 else if a = 3 then I 8 5 else if a = 4 then I 8 6 else if a = 5 then I 8 7 else if a = 6 then (if I 8 8 = 0 then 0 else 1) else I 8 3
theorem c_told {XL : Nat} {XS : Nat → Int32} {n : Nat} {C : mC} {I : Nat → Nat → Int32} {L : Nat → Nat → Int64} {K : mK} {a : Int32} (hC : m_Ge XL XS (n + 1) C) (hK : K (some (.int (toldF a I))) (m_SH, I, L)) : C 89 [.ref 0, .int a] (m_SH, I, L) K := by
  refine e_X8_told hC (Nat.le_of_ble_eq_true rfl) ?_
  intro C' hC' P hP
  repeat' (first | (refine hP _ ?_; conv => whnf) | (refine And.intro rfl ?_) | (refine And.intro (Or.inl rfl) ?_) | (refine And.intro (Or.inr rfl) ?_) | (refine And.intro (m_vin (by assumption) (by assumption) (by decide)) ?_) | (refine And.intro (by assumption) ?_) | (refine And.intro (fun _ => ?_) (fun _ => ?_)))
  all_goals (clear hP; first | (simpa [m_upr, m_uprL, toldF, *] using hK) | (clear hC hC'; simp_all [m_upr, m_uprL, toldF]; done))
def labelF (i a : Int32) (I : Nat → Nat → Int32) : Int32 := if I 8 0 = 0 then -3 else if i < 0 then -1 else if i < I 8 5 then (if i < 32 then (if a < 0 then -2 else if 1 < a then -2 else if a = 0 then I 10 i.toNatClampNeg else I 11 i.toNatClampNeg) else -1) else -1
theorem c_label {XL : Nat} {XS : Nat → Int32} {n : Nat} {C : mC} {I : Nat → Nat → Int32} {L : Nat → Nat → Int64} {K : mK} {i a : Int32} (hC : m_Ge XL XS (n + 1) C) (hK : K (some (.int (labelF i a I))) (m_SH, I, L)) : C 90 [.ref 0, .int i, .int a] (m_SH, I, L) K := by
  refine e_X8_label hC (Nat.le_of_ble_eq_true rfl) ?_
  intro C' hC' P hP
  repeat' (first | (refine hP _ ?_; conv => whnf) | (refine And.intro rfl ?_) | (refine And.intro (Or.inl rfl) ?_) | (refine And.intro (Or.inr rfl) ?_) | (refine And.intro (m_vin (by assumption) (by assumption) (by decide)) ?_) | (refine And.intro (by assumption) ?_) | (refine And.intro (fun _ => ?_) (fun _ => ?_)))
  all_goals (clear hP; first | (simpa [m_upr, m_uprL, labelF, *] using hK) | (clear hC hC'; simp_all [m_upr, m_uprL, labelF]; done))
def rbF (I : Nat → Nat → Int32) : Nat → Nat → Int32 := m_up (m_up (m_up I 27 2 0) 27 3 0) 27 4 1
theorem c_rbegin {XL : Nat} {XS : Nat → Int32} {n : Nat} {C : mC} {I : Nat → Nat → Int32} {L : Nat → Nat → Int64} {K : mK} (hC : m_Ge XL XS (n + 1) C) (hK : K none (m_SH, rbF I, L)) : C 45 [.ref 27] (m_SH, I, L) K := by
  refine e_X3_begin hC (Nat.le_of_ble_eq_true rfl) ?_
  intro C' hC' P hP
  repeat' (first | (refine hP _ ?_; conv => whnf) | (refine And.intro rfl ?_) | (refine And.intro (Or.inl rfl) ?_) | (refine And.intro (Or.inr rfl) ?_) | (refine And.intro (m_vin (by assumption) (by assumption) (by decide)) ?_) | (refine And.intro (by assumption) ?_) | (refine And.intro (fun _ => ?_) (fun _ => ?_)))
  all_goals (clear hP; first | (simpa [m_upr, m_uprL, rbF, *] using hK) | (clear hC hC'; simp_all [m_upr, m_uprL, rbF]; done))
theorem c_forget {XL : Nat} {XS : Nat → Int32} {n : Nat} {C : mC} {I : Nat → Nat → Int32} {L : Nat → Nat → Int64} {K : mK} (hC : m_Ge XL XS (n + 2) C) (hK : K none (m_SH, m_up (rbF I) 27 4 0, L)) : C 44 [.ref 27] (m_SH, I, L) K := by
  refine e_X3_forget hC (Nat.le_of_ble_eq_true rfl) ?_
  intro C' hC' P hP
  repeat' (first | (refine hP _ ?_; conv => whnf) | (refine And.intro rfl ?_) | (refine And.intro (Or.inl rfl) ?_) | (refine And.intro (Or.inr rfl) ?_) | (refine And.intro (m_vin (by assumption) (by assumption) (by decide)) ?_) | (refine And.intro (by assumption) ?_) | (refine c_rbegin hC' ?_) | (refine And.intro (fun _ => ?_) (fun _ => ?_)))
  all_goals (clear hP; first | (simpa [m_upr, m_uprL, *] using hK) | (clear hC hC'; simp_all [m_upr, m_uprL]; done))
theorem c_runNone {XL : Nat} {XS : Nat → Int32} {n : Nat} {C : mC} {I : Nat → Nat → Int32} {L : Nat → Nat → Int64} {K : mK} (hC : m_Ge XL XS (n + 2) C) (hK : K (some (.int (if I 8 0 = 0 then -3 else 4))) (m_SH, if I 8 0 = 0 then I else rbF I, L)) : C 92 [.ref 0] (m_SH, I, L) K := by
  refine e_X8_runNone hC (Nat.le_of_ble_eq_true rfl) ?_
  intro C' hC' P hP
  repeat' (first | (refine hP _ ?_; conv => whnf) | (refine And.intro rfl ?_) | (refine And.intro (Or.inl rfl) ?_) | (refine And.intro (Or.inr rfl) ?_) | (refine And.intro (m_vin (by assumption) (by assumption) (by decide)) ?_) | (refine And.intro (by assumption) ?_) | (refine c_rbegin hC' ?_) | (refine And.intro (fun _ => ?_) (fun _ => ?_)))
  all_goals (clear hP; first | (simpa [m_upr, m_uprL, *] using hK) | (clear hC hC'; simp_all [m_upr, m_uprL]; done))
theorem c_traced {XL : Nat} {XS : Nat → Int32} {n : Nat} {C : mC} {I : Nat → Nat → Int32} {L : Nat → Nat → Int64} {K : mK} (hC : m_Ge XL XS (n + 1) C) (hK : K (some (.int (if I 27 4 = 0 then -3 else I 27 2))) (m_SH, I, L)) : C 93 [.ref 0] (m_SH, I, L) K := by
  refine e_X8_traced hC (Nat.le_of_ble_eq_true rfl) ?_
  intro C' hC' P hP
  repeat' (first | (refine hP _ ?_; conv => whnf) | (refine And.intro rfl ?_) | (refine And.intro (Or.inl rfl) ?_) | (refine And.intro (Or.inr rfl) ?_) | (refine And.intro (m_vin (by assumption) (by assumption) (by decide)) ?_) | (refine And.intro (by assumption) ?_) | (refine And.intro (fun _ => ?_) (fun _ => ?_)))
  all_goals (clear hP; first | (simpa [m_upr, m_uprL, *] using hK) | (clear hC hC'; simp_all [m_upr, m_uprL]; done))
def traceF (i : Int32) (I : Nat → Nat → Int32) : Int32 := if i < 0 then 0 else if i < I 27 2 then (if i < 120 then I 28 i.toNatClampNeg else 0) else 0
theorem c_trace {XL : Nat} {XS : Nat → Int32} {n : Nat} {C : mC} {I : Nat → Nat → Int32} {L : Nat → Nat → Int64} {K : mK} {i : Int32} (hC : m_Ge XL XS (n + 1) C) (hK : K (some (.int (traceF i I))) (m_SH, I, L)) : C 94 [.ref 0, .int i] (m_SH, I, L) K := by
  refine e_X8_trace hC (Nat.le_of_ble_eq_true rfl) ?_
  intro C' hC' P hP
  repeat' (first | (refine hP _ ?_; conv => whnf) | (refine And.intro rfl ?_) | (refine And.intro (Or.inl rfl) ?_) | (refine And.intro (Or.inr rfl) ?_) | (refine And.intro (m_vin (by assumption) (by assumption) (by decide)) ?_) | (refine And.intro (by assumption) ?_) | (refine And.intro (fun _ => ?_) (fun _ => ?_)))
  all_goals (clear hP; first | (simpa [m_upr, m_uprL, traceF, *] using hK) | (clear hC hC'; simp_all [m_upr, m_uprL, traceF]; done))
theorem c_value {XL : Nat} {XS : Nat → Int32} {n : Nat} {C : mC} {I : Nat → Nat → Int32} {L : Nat → Nat → Int64} {K : mK} (hC : m_Ge XL XS (n + 1) C) (hK : K (some (.int (I 27 3))) (m_SH, I, L)) : C 95 [.ref 0] (m_SH, I, L) K := by
  refine e_X8_value hC (Nat.le_of_ble_eq_true rfl) ?_
  intro C' hC' P hP
  repeat' (first | (refine hP _ ?_; conv => whnf) | (refine And.intro rfl ?_) | (refine And.intro (Or.inl rfl) ?_) | (refine And.intro (Or.inr rfl) ?_) | (refine And.intro (m_vin (by assumption) (by assumption) (by decide)) ?_) | (refine And.intro (by assumption) ?_) | (refine And.intro (fun _ => ?_) (fun _ => ?_)))
  all_goals (clear hP; first | (simpa [m_upr, m_uprL, *] using hK) | (clear hC hC'; simp_all [m_upr, m_uprL]; done))
def hasF (i : Int32) (I : Nat → Nat → Int32) : Int32 := if i < 0 then 0 else if i < I 23 3 then (if i < 32 then 1 else 0) else 0
theorem c_has {XL : Nat} {XS : Nat → Int32} {n : Nat} {C : mC} {I : Nat → Nat → Int32} {L : Nat → Nat → Int64} {K : mK} {i : Int32} (hC : m_Ge XL XS (n + 1) C) (hK : K (some (.int (hasF i I))) (m_SH, I, L)) : C 59 [.ref 23, .int i] (m_SH, I, L) K := by
  refine e_X5_has hC (Nat.le_of_ble_eq_true rfl) ?_
  intro C' hC' P hP
  repeat' (first | (refine hP _ ?_; conv => whnf) | (refine And.intro rfl ?_) | (refine And.intro (Or.inl rfl) ?_) | (refine And.intro (Or.inr rfl) ?_) | (refine And.intro (m_vin (by assumption) (by assumption) (by decide)) ?_) | (refine And.intro (by assumption) ?_) | (refine And.intro (fun _ => ?_) (fun _ => ?_)))
  all_goals (clear hP; first | (simpa [m_upr, m_uprL, hasF, *] using hK) | (clear hC hC'; simp_all [m_upr, m_uprL, hasF]; done))
theorem hasF_in {i : Int32} {I : Nat → Nat → Int32} (h : ¬ hasF i I = 0) : vp_in i 32 := by
  unfold hasF at h
  split at h
  · exact absurd rfl h
  · split at h
    · split at h
      · exact m_vin (by assumption) (by assumption) (by decide)
      · exact absurd rfl h
    · exact absurd rfl h
theorem c_keys {XL : Nat} {XS : Nat → Int32} {n : Nat} {C : mC} {I : Nat → Nat → Int32} {L : Nat → Nat → Int64} {K : mK} (hC : m_Ge XL XS (n + 1) C) (hK : K (some (.int (if I 8 0 = 0 then -3 else I 23 3))) (m_SH, I, L)) : C 97 [.ref 0] (m_SH, I, L) K := by
  refine e_X8_keys hC (Nat.le_of_ble_eq_true rfl) ?_
  intro C' hC' P hP
  repeat' (first | (refine hP _ ?_; conv => whnf) | (refine And.intro rfl ?_) | (refine And.intro (Or.inl rfl) ?_) | (refine And.intro (Or.inr rfl) ?_) | (refine And.intro (m_vin (by assumption) (by assumption) (by decide)) ?_) | (refine And.intro (by assumption) ?_) | (refine And.intro (fun _ => ?_) (fun _ => ?_)))
  all_goals (clear hP; first | (simpa [m_upr, m_uprL, *] using hK) | (clear hC hC'; simp_all [m_upr, m_uprL]; done))
theorem c_key {XL : Nat} {XS : Nat → Int32} {n : Nat} {C : mC} {I : Nat → Nat → Int32} {L : Nat → Nat → Int64} {K : mK} {i : Int32} (hC : m_Ge XL XS (n + 2) C) (hK : K (some (.int (if hasF i I = 0 then 0 else I 24 i.toNatClampNeg))) (m_SH, I, L)) : C 98 [.ref 0, .int i] (m_SH, I, L) K := by
  refine e_X8_key hC (Nat.le_of_ble_eq_true rfl) ?_
  intro C' hC' P hP
  repeat' (first | (refine hP _ ?_; conv => whnf) | (refine c_has hC' ?_) | (refine And.intro (hasF_in (by assumption)) ?_) | (refine And.intro (fun _ => ?_) (fun _ => ?_)))
  all_goals (clear hP; simpa [*] using hK)
theorem c_target {XL : Nat} {XS : Nat → Int32} {n : Nat} {C : mC} {I : Nat → Nat → Int32} {L : Nat → Nat → Int64} {K : mK} {i : Int32} (hC : m_Ge XL XS (n + 2) C) (hK : K (some (.int (if I 8 0 = 0 then -3 else if hasF i I = 0 then -1 else I 25 i.toNatClampNeg))) (m_SH, I, L)) : C 99 [.ref 0, .int i] (m_SH, I, L) K := by
  refine e_X8_target hC (Nat.le_of_ble_eq_true rfl) ?_
  intro C' hC' P hP
  repeat' (first | (refine hP _ ?_; conv => whnf) | (refine c_has hC' ?_) | (refine And.intro (hasF_in (by assumption)) ?_) | (refine And.intro (fun _ => ?_) (fun _ => ?_)))
  all_goals (clear hP; simpa [*] using hK)
theorem c_alike {XL : Nat} {XS : Nat → Int32} {n : Nat} {C : mC} {I : Nat → Nat → Int32} {L : Nat → Nat → Int64} {K : mK} {i : Int32} (hC : m_Ge XL XS (n + 2) C) (hK : K (some (.int (if I 8 0 = 0 then -3 else if hasF i I = 0 then -1 else I 26 i.toNatClampNeg))) (m_SH, I, L)) : C 100 [.ref 0, .int i] (m_SH, I, L) K := by
  refine e_X8_alike hC (Nat.le_of_ble_eq_true rfl) ?_
  intro C' hC' P hP
  repeat' (first | (refine hP _ ?_; conv => whnf) | (refine c_has hC' ?_) | (refine And.intro (hasF_in (by assumption)) ?_) | (refine And.intro (fun _ => ?_) (fun _ => ?_)))
  all_goals (clear hP; simpa [*] using hK)
end
section
/-! ===== the reference's leaves ===== -/
def mOct (I : Nat → Nat → Int32) (i : Int32) : Int32 := if i < I 30 2 then I 32 i.toNatClampNeg &&& 255 else -1
theorem r_octet {XL : Nat} {XS : Nat → Int32} {n : Nat} {C : mC} {I : Nat → Nat → Int32} {L : Nat → Nat → Int64} {K : mK} {i : Int32} (hC : m_Ge XL XS (n + 1) C) (h0 : i < I 30 2 → vp_in i 3000) (hK : K (some (.int (mOct I i))) (m_SH, I, L)) : C 104 [.ref 30, .int i] (m_SH, I, L) K := by
  refine e_X9_octet hC (Nat.le_of_ble_eq_true rfl) ?_
  intro C' hC' P hP
  repeat' (first | (refine hP _ ?_; conv => whnf) | (refine And.intro rfl ?_) | (refine And.intro (Or.inl rfl) ?_) | (refine And.intro (Or.inr rfl) ?_) | (refine And.intro (m_vin (by assumption) (by assumption) (by decide)) ?_) | (refine And.intro (by assumption) ?_) | (refine And.intro (h0 (by assumption)) ?_) | (refine And.intro (fun _ => ?_) (fun _ => ?_)))
  all_goals (clear hP; first | (simpa [m_upr, m_uprL, mOct, *] using hK) | (clear hC hC'; simp_all [m_upr, m_uprL, mOct]; done))
theorem r_isSmall {XL : Nat} {XS : Nat → Int32} {n : Nat} {C : mC} {I : Nat → Nat → Int32} {L : Nat → Nat → Int64} {K : mK} {x : Int32} (hC : m_Ge XL XS (n + 1) C) (hK : K (some (.int (isSm x))) (m_SH, I, L)) : C 105 [.int x] (m_SH, I, L) K := by
  refine e_X9_isSmall hC (Nat.le_of_ble_eq_true rfl) ?_
  intro C' hC' P hP
  repeat' (first | (refine hP _ ?_; conv => whnf) | (refine And.intro rfl ?_) | (refine And.intro (Or.inl rfl) ?_) | (refine And.intro (Or.inr rfl) ?_) | (refine And.intro (m_vin (by assumption) (by assumption) (by decide)) ?_) | (refine And.intro (by assumption) ?_) | (refine And.intro (fun _ => ?_) (fun _ => ?_)))
  all_goals (clear hP; first | (simpa [m_upr, m_uprL, isSm, *] using hK) | (clear hC hC'; simp_all [m_upr, m_uprL, isSm]; done))
theorem r_isFigure {XL : Nat} {XS : Nat → Int32} {n : Nat} {C : mC} {I : Nat → Nat → Int32} {L : Nat → Nat → Int64} {K : mK} {x : Int32} (hC : m_Ge XL XS (n + 1) C) (hK : K (some (.int (isFg x))) (m_SH, I, L)) : C 106 [.int x] (m_SH, I, L) K := by
  refine e_X9_isFigure hC (Nat.le_of_ble_eq_true rfl) ?_
  intro C' hC' P hP
  repeat' (first | (refine hP _ ?_; conv => whnf) | (refine And.intro rfl ?_) | (refine And.intro (Or.inl rfl) ?_) | (refine And.intro (Or.inr rfl) ?_) | (refine And.intro (m_vin (by assumption) (by assumption) (by decide)) ?_) | (refine And.intro (by assumption) ?_) | (refine And.intro (fun _ => ?_) (fun _ => ?_)))
  all_goals (clear hP; first | (simpa [m_upr, m_uprL, isFg, *] using hK) | (clear hC hC'; simp_all [m_upr, m_uprL, isFg]; done))
def wrF (k p : Int32) (I : Nat → Nat → Int32) : Nat → Nat → Int32 := if I 30 8 = 0 then m_up (m_up I 30 8 k) 30 9 p else I
theorem r_wrong {XL : Nat} {XS : Nat → Int32} {n : Nat} {C : mC} {I : Nat → Nat → Int32} {L : Nat → Nat → Int64} {K : mK} {k : Int32} (hC : m_Ge XL XS (n + 1) C) (hK : K none (m_SH, wrF k (I 30 5) I, L)) : C 111 [.ref 30, .int k] (m_SH, I, L) K := by
  refine e_X9_wrong hC (Nat.le_of_ble_eq_true rfl) ?_
  intro C' hC' P hP
  repeat' (first | (refine hP _ ?_; conv => whnf) | (refine And.intro rfl ?_) | (refine And.intro (Or.inl rfl) ?_) | (refine And.intro (Or.inr rfl) ?_) | (refine And.intro (m_vin (by assumption) (by assumption) (by decide)) ?_) | (refine And.intro (by assumption) ?_) | (refine And.intro (fun _ => ?_) (fun _ => ?_)))
  all_goals (clear hP; first | (simpa [m_upr, m_uprL, wrF, *] using hK) | (clear hC hC'; simp_all [m_upr, m_uprL, wrF]; done))
theorem r_wrongAt {XL : Nat} {XS : Nat → Int32} {n : Nat} {C : mC} {I : Nat → Nat → Int32} {L : Nat → Nat → Int64} {K : mK} {k p : Int32} (hC : m_Ge XL XS (n + 1) C) (hK : K none (m_SH, wrF k p I, L)) : C 112 [.ref 30, .int k, .int p] (m_SH, I, L) K := by
  refine e_X9_wrongAt hC (Nat.le_of_ble_eq_true rfl) ?_
  intro C' hC' P hP
  repeat' (first | (refine hP _ ?_; conv => whnf) | (refine And.intro rfl ?_) | (refine And.intro (Or.inl rfl) ?_) | (refine And.intro (Or.inr rfl) ?_) | (refine And.intro (m_vin (by assumption) (by assumption) (by decide)) ?_) | (refine And.intro (by assumption) ?_) | (refine And.intro (fun _ => ?_) (fun _ => ?_)))
  all_goals (clear hP; first | (simpa [m_upr, m_uprL, wrF, *] using hK) | (clear hC hC'; simp_all [m_upr, m_uprL, wrF]; done))
def canF (I : Nat → Nat → Int32) : Nat → Nat → Int32 := wrF (if I 30 4 = 6 then 1 else 2) (I 30 5) I
theorem r_cannot {XL : Nat} {XS : Nat → Int32} {n : Nat} {C : mC} {I : Nat → Nat → Int32} {L : Nat → Nat → Int64} {K : mK} (hC : m_Ge XL XS (n + 2) C) (hK : K none (m_SH, canF I, L)) : C 113 [.ref 30] (m_SH, I, L) K := by
  refine e_X9_cannot hC (Nat.le_of_ble_eq_true rfl) ?_
  intro C' hC' P hP
  repeat' (first | (refine hP _ ?_; conv => whnf) | (refine And.intro rfl ?_) | (refine And.intro (Or.inl rfl) ?_) | (refine And.intro (Or.inr rfl) ?_) | (refine And.intro (m_vin (by assumption) (by assumption) (by decide)) ?_) | (refine And.intro (by assumption) ?_) | (refine r_wrong hC' ?_) | (refine And.intro (fun _ => ?_) (fun _ => ?_)))
  all_goals (clear hP; first | (simpa [m_upr, m_uprL, canF, *] using hK) | (clear hC hC'; simp_all [m_upr, m_uprL, canF]; done))
def isSgF (a : Int32) (I : Nat → Nat → Int32) : Int32 := if I 30 4 = 4 then (if I 30 7 = a then 1 else 0) else 0
theorem r_isSign {XL : Nat} {XS : Nat → Int32} {n : Nat} {C : mC} {I : Nat → Nat → Int32} {L : Nat → Nat → Int64} {K : mK} {a : Int32} (hC : m_Ge XL XS (n + 1) C) (hK : K (some (.int (isSgF a I))) (m_SH, I, L)) : C 114 [.ref 30, .int a] (m_SH, I, L) K := by
  refine e_X9_isSign hC (Nat.le_of_ble_eq_true rfl) ?_
  intro C' hC' P hP
  repeat' (first | (refine hP _ ?_; conv => whnf) | (refine And.intro rfl ?_) | (refine And.intro (Or.inl rfl) ?_) | (refine And.intro (Or.inr rfl) ?_) | (refine And.intro (m_vin (by assumption) (by assumption) (by decide)) ?_) | (refine And.intro (by assumption) ?_) | (refine And.intro (fun _ => ?_) (fun _ => ?_)))
  all_goals (clear hP; first | (simpa [m_upr, m_uprL, isSgF, *] using hK) | (clear hC hC'; simp_all [m_upr, m_uprL, isSgF]; done))
def isWdF (a : Int32) (I : Nat → Nat → Int32) : Int32 := if I 30 4 = 5 then (if I 30 7 = a then 1 else 0) else 0
theorem r_isWord {XL : Nat} {XS : Nat → Int32} {n : Nat} {C : mC} {I : Nat → Nat → Int32} {L : Nat → Nat → Int64} {K : mK} {a : Int32} (hC : m_Ge XL XS (n + 1) C) (hK : K (some (.int (isWdF a I))) (m_SH, I, L)) : C 115 [.ref 30, .int a] (m_SH, I, L) K := by
  refine e_X9_isWord hC (Nat.le_of_ble_eq_true rfl) ?_
  intro C' hC' P hP
  repeat' (first | (refine hP _ ?_; conv => whnf) | (refine And.intro rfl ?_) | (refine And.intro (Or.inl rfl) ?_) | (refine And.intro (Or.inr rfl) ?_) | (refine And.intro (m_vin (by assumption) (by assumption) (by decide)) ?_) | (refine And.intro (by assumption) ?_) | (refine And.intro (fun _ => ?_) (fun _ => ?_)))
  all_goals (clear hP; first | (simpa [m_upr, m_uprL, isWdF, *] using hK) | (clear hC hC'; simp_all [m_upr, m_uprL, isWdF]; done))
theorem r_dead {XL : Nat} {XS : Nat → Int32} {n : Nat} {C : mC} {I : Nat → Nat → Int32} {L : Nat → Nat → Int64} {K : mK} (hC : m_Ge XL XS (n + 1) C) (hK : K none (m_SH, m_up I 30 36 (-1), L)) : C 132 [.ref 30] (m_SH, I, L) K := by
  refine e_X9_dead hC (Nat.le_of_ble_eq_true rfl) ?_
  intro C' hC' P hP
  repeat' (first | (refine hP _ ?_; conv => whnf) | (refine And.intro rfl ?_) | (refine And.intro (Or.inl rfl) ?_) | (refine And.intro (Or.inr rfl) ?_) | (refine And.intro (m_vin (by assumption) (by assumption) (by decide)) ?_) | (refine And.intro (by assumption) ?_) | (refine And.intro (fun _ => ?_) (fun _ => ?_)))
  all_goals (clear hP; first | (simpa [m_upr, m_uprL, *] using hK) | (clear hC hC'; simp_all [m_upr, m_uprL]; done))
def isSiF (I : Nat → Nat → Int32) : Int32 := if I 30 4 = 1 then 1 else if I 30 4 = 5 then (if I 30 7 = 7 then 1 else if I 30 7 = 9 then 1 else if I 30 7 = 10 then 1 else if I 30 7 = 12 then 1 else 0) else 0
theorem r_isSimple {XL : Nat} {XS : Nat → Int32} {n : Nat} {C : mC} {I : Nat → Nat → Int32} {L : Nat → Nat → Int64} {K : mK} (hC : m_Ge XL XS (n + 1) C) (hK : K (some (.int (isSiF I))) (m_SH, I, L)) : C 137 [.ref 30] (m_SH, I, L) K := by
  refine e_X9_isSimple hC (Nat.le_of_ble_eq_true rfl) ?_
  intro C' hC' P hP
  repeat' (first | (refine hP _ ?_; conv => whnf) | (refine And.intro rfl ?_) | (refine And.intro (Or.inl rfl) ?_) | (refine And.intro (Or.inr rfl) ?_) | (refine And.intro (m_vin (by assumption) (by assumption) (by decide)) ?_) | (refine And.intro (by assumption) ?_) | (refine And.intro (fun _ => ?_) (fun _ => ?_)))
  all_goals (clear hP; first | (simpa [m_upr, m_uprL, isSiF, *] using hK) | (clear hC hC'; simp_all [m_upr, m_uprL, isSiF]; done))
def isLiF (I : Nat → Nat → Int32) : Int32 := if I 45 (I 30 44 - 1).toNatClampNeg = 0 then 1 else if I 45 (I 30 44 - 1).toNatClampNeg = 1 then 1 else 0
theorem r_isList {XL : Nat} {XS : Nat → Int32} {n : Nat} {C : mC} {I : Nat → Nat → Int32} {L : Nat → Nat → Int64} {K : mK} (hC : m_Ge XL XS (n + 1) C) (h0 : vp_in (I 30 44 - 1) 200) (hK : K (some (.int (isLiF I))) (m_SH, I, L)) : C 130 [.ref 30] (m_SH, I, L) K := by
  refine e_X9_isList hC (Nat.le_of_ble_eq_true rfl) ?_
  intro C' hC' P hP
  repeat' (first | (refine hP _ ?_; conv => whnf) | (refine And.intro rfl ?_) | (refine And.intro (Or.inl rfl) ?_) | (refine And.intro (Or.inr rfl) ?_) | (refine And.intro (m_vin (by assumption) (by assumption) (by decide)) ?_) | (refine And.intro (by assumption) ?_) | (refine And.intro (fun _ => ?_) (fun _ => ?_)))
  all_goals (clear hP; first | (simpa [m_upr, m_uprL, isLiF, *] using hK) | (clear hC hC'; simp_all [m_upr, m_uprL, isLiF]; done))
def emF (k a b : Int32) (I : Nat → Nat → Int32) : Nat → Nat → Int32 := m_up (m_up (m_up (m_up I 41 (I 30 33).toNatClampNeg k) 42 (I 30 33).toNatClampNeg a) 43 (I 30 33).toNatClampNeg b) 30 33 (I 30 33 + 1)
theorem r_emit {XL : Nat} {XS : Nat → Int32} {n : Nat} {C : mC} {I : Nat → Nat → Int32} {L : Nat → Nat → Int64} {K : mK} {k a b : Int32} (hC : m_Ge XL XS (n + 1) C) (h0 : vp_in (I 30 33) 700) (hK : K (some (.int (I 30 33 + 1 - 1))) (m_SH, emF k a b I, L)) : C 125 [.ref 30, .int k, .int a, .int b] (m_SH, I, L) K := by
  refine e_X9_emit hC (Nat.le_of_ble_eq_true rfl) ?_
  intro C' hC' P hP
  repeat' (first | (refine hP _ ?_; conv => whnf) | (refine And.intro rfl ?_) | (refine And.intro (Or.inl rfl) ?_) | (refine And.intro (Or.inr rfl) ?_) | (refine And.intro (m_vin (by assumption) (by assumption) (by decide)) ?_) | (refine And.intro (by assumption) ?_) | (refine And.intro (fun _ => ?_) (fun _ => ?_)))
  all_goals (clear hP; first | (simpa [m_upr, m_uprL, emF, *] using hK) | (clear hC hC'; simp_all [m_upr, m_uprL, emF]; done))
theorem r_emitEnd {XL : Nat} {XS : Nat → Int32} {n : Nat} {C : mC} {I : Nat → Nat → Int32} {L : Nat → Nat → Int64} {K : mK} (hC : m_Ge XL XS (n + 2) C) (h0 : vp_in (I 30 33) 700) (hK : K none (m_SH, emF 3 0 0 I, L)) : C 145 [.ref 30] (m_SH, I, L) K := by
  refine e_X9_emitEnd hC (Nat.le_of_ble_eq_true rfl) ?_
  intro C' hC' P hP
  repeat (refine hP _ ?_; conv => whnf)
  refine r_emit hC' h0 ?_
  repeat' (first | (refine hP _ ?_; conv => whnf) | (refine And.intro rfl ?_) | (refine And.intro (Or.inl rfl) ?_) | (refine And.intro (Or.inr rfl) ?_) | (refine And.intro (m_vin (by assumption) (by assumption) (by decide)) ?_) | (refine And.intro (by assumption) ?_) | (refine And.intro (fun _ => ?_) (fun _ => ?_)))
  all_goals (clear hP; first | (simpa [m_upr, m_uprL, *] using hK) | (clear hC hC'; simp_all [m_upr, m_uprL]; done))
def pushF (k : Int32) (I : Nat → Nat → Int32) : Nat → Nat → Int32 := m_up (m_up (m_up (m_up (m_up I 45 (I 30 44).toNatClampNeg k) 46 (I 30 44).toNatClampNeg 1) 47 (I 30 44).toNatClampNeg (I 30 35)) 30 44 (I 30 44 + 1)) 30 45 (I 30 45 + (if k = 1 then 1 else if k = 2 then 1 else 0))
theorem r_push {XL : Nat} {XS : Nat → Int32} {n : Nat} {C : mC} {I : Nat → Nat → Int32} {L : Nat → Nat → Int64} {K : mK} {k : Int32} (hC : m_Ge XL XS (n + 1) C) (h0 : vp_in (I 30 44) 200) (hK : K none (m_SH, pushF k I, L)) : C 127 [.ref 30, .int k] (m_SH, I, L) K := by
  refine e_X9_push hC (Nat.le_of_ble_eq_true rfl) ?_
  intro C' hC' P hP
  repeat' (first | (refine hP _ ?_; conv => whnf) | (refine And.intro rfl ?_) | (refine And.intro (Or.inl rfl) ?_) | (refine And.intro (Or.inr rfl) ?_) | (refine And.intro (m_vin (by assumption) (by assumption) (by decide)) ?_) | (refine And.intro (by assumption) ?_) | (refine And.intro (fun _ => ?_) (fun _ => ?_)))
  all_goals (clear hP; first | (simpa [m_upr, m_uprL, pushF, show vp_nar .boolean 1 = 1 from rfl, *] using hK) | (clear hC hC'; simp_all [m_upr, m_uprL, pushF, show vp_nar .boolean 1 = 1 from rfl]; done))
def popF (I : Nat → Nat → Int32) : Nat → Nat → Int32 := m_up (m_up I 30 44 (I 30 44 - 1)) 30 45 (I 30 45 - (if I 45 (I 30 44 - 1).toNatClampNeg = 1 then 1 else if I 45 (I 30 44 - 1).toNatClampNeg = 2 then 1 else if I 45 (I 30 44 - 1).toNatClampNeg = 3 then 1 else 0))
theorem r_pop {XL : Nat} {XS : Nat → Int32} {n : Nat} {C : mC} {I : Nat → Nat → Int32} {L : Nat → Nat → Int64} {K : mK} (hC : m_Ge XL XS (n + 1) C) (h0 : vp_in (I 30 44 - 1) 200) (hK : K none (m_SH, popF I, L)) : C 128 [.ref 30] (m_SH, I, L) K := by
  refine e_X9_pop hC (Nat.le_of_ble_eq_true rfl) ?_
  intro C' hC' P hP
  repeat' (first | (refine hP _ ?_; conv => whnf) | (refine And.intro rfl ?_) | (refine And.intro (Or.inl rfl) ?_) | (refine And.intro (Or.inr rfl) ?_) | (refine And.intro (m_vin (by assumption) (by assumption) (by decide)) ?_) | (refine And.intro (by assumption) ?_) | (refine And.intro (fun _ => ?_) (fun _ => ?_)))
  all_goals (clear hP; first | (simpa [m_upr, m_uprL, popF, *] using hK) | (clear hC hC'; simp_all [m_upr, m_uprL, popF]; done))
/-! the answers that are read off the reference's fields -/
theorem r_place {XL : Nat} {XS : Nat → Int32} {n : Nat} {C : mC} {I : Nat → Nat → Int32} {L : Nat → Nat → Int64} {K : mK} (hC : m_Ge XL XS (n + 1) C) (hK : K (some (.int (I 30 10))) (m_SH, I, L)) : C 146 [.ref 30] (m_SH, I, L) K := by
  refine e_X9_place hC (Nat.le_of_ble_eq_true rfl) ?_
  intro C' hC' P hP
  repeat' (first | (refine hP _ ?_; conv => whnf) | (refine And.intro rfl ?_) | (refine And.intro (Or.inl rfl) ?_) | (refine And.intro (Or.inr rfl) ?_) | (refine And.intro (m_vin (by assumption) (by assumption) (by decide)) ?_) | (refine And.intro (by assumption) ?_) | (refine And.intro (fun _ => ?_) (fun _ => ?_)))
  all_goals (clear hP; first | (simpa [m_upr, m_uprL, *] using hK) | (clear hC hC'; simp_all [m_upr, m_uprL]; done))
def mtoldF (a : Int32) (I : Nat → Nat → Int32) : Int32 := if a < 0 then -2 else if 7 < a then -2 else if I 30 11 = 0 then -3 else if a = 0 then (if I 30 16 = 0 then 0 else 1) else if a = 1 then I 30 17 else if a = 2 then I 30 19 else if a = 3 then I 30 21 else if a = 4 then I 30 26 else if a = 5 then I 30 27 else if a = 6 then (if I 30 28 = 0 then 0 else 1) else (if I 30 17 = 2 then I 34 (I 30 18).toNatClampNeg else 0)
theorem r_told {XL : Nat} {XS : Nat → Int32} {n : Nat} {C : mC} {I : Nat → Nat → Int32} {L : Nat → Nat → Int64} {K : mK} {a : Int32} (hC : m_Ge XL XS (n + 1) C) (h0 : ¬ I 30 11 = 0 → I 30 17 = 2 → vp_in (I 30 18) 4) (hK : K (some (.int (mtoldF a I))) (m_SH, I, L)) : C 147 [.ref 30, .int a] (m_SH, I, L) K := by
  refine e_X9_told hC (Nat.le_of_ble_eq_true rfl) ?_
  intro C' hC' P hP
  repeat' (first | (refine hP _ ?_; conv => whnf) | (refine And.intro rfl ?_) | (refine And.intro (Or.inl rfl) ?_) | (refine And.intro (Or.inr rfl) ?_) | (refine And.intro (m_vin (by assumption) (by assumption) (by decide)) ?_) | (refine And.intro (by assumption) ?_) | (refine And.intro (h0 (by assumption) (by assumption)) ?_) | (refine And.intro (fun _ => ?_) (fun _ => ?_)))
  all_goals (clear hP; first | (simpa [m_upr, m_uprL, mtoldF, *] using hK) | (clear hC hC'; simp_all [m_upr, m_uprL, mtoldF]; done))
def mlabelF (i a : Int32) (I : Nat → Nat → Int32) : Int32 := if I 30 11 = 0 then -3 else if i < 0 then -1 else if i < I 30 21 then (if a = 0 then I 37 i.toNatClampNeg else if a = 1 then I 38 i.toNatClampNeg else -2) else -1
theorem r_label {XL : Nat} {XS : Nat → Int32} {n : Nat} {C : mC} {I : Nat → Nat → Int32} {L : Nat → Nat → Int64} {K : mK} {i a : Int32} (hC : m_Ge XL XS (n + 1) C) (h0 : ¬ i < 0 → i < I 30 21 → vp_in i 32) (hK : K (some (.int (mlabelF i a I))) (m_SH, I, L)) : C 148 [.ref 30, .int i, .int a] (m_SH, I, L) K := by
  refine e_X9_label hC (Nat.le_of_ble_eq_true rfl) ?_
  intro C' hC' P hP
  repeat' (first | (refine hP _ ?_; conv => whnf) | (refine And.intro rfl ?_) | (refine And.intro (Or.inl rfl) ?_) | (refine And.intro (Or.inr rfl) ?_) | (refine And.intro (m_vin (by assumption) (by assumption) (by decide)) ?_) | (refine And.intro (by assumption) ?_) | (refine And.intro (h0 (by assumption) (by assumption)) ?_) | (refine And.intro (fun _ => ?_) (fun _ => ?_)))
  all_goals (clear hP; first | (simpa [m_upr, m_uprL, mlabelF, *] using hK) | (clear hC hC'; simp_all [m_upr, m_uprL, mlabelF]; done))
def mrbF (I : Nat → Nat → Int32) : Nat → Nat → Int32 := m_up (m_up (m_up I 30 47 1) 30 49 0) 30 48 0
theorem r_runNone {XL : Nat} {XS : Nat → Int32} {n : Nat} {C : mC} {I : Nat → Nat → Int32} {L : Nat → Nat → Int64} {K : mK} (hC : m_Ge XL XS (n + 1) C) (hK : K (some (.int (if I 30 11 = 0 then -3 else 4))) (m_SH, if I 30 11 = 0 then I else mrbF I, L)) : C 152 [.ref 30] (m_SH, I, L) K := by
  refine e_X9_runNone hC (Nat.le_of_ble_eq_true rfl) ?_
  intro C' hC' P hP
  repeat' (first | (refine hP _ ?_; conv => whnf) | (refine And.intro rfl ?_) | (refine And.intro (Or.inl rfl) ?_) | (refine And.intro (Or.inr rfl) ?_) | (refine And.intro (m_vin (by assumption) (by assumption) (by decide)) ?_) | (refine And.intro (by assumption) ?_) | (refine And.intro (fun _ => ?_) (fun _ => ?_)))
  all_goals (clear hP; first | (simpa [m_upr, m_uprL, mrbF, *] using hK) | (clear hC hC'; simp_all [m_upr, m_uprL, mrbF]; done))
theorem r_traced {XL : Nat} {XS : Nat → Int32} {n : Nat} {C : mC} {I : Nat → Nat → Int32} {L : Nat → Nat → Int64} {K : mK} (hC : m_Ge XL XS (n + 1) C) (hK : K (some (.int (if I 30 47 = 0 then -3 else I 30 49))) (m_SH, I, L)) : C 153 [.ref 30] (m_SH, I, L) K := by
  refine e_X9_traced hC (Nat.le_of_ble_eq_true rfl) ?_
  intro C' hC' P hP
  repeat' (first | (refine hP _ ?_; conv => whnf) | (refine And.intro rfl ?_) | (refine And.intro (Or.inl rfl) ?_) | (refine And.intro (Or.inr rfl) ?_) | (refine And.intro (m_vin (by assumption) (by assumption) (by decide)) ?_) | (refine And.intro (by assumption) ?_) | (refine And.intro (fun _ => ?_) (fun _ => ?_)))
  all_goals (clear hP; first | (simpa [m_upr, m_uprL, *] using hK) | (clear hC hC'; simp_all [m_upr, m_uprL]; done))
def mtraceF (i : Int32) (I : Nat → Nat → Int32) : Int32 := if I 30 47 = 0 then 0 else if i < 0 then 0 else if i < I 30 49 then I 52 i.toNatClampNeg else 0
theorem r_trace {XL : Nat} {XS : Nat → Int32} {n : Nat} {C : mC} {I : Nat → Nat → Int32} {L : Nat → Nat → Int64} {K : mK} {i : Int32} (hC : m_Ge XL XS (n + 1) C) (h0 : ¬ i < 0 → i < I 30 49 → vp_in i 700) (hK : K (some (.int (mtraceF i I))) (m_SH, I, L)) : C 154 [.ref 30, .int i] (m_SH, I, L) K := by
  refine e_X9_trace hC (Nat.le_of_ble_eq_true rfl) ?_
  intro C' hC' P hP
  repeat' (first | (refine hP _ ?_; conv => whnf) | (refine And.intro rfl ?_) | (refine And.intro (Or.inl rfl) ?_) | (refine And.intro (Or.inr rfl) ?_) | (refine And.intro (m_vin (by assumption) (by assumption) (by decide)) ?_) | (refine And.intro (by assumption) ?_) | (refine And.intro (h0 (by assumption) (by assumption)) ?_) | (refine And.intro (fun _ => ?_) (fun _ => ?_)))
  all_goals (clear hP; first | (simpa [m_upr, m_uprL, mtraceF, *] using hK) | (clear hC hC'; simp_all [m_upr, m_uprL, mtraceF]; done))
theorem r_value {XL : Nat} {XS : Nat → Int32} {n : Nat} {C : mC} {I : Nat → Nat → Int32} {L : Nat → Nat → Int64} {K : mK} (hC : m_Ge XL XS (n + 1) C) (hK : K (some (.int (I 30 48))) (m_SH, I, L)) : C 155 [.ref 30] (m_SH, I, L) K := by
  refine e_X9_value hC (Nat.le_of_ble_eq_true rfl) ?_
  intro C' hC' P hP
  repeat' (first | (refine hP _ ?_; conv => whnf) | (refine And.intro rfl ?_) | (refine And.intro (Or.inl rfl) ?_) | (refine And.intro (Or.inr rfl) ?_) | (refine And.intro (m_vin (by assumption) (by assumption) (by decide)) ?_) | (refine And.intro (by assumption) ?_) | (refine And.intro (fun _ => ?_) (fun _ => ?_)))
  all_goals (clear hP; first | (simpa [m_upr, m_uprL, *] using hK) | (clear hC hC'; simp_all [m_upr, m_uprL]; done))
theorem r_keys {XL : Nat} {XS : Nat → Int32} {n : Nat} {C : mC} {I : Nat → Nat → Int32} {L : Nat → Nat → Int64} {K : mK} (hC : m_Ge XL XS (n + 1) C) (hK : K (some (.int (if I 30 11 = 0 then -3 else I 30 52))) (m_SH, I, L)) : C 158 [.ref 30] (m_SH, I, L) K := by
  refine e_X9_keys hC (Nat.le_of_ble_eq_true rfl) ?_
  intro C' hC' P hP
  repeat' (first | (refine hP _ ?_; conv => whnf) | (refine And.intro rfl ?_) | (refine And.intro (Or.inl rfl) ?_) | (refine And.intro (Or.inr rfl) ?_) | (refine And.intro (m_vin (by assumption) (by assumption) (by decide)) ?_) | (refine And.intro (by assumption) ?_) | (refine And.intro (fun _ => ?_) (fun _ => ?_)))
  all_goals (clear hP; first | (simpa [m_upr, m_uprL, *] using hK) | (clear hC hC'; simp_all [m_upr, m_uprL]; done))
theorem r_key {XL : Nat} {XS : Nat → Int32} {n : Nat} {C : mC} {I : Nat → Nat → Int32} {L : Nat → Nat → Int64} {K : mK} {i : Int32} (hC : m_Ge XL XS (n + 1) C) (h0 : ¬ i < 0 → i < I 30 52 → vp_in i 32) (hK : K (some (.int (if I 30 11 = 0 then 0 else if i < 0 then 0 else if i < I 30 52 then I 54 i.toNatClampNeg else 0))) (m_SH, I, L)) : C 159 [.ref 30, .int i] (m_SH, I, L) K := by
  refine e_X9_key hC (Nat.le_of_ble_eq_true rfl) ?_
  intro C' hC' P hP
  repeat' (first | (refine hP _ ?_; conv => whnf) | (refine And.intro rfl ?_) | (refine And.intro (Or.inl rfl) ?_) | (refine And.intro (Or.inr rfl) ?_) | (refine And.intro (m_vin (by assumption) (by assumption) (by decide)) ?_) | (refine And.intro (by assumption) ?_) | (refine And.intro (h0 (by assumption) (by assumption)) ?_) | (refine And.intro (fun _ => ?_) (fun _ => ?_)))
  all_goals (clear hP; first | (simpa [m_upr, m_uprL, *] using hK) | (clear hC hC'; simp_all [m_upr, m_uprL]; done))
theorem r_target {XL : Nat} {XS : Nat → Int32} {n : Nat} {C : mC} {I : Nat → Nat → Int32} {L : Nat → Nat → Int64} {K : mK} {i : Int32} (hC : m_Ge XL XS (n + 1) C) (h0 : ¬ i < 0 → i < I 30 52 → vp_in i 32) (hK : K (some (.int (if I 30 11 = 0 then -3 else if i < 0 then -1 else if i < I 30 52 then I 55 i.toNatClampNeg else -1))) (m_SH, I, L)) : C 160 [.ref 30, .int i] (m_SH, I, L) K := by
  refine e_X9_target hC (Nat.le_of_ble_eq_true rfl) ?_
  intro C' hC' P hP
  repeat' (first | (refine hP _ ?_; conv => whnf) | (refine And.intro rfl ?_) | (refine And.intro (Or.inl rfl) ?_) | (refine And.intro (Or.inr rfl) ?_) | (refine And.intro (m_vin (by assumption) (by assumption) (by decide)) ?_) | (refine And.intro (by assumption) ?_) | (refine And.intro (h0 (by assumption) (by assumption)) ?_) | (refine And.intro (fun _ => ?_) (fun _ => ?_)))
  all_goals (clear hP; first | (simpa [m_upr, m_uprL, *] using hK) | (clear hC hC'; simp_all [m_upr, m_uprL]; done))
theorem r_alike {XL : Nat} {XS : Nat → Int32} {n : Nat} {C : mC} {I : Nat → Nat → Int32} {L : Nat → Nat → Int64} {K : mK} {i : Int32} (hC : m_Ge XL XS (n + 1) C) (h0 : ¬ i < 0 → i < I 30 52 → vp_in i 32) (hK : K (some (.int (if I 30 11 = 0 then -3 else if i < 0 then -1 else if i < I 30 52 then I 56 i.toNatClampNeg else -1))) (m_SH, I, L)) : C 161 [.ref 30, .int i] (m_SH, I, L) K := by
  refine e_X9_alike hC (Nat.le_of_ble_eq_true rfl) ?_
  intro C' hC' P hP
  repeat' (first | (refine hP _ ?_; conv => whnf) | (refine And.intro rfl ?_) | (refine And.intro (Or.inl rfl) ?_) | (refine And.intro (Or.inr rfl) ?_) | (refine And.intro (m_vin (by assumption) (by assumption) (by decide)) ?_) | (refine And.intro (by assumption) ?_) | (refine And.intro (h0 (by assumption) (by assumption)) ?_) | (refine And.intro (fun _ => ?_) (fun _ => ?_)))
  all_goals (clear hP; first | (simpa [m_upr, m_uprL, *] using hK) | (clear hC hC'; simp_all [m_upr, m_uprL]; done))
end
section
/-! ===== loops that seek ===== -/
/-- the first place from i on, within m, at which p holds; -1 -/
def srch (p : Nat → Bool) : Nat → Nat → Int32
  | 0, _ => -1
  | m + 1, i => if p i = true then nI i else srch p m (i + 1)
theorem c_find {XL : Nat} {XS : Nat → Int32} {n : Nat} {C : mC} {I : Nat → Nat → Int32} {L : Nat → Nat → Int64} {K : mK} {a : Int64} {c : Nat} (hC : m_Ge XL XS (n + 1) C) (hc : I 18 1 = nI c) (h20 : c ≤ 20) (hK : K (some (.int (srch (fun j => L 19 j == a) c 0))) (m_SH, I, L)) : C 50 [.ref 18, .long a] (m_SH, I, L) K := by
  refine e_X4_find hC (Nat.le_of_ble_eq_true rfl) ?_
  intro C' hC' P hP
  have loop : ∀ (m i : Nat), i + m = c → K (some (.int (srch (fun j => L 19 j == a) m i))) (m_SH, I, L) → P (2, [some (.ref 18), some (.long a), none, some (.int (nI i))], [], (m_SH, I, L), 0, 0) := by
    intro m
    induction m with
    | zero =>
      intro i hi hk
      repeat (refine hP _ ?_; conv => whnf)
      refine ⟨fun h => ?_, fun h => ?_⟩
      · exact absurd h (by rw [hc]; exact nI_nlt (by omega) (by omega))
      · repeat (refine hP _ ?_; conv => whnf)
        simpa [srch] using hk
    | succ m ih =>
      intro i hi hk
      repeat (refine hP _ ?_; conv => whnf)
      refine ⟨fun h => ?_, fun h => ?_⟩
      · repeat (refine hP _ ?_; conv => whnf)
        refine ⟨fun h => ?_, fun h => ?_⟩
        · repeat (refine hP _ ?_; conv => whnf)
          refine ⟨vp_in_nI (by omega) (by omega), ?_⟩
          repeat (refine hP _ ?_; conv => whnf)
          rw [nI_clamp (by omega), lg_cmp_eq]
          refine ⟨fun h => ?_, fun h => ?_⟩
          · repeat (refine hP _ ?_; conv => whnf)
            simpa [srch, *] using hk
          · iterate 2 (refine hP _ ?_; conv => whnf)
            have e := ih (i + 1) (by omega) (by simpa [srch, *] using hk)
            rw [← nI_1] at e
            exact e
        · exact absurd (show nI i < nI 20 from nI_lt (by omega) (by omega)) h
      · exact absurd (by rw [hc]; exact nI_lt (by omega) (by omega)) h
  iterate 2 (refine hP _ ?_; conv => whnf)
  exact loop c 0 (by omega) hK
theorem c_labelWith {XL : Nat} {XS : Nat → Int32} {n : Nat} {C : mC} {I : Nat → Nat → Int32} {L : Nat → Nat → Int64} {K : mK} {a : Int64} {c : Nat} (hC : m_Ge XL XS (n + 1) C) (hc : I 8 5 = nI c) (h20 : c ≤ 32) (hK : K (some (.int (srch (fun j => L 12 j == a) c 0))) (m_SH, I, L)) : C 82 [.ref 8, .long a] (m_SH, I, L) K := by
  refine e_X7_labelWith hC (Nat.le_of_ble_eq_true rfl) ?_
  intro C' hC' P hP
  have loop : ∀ (m i : Nat), i + m = c → K (some (.int (srch (fun j => L 12 j == a) m i))) (m_SH, I, L) → P (2, [some (.ref 8), some (.long a), none, some (.int (nI i))], [], (m_SH, I, L), 0, 0) := by
    intro m
    induction m with
    | zero =>
      intro i hi hk
      repeat (refine hP _ ?_; conv => whnf)
      refine ⟨fun h => ?_, fun h => ?_⟩
      · exact absurd h (by rw [hc]; exact nI_nlt (by omega) (by omega))
      · repeat (refine hP _ ?_; conv => whnf)
        simpa [srch] using hk
    | succ m ih =>
      intro i hi hk
      repeat (refine hP _ ?_; conv => whnf)
      refine ⟨fun h => ?_, fun h => ?_⟩
      · repeat (refine hP _ ?_; conv => whnf)
        refine ⟨fun h => ?_, fun h => ?_⟩
        · repeat (refine hP _ ?_; conv => whnf)
          refine ⟨vp_in_nI (by omega) (by omega), ?_⟩
          repeat (refine hP _ ?_; conv => whnf)
          rw [nI_clamp (by omega), lg_cmp_eq]
          refine ⟨fun h => ?_, fun h => ?_⟩
          · repeat (refine hP _ ?_; conv => whnf)
            simpa [srch, *] using hk
          · iterate 2 (refine hP _ ?_; conv => whnf)
            have e := ih (i + 1) (by omega) (by simpa [srch, *] using hk)
            rw [← nI_1] at e
            exact e
        · exact absurd (show nI i < nI 32 from nI_lt (by omega) (by omega)) h
      · exact absurd (by rw [hc]; exact nI_lt (by omega) (by omega)) h
  iterate 2 (refine hP _ ?_; conv => whnf)
  exact loop c 0 (by omega) hK
theorem c_findEnumeration {XL : Nat} {XS : Nat → Int32} {n : Nat} {C : mC} {I : Nat → Nat → Int32} {L : Nat → Nat → Int64} {K : mK} {a : Int64} {c : Nat} (hC : m_Ge XL XS (n + 1) C) (hc : I 17 6 = nI c) (h20 : c ≤ 4) (hK : K (some (.int (srch (fun j => L 20 j == a) c 0))) (m_SH, I, L)) : C 13 [.ref 17, .long a] (m_SH, I, L) K := by
  refine e_X1_findEnumeration hC (Nat.le_of_ble_eq_true rfl) ?_
  intro C' hC' P hP
  have loop : ∀ (m i : Nat), i + m = c → K (some (.int (srch (fun j => L 20 j == a) m i))) (m_SH, I, L) → P (2, [some (.ref 17), some (.long a), none, some (.int (nI i))], [], (m_SH, I, L), 0, 0) := by
    intro m
    induction m with
    | zero =>
      intro i hi hk
      repeat (refine hP _ ?_; conv => whnf)
      refine ⟨fun h => ?_, fun h => ?_⟩
      · exact absurd h (by rw [hc]; exact nI_nlt (by omega) (by omega))
      · repeat (refine hP _ ?_; conv => whnf)
        simpa [srch] using hk
    | succ m ih =>
      intro i hi hk
      repeat (refine hP _ ?_; conv => whnf)
      refine ⟨fun h => ?_, fun h => ?_⟩
      · repeat (refine hP _ ?_; conv => whnf)
        refine ⟨fun h => ?_, fun h => ?_⟩
        · repeat (refine hP _ ?_; conv => whnf)
          refine ⟨vp_in_nI (by omega) (by omega), ?_⟩
          repeat (refine hP _ ?_; conv => whnf)
          rw [nI_clamp (by omega), lg_cmp_eq]
          refine ⟨fun h => ?_, fun h => ?_⟩
          · repeat (refine hP _ ?_; conv => whnf)
            simpa [srch, *] using hk
          · iterate 2 (refine hP _ ?_; conv => whnf)
            have e := ih (i + 1) (by omega) (by simpa [srch, *] using hk)
            rw [← nI_1] at e
            exact e
        · exact absurd (show nI i < nI 4 from nI_lt (by omega) (by omega)) h
      · exact absurd (by rw [hc]; exact nI_lt (by omega) (by omega)) h
  iterate 2 (refine hP _ ?_; conv => whnf)
  exact loop c 0 (by omega) hK
theorem r_inScope {XL : Nat} {XS : Nat → Int32} {n : Nat} {C : mC} {I : Nat → Nat → Int32} {L : Nat → Nat → Int64} {K : mK} {a : Int64} {c : Nat} (hC : m_Ge XL XS (n + 1) C) (hc : I 30 35 = nI c) (h20 : c ≤ 20) (hK : K (some (.int (srch (fun j => L 44 j == a) c 0))) (m_SH, I, L)) : C 126 [.ref 30, .long a] (m_SH, I, L) K := by
  refine e_X9_inScope hC (Nat.le_of_ble_eq_true rfl) ?_
  intro C' hC' P hP
  have loop : ∀ (m i : Nat), i + m = c → K (some (.int (srch (fun j => L 44 j == a) m i))) (m_SH, I, L) → P (2, [some (.ref 30), some (.long a), none, some (.int (nI i))], [], (m_SH, I, L), 0, 0) := by
    intro m
    induction m with
    | zero =>
      intro i hi hk
      repeat (refine hP _ ?_; conv => whnf)
      refine ⟨fun h => ?_, fun h => ?_⟩
      · exact absurd h (by rw [hc]; exact nI_nlt (by omega) (by omega))
      · repeat (refine hP _ ?_; conv => whnf)
        simpa [srch] using hk
    | succ m ih =>
      intro i hi hk
      repeat (refine hP _ ?_; conv => whnf)
      refine ⟨fun h => ?_, fun h => ?_⟩
      · repeat (refine hP _ ?_; conv => whnf)
        refine ⟨vp_in_nI (by omega) (by omega), ?_⟩
        repeat (refine hP _ ?_; conv => whnf)
        rw [nI_clamp (by omega), lg_cmp_eq]
        refine ⟨fun h => ?_, fun h => ?_⟩
        · repeat (refine hP _ ?_; conv => whnf)
          simpa [srch, *] using hk
        · iterate 2 (refine hP _ ?_; conv => whnf)
          have e := ih (i + 1) (by omega) (by simpa [srch, *] using hk)
          rw [← nI_1] at e
          exact e
      · exact absurd (by rw [hc]; exact nI_lt (by omega) (by omega)) h
  iterate 2 (refine hP _ ?_; conv => whnf)
  exact loop c 0 (by omega) hK
theorem c_nameKind {XL : Nat} {XS : Nat → Int32} {n : Nat} {C : mC} {I : Nat → Nat → Int32} {L : Nat → Nat → Int64} {K : mK} {a : Int64} (hC : m_Ge XL XS (n + 1) C) (hK : K (some (.int (if srch (fun j => L 7 j == a) 15 0 = -1 then 16 else 1 + srch (fun j => L 7 j == a) 15 0))) (m_SH, I, L)) : C 67 [.ref 3, .long a] (m_SH, I, L) K := by
  refine e_X6_nameKind hC (Nat.le_of_ble_eq_true rfl) ?_
  intro C' hC' P hP
  have loop : ∀ (m i : Nat), i + m = 15 → K (some (.int (if srch (fun j => L 7 j == a) m i = -1 then 16 else 1 + srch (fun j => L 7 j == a) m i))) (m_SH, I, L) → P (2, [some (.ref 3), some (.long a), none, some (.int (nI i))], [], (m_SH, I, L), 0, 0) := by
    intro m
    induction m with
    | zero =>
      intro i hi hk
      repeat (refine hP _ ?_; conv => whnf)
      refine ⟨fun h => ?_, fun h => ?_⟩
      · exact absurd h (nI_nlt (a := i) (b := 15) (by omega) (by omega))
      · repeat (refine hP _ ?_; conv => whnf)
        simpa [srch] using hk
    | succ m ih =>
      intro i hi hk
      repeat (refine hP _ ?_; conv => whnf)
      refine ⟨fun h => ?_, fun h => ?_⟩
      · repeat (refine hP _ ?_; conv => whnf)
        refine ⟨vp_in_nI (by omega) (by omega), ?_⟩
        repeat (refine hP _ ?_; conv => whnf)
        rw [nI_clamp (by omega), lg_cmp_eq]
        refine ⟨fun h => ?_, fun h => ?_⟩
        · repeat (refine hP _ ?_; conv => whnf)
          have hne : ¬ nI i = -1 := fun q => by
            have := congrArg Int32.toInt q
            rw [nI_toInt (by omega)] at this
            have h1 : (-1 : Int32).toInt = -1 := rfl
            omega
          simpa [srch, *] using hk
        · iterate 2 (refine hP _ ?_; conv => whnf)
          have e := ih (i + 1) (by omega) (by simpa [srch, *] using hk)
          rw [← nI_1] at e
          exact e
      · exact absurd (nI_lt (a := i) (b := 15) (by omega) (by omega)) h
  iterate 2 (refine hP _ ?_; conv => whnf)
  exact loop 15 0 (by omega) hK
theorem nI_mul16 {e j : Nat} (he : e < 4) (hj : j < 16) : nI e * 16 + nI j = nI (e * 16 + j) := by
  rw [show (16 : Int32) = nI 16 from rfl, pk_mul, nI_add]
theorem nI_mul16' {e j : Nat} (he : e < 4) (hj : j < 16) : 16 * nI e + nI j = nI (16 * e + j) := by
  rw [show (16 : Int32) = nI 16 from rfl, pk_mul, nI_add]
theorem c_findConstant {XL : Nat} {XS : Nat → Int32} {n : Nat} {C : mC} {I : Nat → Nat → Int32} {L : Nat → Nat → Int64} {K : mK} {a : Int64} {e c : Nat} (hC : m_Ge XL XS (n + 2) C) (he : e < 4) (hc : I 21 e = nI c) (h16 : c ≤ 16) (hK : K (some (.int (srch (fun j => L 22 (e * 16 + j) == a) c 0))) (m_SH, I, L)) : C 15 [.ref 17, .int (nI e), .long a] (m_SH, I, L) K := by
  refine e_X1_findConstant hC (Nat.le_of_ble_eq_true rfl) ?_
  intro C' hC' P hP
  have hcc : ccF (nI e) I = nI c := by
    unfold ccF
    rw [if_neg (nI_pos (by omega)), if_pos (show nI e < 4 from nI_lt (a := e) (b := 4) (by omega) (by omega)), nI_clamp (by omega), hc]
  have loop : ∀ (m i : Nat), i + m = c → K (some (.int (srch (fun j => L 22 (e * 16 + j) == a) m i))) (m_SH, I, L) → P (10, [some (.ref 17), some (.int (nI e)), some (.long a), none, some (.int (nI c)), some (.int (nI i))], [], (m_SH, I, L), 0, 0) := by
    intro m
    induction m with
    | zero =>
      intro i hi hk
      repeat (refine hP _ ?_; conv => whnf)
      refine ⟨fun h => ?_, fun h => ?_⟩
      · exact absurd h (nI_nlt (by omega) (by omega))
      · repeat (refine hP _ ?_; conv => whnf)
        simpa [srch] using hk
    | succ m ih =>
      intro i hi hk
      repeat (refine hP _ ?_; conv => whnf)
      refine ⟨fun h => ?_, fun h => ?_⟩
      · repeat (refine hP _ ?_; conv => whnf)
        refine ⟨fun h => ?_, fun h => ?_⟩
        · repeat (refine hP _ ?_; conv => whnf)
          rw [nI_mul16 (by omega) (by omega)]
          refine ⟨vp_in_nI (by omega) (by omega), ?_⟩
          repeat (refine hP _ ?_; conv => whnf)
          rw [nI_clamp (by omega), lg_cmp_eq]
          refine ⟨fun h => ?_, fun h => ?_⟩
          · repeat (refine hP _ ?_; conv => whnf)
            simpa [srch, *] using hk
          · iterate 2 (refine hP _ ?_; conv => whnf)
            have e := ih (i + 1) (by omega) (by simpa [srch, *] using hk)
            rw [← nI_1] at e
            exact e
        · exact absurd (show nI i < nI 16 from nI_lt (by omega) (by omega)) h
      · exact absurd (nI_lt (by omega) (by omega)) h
  repeat (refine hP _ ?_; conv => whnf)
  refine c_constantCount hC' ?_
  rw [hcc]
  iterate 3 (refine hP _ ?_; conv => whnf)
  exact loop c 0 (by omega) hK
theorem r_constantOf {XL : Nat} {XS : Nat → Int32} {n : Nat} {C : mC} {I : Nat → Nat → Int32} {L : Nat → Nat → Int64} {K : mK} {a : Int64} {e c : Nat} (hC : m_Ge XL XS (n + 1) C) (he : e < 4) (hc : I 34 e = nI c) (h16 : c ≤ 16) (hK : K (some (.int (srch (fun j => L 35 (16 * e + j) == a) c 0))) (m_SH, I, L)) : C 120 [.ref 30, .int (nI e), .long a] (m_SH, I, L) K := by
  refine e_X9_constantOf hC (Nat.le_of_ble_eq_true rfl) ?_
  intro C' hC' P hP
  have loop : ∀ (m i : Nat), i + m = c → K (some (.int (srch (fun j => L 35 (16 * e + j) == a) m i))) (m_SH, I, L) → P (3, [some (.ref 30), some (.int (nI e)), some (.long a), none, some (.int (nI i))], [], (m_SH, I, L), 0, 0) := by
    intro m
    induction m with
    | zero =>
      intro i hi hk
      repeat (refine hP _ ?_; conv => whnf)
      refine ⟨vp_in_nI (by omega) (by omega), ?_⟩
      repeat (refine hP _ ?_; conv => whnf)
      rw [nI_clamp (by omega), hc]
      refine ⟨fun h => ?_, fun h => ?_⟩
      · exact absurd h (nI_nlt (by omega) (by omega))
      · repeat (refine hP _ ?_; conv => whnf)
        simpa [srch] using hk
    | succ m ih =>
      intro i hi hk
      repeat (refine hP _ ?_; conv => whnf)
      refine ⟨vp_in_nI (by omega) (by omega), ?_⟩
      repeat (refine hP _ ?_; conv => whnf)
      rw [nI_clamp (by omega), hc]
      refine ⟨fun h => ?_, fun h => ?_⟩
      · repeat (refine hP _ ?_; conv => whnf)
        rw [nI_mul16' (by omega) (by omega)]
        refine ⟨vp_in_nI (by omega) (by omega), ?_⟩
        repeat (refine hP _ ?_; conv => whnf)
        rw [nI_clamp (by omega), lg_cmp_eq]
        refine ⟨fun h => ?_, fun h => ?_⟩
        · repeat (refine hP _ ?_; conv => whnf)
          simpa [srch, *] using hk
        · iterate 2 (refine hP _ ?_; conv => whnf)
          have e := ih (i + 1) (by omega) (by simpa [srch, *] using hk)
          rw [← nI_1] at e
          exact e
      · exact absurd (nI_lt (by omega) (by omega)) h
  iterate 2 (refine hP _ ?_; conv => whnf)
  exact loop c 0 (by omega) hK
end
section
/-! ===== THE TEXT: octets, what is packed of them, their hash ===== -/
def toc (tx : List Nat) (j : Nat) : Int32 := if j < tx.length then nI (tx.getD j 0) else -1
def TxOk (tx : List Nat) : Prop := tx.length ≤ 3000 ∧ ∀ c ∈ tx, c < 256
def TxC (tx : List Nat) (I : Nat → Nat → Int32) : Prop := I 1 1 = nI tx.length ∧ ∀ j, j < tx.length → I 2 j = nI (tx.getD j 0)
def TxM (tx : List Nat) (I : Nat → Nat → Int32) : Prop := I 30 2 = nI tx.length ∧ ∀ j, j < tx.length → I 32 j &&& 255 = nI (tx.getD j 0)
theorem oAt_toc {tx : List Nat} {I : Nat → Nat → Int32} (ht : TxOk tx) (h : TxC tx I) {j : Nat} (hj : j < 2 ^ 31) : oAt I (nI j) = toc tx j := by
  unfold oAt toc
  rw [if_neg (nI_pos hj), h.1]
  have hl := ht.1
  by_cases hlt : j < tx.length
  · rw [if_pos (nI_lt hlt (by omega)), if_pos (show nI j < 3000 from nI_lt (a := j) (b := 3000) (by omega) (by omega)), if_pos hlt, nI_clamp hj, h.2 j hlt]
  · rw [if_neg (nI_nlt (by omega) hj), if_neg hlt]
theorem mOct_toc {tx : List Nat} {I : Nat → Nat → Int32} (ht : TxOk tx) (h : TxM tx I) {j : Nat} (hj : j < 2 ^ 31) : mOct I (nI j) = toc tx j := by
  unfold mOct toc
  rw [h.1]
  have hl := ht.1
  by_cases hlt : j < tx.length
  · rw [if_pos (nI_lt hlt (by omega)), if_pos hlt, nI_clamp hj, h.2 j hlt]
  · rw [if_neg (nI_nlt (by omega) hj), if_neg hlt]
theorem c_at' {XL : Nat} {XS : Nat → Int32} {n : Nat} {C : mC} {I : Nat → Nat → Int32} {L : Nat → Nat → Int64} {K : mK} {tx : List Nat} {j : Nat} (hC : m_Ge XL XS (n + 1) C) (ht : TxOk tx) (h : TxC tx I) (hj : j < 2 ^ 31) (hK : K (some (.int (toc tx j))) (m_SH, I, L)) : C 38 [.ref 1, .int (nI j)] (m_SH, I, L) K := by
  refine c_at hC ?_
  rw [oAt_toc ht h hj]
  exact hK
theorem r_octet' {XL : Nat} {XS : Nat → Int32} {n : Nat} {C : mC} {I : Nat → Nat → Int32} {L : Nat → Nat → Int64} {K : mK} {tx : List Nat} {j : Nat} (hC : m_Ge XL XS (n + 1) C) (ht : TxOk tx) (h : TxM tx I) (hj : j < 2 ^ 31) (hK : K (some (.int (toc tx j))) (m_SH, I, L)) : C 104 [.ref 30, .int (nI j)] (m_SH, I, L) K := by
  have hl := ht.1
  refine r_octet hC (fun hlt => ?_) ?_
  · rw [h.1] at hlt
    have := (nI_ltI hj (by omega)).mp hlt
    exact vp_in_nI (by omega) (by omega)
  · rw [mOct_toc ht h hj]
    exact hK
def hshF (tx : List Nat) : Nat → Nat → Int32 → Int32
  | 0, _, h => h
  | m + 1, i, h => hshF tx m (i + 1) (31 * h + toc tx i)
theorem c_wholeHash {XL : Nat} {XS : Nat → Int32} {n : Nat} {C : mC} {I : Nat → Nat → Int32} {L : Nat → Nat → Int64} {K : mK} {tx : List Nat} (hC : m_Ge XL XS (n + 2) C) (ht : TxOk tx) (h : TxC tx I) (hK : K (some (.int (hshF tx tx.length 0 0))) (m_SH, I, L)) : C 42 [.ref 1] (m_SH, I, L) K := by
  have hl := ht.1
  refine e_X2_wholeHash hC (Nat.le_of_ble_eq_true rfl) ?_
  intro C' hC' P hP
  have loop : ∀ (m i : Nat) (x : Int32), i + m = tx.length → K (some (.int (hshF tx m i x))) (m_SH, I, L) → P (4, [some (.ref 1), some (.int x), some (.int (nI i))], [], (m_SH, I, L), 0, 0) := by
    intro m
    induction m with
    | zero =>
      intro i x hi hk
      repeat (refine hP _ ?_; conv => whnf)
      rw [h.1]
      refine ⟨fun h1 => ?_, fun h1 => ?_⟩
      · exact absurd h1 (nI_nlt (by omega) (by omega))
      · repeat (refine hP _ ?_; conv => whnf)
        exact hk
    | succ m ih =>
      intro i x hi hk
      repeat (refine hP _ ?_; conv => whnf)
      rw [h.1]
      refine ⟨fun h1 => ?_, fun h1 => ?_⟩
      · repeat (refine hP _ ?_; conv => whnf)
        refine c_at' hC' ht h (by omega) ?_
        iterate 4 (refine hP _ ?_; conv => whnf)
        have e := ih (i + 1) _ (by omega) hk
        rw [← nI_1] at e
        exact e
      · exact absurd (nI_lt (by omega) (by omega)) h1
  iterate 4 (refine hP _ ?_; conv => whnf)
  exact loop tx.length 0 0 (by omega) hK
theorem r_hash {XL : Nat} {XS : Nat → Int32} {n : Nat} {C : mC} {I : Nat → Nat → Int32} {L : Nat → Nat → Int64} {K : mK} {tx : List Nat} (hC : m_Ge XL XS (n + 2) C) (ht : TxOk tx) (h : TxM tx I) (hK : K (some (.int (hshF tx tx.length 0 0))) (m_SH, I, L)) : C 162 [.ref 30] (m_SH, I, L) K := by
  have hl := ht.1
  refine e_X9_hash hC (Nat.le_of_ble_eq_true rfl) ?_
  intro C' hC' P hP
  have loop : ∀ (m i : Nat) (x : Int32), i + m = tx.length → K (some (.int (hshF tx m i x))) (m_SH, I, L) → P (4, [some (.ref 30), some (.int x), some (.int (nI i))], [], (m_SH, I, L), 0, 0) := by
    intro m
    induction m with
    | zero =>
      intro i x hi hk
      repeat (refine hP _ ?_; conv => whnf)
      rw [h.1]
      refine ⟨fun h1 => ?_, fun h1 => ?_⟩
      · exact absurd h1 (nI_nlt (by omega) (by omega))
      · repeat (refine hP _ ?_; conv => whnf)
        exact hk
    | succ m ih =>
      intro i x hi hk
      repeat (refine hP _ ?_; conv => whnf)
      rw [h.1]
      refine ⟨fun h1 => ?_, fun h1 => ?_⟩
      · repeat (refine hP _ ?_; conv => whnf)
        refine r_octet' hC' ht h (by omega) ?_
        iterate 4 (refine hP _ ?_; conv => whnf)
        have e := ih (i + 1) _ (by omega) hk
        rw [← nI_1] at e
        exact e
      · exact absurd (nI_lt (by omega) (by omega)) h1
  iterate 4 (refine hP _ ?_; conv => whnf)
  exact loop tx.length 0 0 (by omega) hK
theorem c_hash {XL : Nat} {XS : Nat → Int32} {n : Nat} {C : mC} {I : Nat → Nat → Int32} {L : Nat → Nat → Int64} {K : mK} {tx : List Nat} (hC : m_Ge XL XS (n + 3) C) (ht : TxOk tx) (h : TxC tx I) (hK : K (some (.int (hshF tx tx.length 0 0))) (m_SH, I, L)) : C 101 [.ref 0] (m_SH, I, L) K := by
  refine e_X8_hash hC (Nat.le_of_ble_eq_true rfl) ?_
  intro C' hC' P hP
  repeat (refine hP _ ?_; conv => whnf)
  refine c_wholeHash hC' ht h ?_
  repeat (refine hP _ ?_; conv => whnf)
  exact hK
def pkF (tx : List Nat) : Nat → Nat → Int64 → Int64
  | 0, _, a => a
  | m + 1, i, a => pkF tx m (i + 1) ((a <<< ((8 : Int32).toInt64 &&& 63)) ||| (toc tx i).toInt64)
theorem c_packed {XL : Nat} {XS : Nat → Int32} {n : Nat} {C : mC} {I : Nat → Nat → Int32} {L : Nat → Nat → Int64} {K : mK} {tx : List Nat} {i0 e0 : Nat} (hC : m_Ge XL XS (n + 2) C) (ht : TxOk tx) (h : TxC tx I) (h1 : i0 ≤ e0) (h2 : e0 < 2 ^ 31) (hK : K (some (.long (pkF tx (e0 - i0) i0 0))) (m_SH, I, L)) : C 40 [.ref 1, .int (nI i0), .int (nI e0)] (m_SH, I, L) K := by
  refine e_X2_packed hC (Nat.le_of_ble_eq_true rfl) ?_
  intro C' hC' P hP
  have loop : ∀ (m i : Nat) (x : Int64), i + m = e0 → K (some (.long (pkF tx m i x))) (m_SH, I, L) → P (5, [some (.ref 1), some (.int (nI i0)), some (.int (nI e0)), some (.long x), none, some (.int (nI i))], [], (m_SH, I, L), 0, 0) := by
    intro m
    induction m with
    | zero =>
      intro i x hi hk
      repeat (refine hP _ ?_; conv => whnf)
      refine ⟨fun h1 => ?_, fun h1 => ?_⟩
      · exact absurd h1 (nI_nlt (by omega) (by omega))
      · repeat (refine hP _ ?_; conv => whnf)
        exact hk
    | succ m ih =>
      intro i x hi hk
      repeat (refine hP _ ?_; conv => whnf)
      refine ⟨fun h1 => ?_, fun h1 => ?_⟩
      · repeat (refine hP _ ?_; conv => whnf)
        refine c_at' hC' ht h (by omega) ?_
        iterate 5 (refine hP _ ?_; conv => whnf)
        have e := ih (i + 1) _ (by omega) hk
        rw [← nI_1] at e
        exact e
      · exact absurd (nI_lt (by omega) (by omega)) h1
  iterate 4 (refine hP _ ?_; conv => whnf)
  exact loop (e0 - i0) i0 0 (by omega) hK
end
section
/-! ===== type ===== -/
theorem bp_b (x : Int32) : x.toInt8.toInt32 &&& 255 = x &&& 255 := by
  apply Int32.toBitVec_inj.mp
  rw [Int32.toBitVec_and, Int32.toBitVec_and, Int8.toBitVec_toInt32, Int32.toBitVec_toInt8]
  apply BitVec.eq_of_getLsbD_eq
  intro i hi
  rw [BitVec.getLsbD_and, BitVec.getLsbD_and]
  have hm : ∀ i < 32, 8 ≤ i → (255 : Int32).toBitVec.getLsbD i = false := by decide
  rcases Nat.lt_or_ge i 8 with z | z
  · rw [BitVec.getLsbD_signExtend, BitVec.getLsbD_signExtend, if_pos z, if_pos hi]
    simp only [z, hi, decide_true, Bool.true_and]
  · rw [hm i hi z]; simp
/-! ===== the char cast and 65535 ===== -/
theorem wb_tb (n : Nat) : (lN n).toBitVec = BitVec.ofNat 64 n := rfl
theorem wb_inj {a b : Int64} (h : a.toBitVec = b.toBitVec) : a = b := Int64.toBitVec_inj.mp h
theorem wb_tn {n : Nat} (h : n < 2 ^ 64) : (lN n).toBitVec.toNat = n := by rw [wb_tb, BitVec.toNat_ofNat, Nat.mod_eq_of_lt h]
theorem wb_of (x : Int64) : ∃ n, n < 2 ^ 64 ∧ x = lN n := ⟨x.toBitVec.toNat, x.toBitVec.isLt, wb_inj (by rw [wb_tb]; simp)⟩
theorem wb_of32 (x : Int32) : ∃ n, n < 2 ^ 32 ∧ x = nI n := ⟨x.toBitVec.toNat, x.toBitVec.isLt, Int32.toBitVec_inj.mp (by show _ = BitVec.ofNat 32 _; simp)⟩
theorem wb_c : ∀ k, k < 64 → ((nI k).toInt64 &&& 63) = lN k := by decide +kernel
theorem wb_cu : ∀ k, k < 64 → ((nI k).toInt64.toUInt64 &&& Int64.toUInt64 63) = UInt64.ofNat k := by decide +kernel
theorem wb_sm : ∀ k, k < 64 → (BitVec.ofNat 64 k).smod 64 = BitVec.ofNat 64 k := by decide +kernel
theorem wb_pw {a b : Nat} (h : a ≤ b) : 2 ^ b = 2 ^ a * 2 ^ (b - a) := by rw [← Nat.pow_add]; congr 1; omega
theorem wb_lt2 {a b : Nat} (h : a < b) : 2 ^ a < 2 ^ b := Nat.pow_lt_pow_right (by decide) h
theorem wb_mod (n : Nat) : lN n = lN (n % 2 ^ 64) := wb_inj (by rw [wb_tb, wb_tb]; apply BitVec.eq_of_toNat_eq; rw [BitVec.toNat_ofNat, BitVec.toNat_ofNat, Nat.mod_mod])
theorem wb_shr {n k : Nat} (hn : n < 2 ^ 64) (hk : k < 64) : ((lN n).toUInt64 >>> ((nI k).toInt64.toUInt64 &&& Int64.toUInt64 63)).toInt64 = lN (n / 2 ^ k) := by
  rw [wb_cu k hk]
  apply wb_inj
  apply BitVec.eq_of_toNat_eq
  show ((lN n).toUInt64 >>> UInt64.ofNat k).toNat = (BitVec.ofNat 64 _).toNat
  have h1 : (UInt64.ofNat k).toNat = k := by
    show (BitVec.ofNat 64 k).toNat = k
    rw [BitVec.toNat_ofNat, Nat.mod_eq_of_lt (by omega)]
  have h2 : (lN n).toUInt64.toNat = n := wb_tn hn
  rw [UInt64.toNat_shiftRight, h1, h2, Nat.mod_eq_of_lt hk, Nat.shiftRight_eq_div_pow, BitVec.toNat_ofNat, Nat.mod_eq_of_lt (Nat.lt_of_le_of_lt (Nat.div_le_self _ _) hn)]
theorem wb_shl (n : Nat) {k : Nat} (hk : k < 64) : lN n <<< ((nI k).toInt64 &&& 63) = lN (n * 2 ^ k) := by
  rw [wb_c k hk]
  apply wb_inj
  rw [Int64.toBitVec_shiftLeft, wb_tb, wb_tb, wb_tb, wb_sm k hk]
  apply BitVec.eq_of_toNat_eq
  rw [BitVec.shiftLeft_eq', BitVec.toNat_shiftLeft, BitVec.toNat_ofNat, BitVec.toNat_ofNat, BitVec.toNat_ofNat, Nat.mod_eq_of_lt (show k < 2 ^ 64 by omega), Nat.shiftLeft_eq, Nat.mul_mod, Nat.mod_mod, ← Nat.mul_mod]
theorem wb_and {a b : Nat} (ha : a < 2 ^ 64) (hb : b < 2 ^ 64) : lN a &&& lN b = lN (a &&& b) := by
  apply wb_inj
  rw [Int64.toBitVec_and, wb_tb, wb_tb, wb_tb]
  apply BitVec.eq_of_toNat_eq
  rw [BitVec.toNat_and, BitVec.toNat_ofNat, BitVec.toNat_ofNat, BitVec.toNat_ofNat, Nat.mod_eq_of_lt ha, Nat.mod_eq_of_lt hb, Nat.mod_eq_of_lt (Nat.and_lt_two_pow _ hb)]
theorem wb_or {a b : Nat} (ha : a < 2 ^ 64) (hb : b < 2 ^ 64) : lN a ||| lN b = lN (a ||| b) := by
  apply wb_inj
  rw [Int64.toBitVec_or, wb_tb, wb_tb, wb_tb]
  apply BitVec.eq_of_toNat_eq
  rw [BitVec.toNat_or, BitVec.toNat_ofNat, BitVec.toNat_ofNat, BitVec.toNat_ofNat, Nat.mod_eq_of_lt ha, Nat.mod_eq_of_lt hb, Nat.mod_eq_of_lt (Nat.or_lt_two_pow ha hb)]
theorem wb_mask {n k : Nat} (hn : n < 2 ^ 64) (hk : k < 64) : lN n &&& lN (2 ^ k - 1) = lN (n % 2 ^ k) := by
  rw [wb_and hn (by have := wb_lt2 hk; omega), Nat.and_two_pow_sub_one_eq_mod]
theorem wb_a1 {n : Nat} (hn : n < 2 ^ 64) : lN n &&& 1 = lN (n % 2) := wb_mask (k := 1) hn (by decide)
theorem wb_bit {n k : Nat} (hn : n < 2 ^ 64) (hk : k < 64) : ((lN n).toUInt64 >>> ((nI k).toInt64.toUInt64 &&& Int64.toUInt64 63)).toInt64 &&& 1 = lN (n / 2 ^ k % 2) := by
  rw [wb_shr hn hk, wb_a1 (Nat.lt_of_le_of_lt (Nat.div_le_self _ _) hn)]
theorem wb_xor {q k : Nat} (hk : k < 63) (h : 2 ^ k ≤ q) (h2 : q < 2 ^ (k + 1)) : lN q ^^^ lN (2 ^ k) = lN (q - 2 ^ k) := by
  obtain ⟨r, rfl⟩ : ∃ r, q = 2 ^ k + r := ⟨q - 2 ^ k, by omega⟩
  have hr : r < 2 ^ k := by rw [Nat.pow_succ] at h2; omega
  have hx : (2 ^ k + r) ^^^ 2 ^ k = r := by
    apply Nat.eq_of_testBit_eq
    intro i
    rw [Nat.testBit_xor, Nat.testBit_two_pow]
    rcases Nat.lt_trichotomy i k with h | h | h
    · rw [Nat.testBit_two_pow_add_gt h]
      simp [show ¬ k = i by omega]
    · subst h
      rw [Nat.testBit_two_pow_add_eq]
      simp
    · have a1 : 2 ^ (k + 1) ≤ 2 ^ i := Nat.pow_le_pow_right (by decide) h
      rw [Nat.testBit_lt_two_pow (show 2 ^ k + r < 2 ^ i by omega), Nat.testBit_lt_two_pow (show r < 2 ^ i by omega)]
      simp [show ¬ k = i by omega]
  have b1 := wb_lt2 (show k + 1 < 64 by omega)
  have b2 := wb_lt2 (show k < 64 by omega)
  apply wb_inj
  rw [Int64.toBitVec_xor, wb_tb, wb_tb, wb_tb]
  apply BitVec.eq_of_toNat_eq
  rw [BitVec.toNat_xor, BitVec.toNat_ofNat, BitVec.toNat_ofNat, BitVec.toNat_ofNat, Nat.mod_eq_of_lt (by omega : 2 ^ k + r < 2 ^ 64), Nat.mod_eq_of_lt b2, hx, Nat.add_sub_cancel_left, Nat.mod_eq_of_lt (by omega)]
/-! ===== lN: masks, 'or' of parts that don't overlap is a sum ===== -/
/-- which places may have changed -/
def Fr {α : Type} (S : Nat → Nat → Bool) (I I' : Nat → Nat → α) : Prop := ∀ p q, S p q = false → I' p q = I p q
theorem Fr.rf {α : Type} {S : Nat → Nat → Bool} {I : Nat → Nat → α} : Fr S I I := fun _ _ _ => rfl
theorem Fr.tr {α : Type} {S : Nat → Nat → Bool} {I I' I'' : Nat → Nat → α} (h : Fr S I I') (h2 : Fr S I' I'') : Fr S I I'' := fun p q hs => (h2 p q hs).trans (h p q hs)
theorem Fr.mono {α : Type} {S T : Nat → Nat → Bool} {I I' : Nat → Nat → α} (h : Fr S I I') (hs : ∀ p q, T p q = false → S p q = false) : Fr T I I' := fun p q ht => h p q (hs p q ht)
theorem Fr.up {S : Nat → Nat → Bool} {I I' : Nat → Nat → Int32} {k j : Nat} {x : Int32} (h : Fr S I I') (hs : S k j = true) : Fr S I (m_up I' k j x) := by
  intro p q hf
  rw [m_upr]
  by_cases h1 : p = k
  · by_cases h2 : q = j
    · subst h1; subst h2; rw [hs] at hf; cases hf
    · rw [if_pos h1, if_neg h2]; exact h p q hf
  · rw [if_neg h1]; exact h p q hf
theorem Fr.upL {S : Nat → Nat → Bool} {L L' : Nat → Nat → Int64} {k j : Nat} {x : Int64} (h : Fr S L L') (hs : S k j = true) : Fr S L (m_upL L' k j x) := by
  intro p q hf
  rw [m_uprL]
  by_cases h1 : p = k
  · by_cases h2 : q = j
    · subst h1; subst h2; rw [hs] at hf; cases hf
    · rw [if_pos h1, if_neg h2]; exact h p q hf
  · rw [if_neg h1]; exact h p q hf
/-- octet i of v -/
def ov (v : Int64) (i : Nat) : Nat := ((v.toUInt64 >>> ((8 * nI i).toInt64.toUInt64 &&& Int64.toUInt64 63)).toInt64).toBitVec.toNat % 256
def octs (v : Int64) : Nat → List Nat
  | 0 => []
  | n + 1 => ov v n :: octs v n
theorem ov_lt (v : Int64) (i : Nat) : ov v i < 256 := Nat.mod_lt _ (by decide)
theorem octs_len (v : Int64) : ∀ n, (octs v n).length = n
  | 0 => rfl
  | n + 1 => by simp [octs, octs_len v n]
theorem octs_lt (v : Int64) : ∀ n, ∀ c ∈ octs v n, c < 256
  | 0, c, h => by simp [octs] at h
  | n + 1, c, h => by
    rcases List.mem_cons.mp h with h | h
    · rw [h]; exact ov_lt v n
    · exact octs_lt v n c h
theorem ov_char (x : Int64) : vp_nar .char ((((x &&& 255).toInt32).toUInt32 % 65536).toInt32) = nI (x.toBitVec.toNat % 256) := by
  rw [pk_vc]
  obtain ⟨m, hm, rfl⟩ := wb_of x
  rw [show (255 : Int64) = lN (2 ^ 8 - 1) from rfl, wb_mask hm (by decide), lN_i, wb_tn hm, pk_char]
  have h1 : m % 2 ^ 8 < 256 := Nat.mod_lt _ (by decide)
  rw [pk_tn (by omega)]
  congr 1
  omega
theorem ov_byte (x : Int64) : vp_nar .byte (x.toInt32.toInt8.toInt32) &&& 255 = nI (x.toBitVec.toNat % 256) := by
  rw [pk_vb, bp_b]
  obtain ⟨m, hm, rfl⟩ := wb_of x
  rw [lN_i, wb_tn hm, pk_and (nI m) (m := 255) 8 rfl]
  congr 1
  have : (nI m).toBitVec.toNat = m % 2 ^ 32 := by
    show (BitVec.ofNat 32 m).toNat = _
    rw [BitVec.toNat_ofNat]
  rw [this]
  omega
theorem getD_app_lt {l : List Nat} {o j : Nat} (h : j < l.length) : (l ++ [o]).getD j 0 = l.getD j 0 := by
  simp [List.getD_eq_getElem?_getD, List.getElem?_append_left h]
theorem getD_app_eq {l : List Nat} {o : Nat} : (l ++ [o]).getD l.length 0 = o := by
  simp [List.getD_eq_getElem?_getD]
theorem TxC_push {tx : List Nat} {I : Nat → Nat → Int32} {o : Nat} (h : TxC tx I) (hl : tx.length < 3000) : TxC (tx ++ [o]) (m_up (m_up I 2 tx.length (nI o)) 1 1 (nI (tx.length + 1))) := by
  refine ⟨by simp [m_upr], fun j hj => ?_⟩
  simp only [List.length_append, List.length_cons, List.length_nil] at hj
  by_cases hjl : j = tx.length
  · subst hjl
    rw [getD_app_eq]
    simp [m_upr]
  · rw [getD_app_lt (by omega), ← h.2 j (by omega)]
    simp [m_upr, hjl]
theorem TxM_push {tx : List Nat} {I : Nat → Nat → Int32} {o : Nat} {x : Int32} (h : TxM tx I) (hx : x &&& 255 = nI o) (hl : tx.length < 3000) : TxM (tx ++ [o]) (m_up (m_up I 32 tx.length x) 30 2 (nI (tx.length + 1))) := by
  refine ⟨by simp [m_upr], fun j hj => ?_⟩
  simp only [List.length_append, List.length_cons, List.length_nil] at hj
  by_cases hjl : j = tx.length
  · subst hjl
    rw [getD_app_eq, ← hx]
    simp [m_upr]
  · rw [getD_app_lt (by omega), ← h.2 j (by omega)]
    simp [m_upr, hjl]
def S_tx : Nat → Nat → Bool := fun p q => p == 2 || (p == 1 && q == 1)
def S_mt : Nat → Nat → Bool := fun p q => p == 32 || (p == 30 && q == 2)
set_option maxHeartbeats 1000000 in
theorem c_append {XL : Nat} {XS : Nat → Int32} {n : Nat} {C : mC} {I : Nat → Nat → Int32} {L : Nat → Nat → Int64} {K : mK} {tx : List Nat} {v : Int64} {k : Nat} (hC : m_Ge XL XS (n + 1) C) (h : TxC tx I) (hk8 : k ≤ 8) (hl : tx.length + k ≤ 3000) (hK : ∀ I', TxC (tx ++ octs v k) I' → Fr S_tx I I' → K (some (.int 1)) (m_SH, I', L)) : C 39 [.ref 1, .long v, .int (nI k)] (m_SH, I, L) K := by
  refine e_X2_append hC (Nat.le_of_ble_eq_true rfl) ?_
  intro C' hC' P hP
  have loop : ∀ (m : Nat) (t : List Nat) (J : Nat → Nat → Int32), TxC t J → t.length + m ≤ 3000 → Fr S_tx I J → (∀ I', TxC (t ++ octs v m) I' → Fr S_tx I I' → K (some (.int 1)) (m_SH, I', L)) → P (21, [some (.ref 1), some (.long v), none, some (.int (nI k)), some (.int (nI m - 1))], [], (m_SH, J, L), 0, 0) := by
    intro m
    induction m with
    | zero =>
      intro t J hJ hm hF hk
      repeat (refine hP _ ?_; conv => whnf)
      refine ⟨fun _ => ?_, fun h1 => absurd (show nI 0 - 1 < 0 by decide) h1⟩
      repeat (refine hP _ ?_; conv => whnf)
      refine ⟨rfl, ?_⟩
      exact hk J (by simpa [octs] using hJ) hF
    | succ m ih =>
      intro t J hJ hm hF hk
      rw [nI_pred]
      repeat (refine hP _ ?_; conv => whnf)
      refine ⟨fun h1 => absurd h1 (nI_pos (by omega)), fun _ => ?_⟩
      repeat (refine hP _ ?_; conv => whnf)
      rw [hJ.1]
      refine ⟨vp_in_nI (by omega) (by omega), ?_⟩
      rw [nI_clamp (by omega), ov_char]
      iterate 8 (refine hP _ ?_; conv => whnf)
      have hj2 := TxC_push (o := ov v m) hJ (by omega)
      have e := ih (t ++ [ov v m]) _ hj2 (by simp; omega) ((hF.up (by simp [S_tx])).up (by simp [S_tx])) (fun I' h1 h2 => hk I' (by simpa [octs] using h1) h2)
      have e1 : m_up J 2 t.length (nI (ov v m)) 1 1 + 1 = nI (t.length + 1) := by rw [m_upr, if_neg (by decide), hJ.1, nI_1]
      rw [← e1] at e
      rw [show nI m - 1 = nI m + -1 from by rw [Int32.sub_eq_add_neg]] at e
      exact e
  repeat (refine hP _ ?_; conv => whnf)
  rw [h.1]
  have hle : Int32.ofNat 3000 - nI tx.length = nI (3000 - tx.length) := pk_sub (a := 3000) (b := tx.length) (by omega)
  rw [hle]
  refine ⟨fun h1 => ?_, fun _ => ?_⟩
  · exact absurd h1 (nI_nlt (by omega) (by omega))
  · iterate 4 (refine hP _ ?_; conv => whnf)
    exact loop k tx I h hl Fr.rf hK
end
section
theorem c_appendNo {XL : Nat} {XS : Nat → Int32} {n : Nat} {C : mC} {I : Nat → Nat → Int32} {L : Nat → Nat → Int64} {K : mK} {tx : List Nat} {v : Int64} {k : Nat} (hC : m_Ge XL XS (n + 1) C) (h : TxC tx I) (hk8 : k ≤ 8) (ht : tx.length ≤ 3000) (hl : 3000 < tx.length + k) (hK : K (some (.int 0)) (m_SH, I, L)) : C 39 [.ref 1, .long v, .int (nI k)] (m_SH, I, L) K := by
  refine e_X2_append hC (Nat.le_of_ble_eq_true rfl) ?_
  intro C' hC' P hP
  repeat (refine hP _ ?_; conv => whnf)
  rw [h.1]
  have hle : Int32.ofNat 3000 - nI tx.length = nI (3000 - tx.length) := pk_sub (a := 3000) (b := tx.length) (by omega)
  rw [hle]
  refine ⟨fun _ => ?_, fun h1 => ?_⟩
  · repeat (refine hP _ ?_; conv => whnf)
    exact ⟨rfl, hK⟩
  · exact absurd (nI_lt (by omega) (by omega)) h1
theorem n_1to8 {z : Int32} (h0 : ¬ z < 0) (h8 : ¬ 8 < z) (hz : ¬ z = 0) : ∃ k : Nat, 1 ≤ k ∧ k ≤ 8 ∧ z = nI k := by
  obtain ⟨k, hk, rfl⟩ := nI_of h0
  refine ⟨k, ?_, ?_, rfl⟩
  · by_cases hk0 : k = 0
    · subst hk0; exact absurd rfl hz
    · omega
  · by_cases hk8 : k ≤ 8
    · exact hk8
    · exact absurd (show (8 : Int32) < nI k from nI_lt (a := 8) (by omega) hk) h8
theorem c_type {XL : Nat} {XS : Nat → Int32} {n : Nat} {C : mC} {I : Nat → Nat → Int32} {L : Nat → Nat → Int64} {K : mK} {tx : List Nat} {v : Int64} {z : Int32} (hC : m_Ge XL XS (n + 2) C) (ht : TxOk tx) (h : TxC tx I)
    (h1 : (z < 0 ∨ 8 < z) → K (some (.int (-2))) (m_SH, I, L)) (h2 : z = 0 → K (some (.int 0)) (m_SH, m_up I 1 1 0, L))
    (h3 : ∀ k, 1 ≤ k → k ≤ 8 → z = nI k → 3000 < tx.length + k → K (some (.int (-4))) (m_SH, I, L))
    (h4 : ∀ k, 1 ≤ k → k ≤ 8 → z = nI k → tx.length + k ≤ 3000 → ∀ I', TxC (tx ++ octs v k) I' → Fr S_tx I I' → K (some (.int (nI (tx.length + k)))) (m_SH, I', L)) : C 86 [.ref 0, .long v, .int z] (m_SH, I, L) K := by
  refine e_X8_type hC (Nat.le_of_ble_eq_true rfl) ?_
  intro C' hC' P hP
  repeat (refine hP _ ?_; conv => whnf)
  refine ⟨fun q => ?_, fun q0 => ?_⟩
  · repeat (refine hP _ ?_; conv => whnf)
    exact h1 (Or.inl q)
  · repeat (refine hP _ ?_; conv => whnf)
    refine ⟨fun q => ?_, fun q8 => ?_⟩
    · repeat (refine hP _ ?_; conv => whnf)
      exact h1 (Or.inr q)
    · repeat (refine hP _ ?_; conv => whnf)
      refine ⟨fun q => ?_, fun qz => ?_⟩
      · repeat (refine hP _ ?_; conv => whnf)
        exact h2 q
      · obtain ⟨k, hk1, hk8, rfl⟩ := n_1to8 q0 q8 qz
        repeat (refine hP _ ?_; conv => whnf)
        by_cases hfit : tx.length + k ≤ 3000
        · refine c_append hC' h hk8 hfit (fun I' hI' hF => ?_)
          repeat (refine hP _ ?_; conv => whnf)
          refine ⟨fun q => absurd q (by decide), fun _ => ?_⟩
          repeat (refine hP _ ?_; conv => whnf)
          have e := h4 k hk1 hk8 rfl hfit I' hI' hF
          have e1 : I' 1 1 = nI (tx.length + k) := by
            have := hI'.1
            rw [List.length_append, octs_len] at this
            exact this
          rw [← e1] at e
          exact e
        · refine c_appendNo hC' h hk8 ht.1 (by omega) ?_
          repeat (refine hP _ ?_; conv => whnf)
          refine ⟨fun _ => ?_, fun q => absurd rfl q⟩
          repeat (refine hP _ ?_; conv => whnf)
          exact h3 k hk1 hk8 rfl (by omega)
set_option maxHeartbeats 1000000 in
theorem r_type {XL : Nat} {XS : Nat → Int32} {n : Nat} {C : mC} {I : Nat → Nat → Int32} {L : Nat → Nat → Int64} {K : mK} {tx : List Nat} {v : Int64} {z : Int32} (hC : m_Ge XL XS (n + 1) C) (ht : TxOk tx) (h : TxM tx I)
    (h1 : (z < 0 ∨ 8 < z) → K (some (.int (-2))) (m_SH, I, L)) (h2 : z = 0 → K (some (.int 0)) (m_SH, m_up I 30 2 0, L))
    (h3 : ∀ k, 1 ≤ k → k ≤ 8 → z = nI k → 3000 < tx.length + k → K (some (.int (-4))) (m_SH, I, L))
    (h4 : ∀ k, 1 ≤ k → k ≤ 8 → z = nI k → tx.length + k ≤ 3000 → ∀ I', TxM (tx ++ octs v k) I' → Fr S_mt I I' → K (some (.int (nI (tx.length + k)))) (m_SH, I', L)) : C 103 [.ref 30, .long v, .int z] (m_SH, I, L) K := by
  have hl := ht.1
  refine e_X9_type hC (Nat.le_of_ble_eq_true rfl) ?_
  intro C' hC' P hP
  have loop : ∀ (k m : Nat) (t : List Nat) (J : Nat → Nat → Int32), TxM t J → t.length + m ≤ 3000 → Fr S_mt I J → (∀ I', TxM (t ++ octs v m) I' → Fr S_mt I I' → K (some (.int (nI (t.length + m)))) (m_SH, I', L)) → P (42, [some (.ref 30), some (.long v), none, some (.int (nI k)), some (.int (nI m - 1))], [], (m_SH, J, L), 0, 0) := by
    intro k m
    induction m with
    | zero =>
      intro t J hJ hm hF hk
      repeat (refine hP _ ?_; conv => whnf)
      refine ⟨fun _ => ?_, fun h1 => absurd (show nI 0 - 1 < 0 by decide) h1⟩
      repeat (refine hP _ ?_; conv => whnf)
      have e := hk J (by simpa [octs] using hJ) hF
      rw [Nat.add_zero, ← hJ.1] at e
      exact e
    | succ m ih =>
      intro t J hJ hm hF hk
      rw [nI_pred]
      repeat (refine hP _ ?_; conv => whnf)
      refine ⟨fun h1 => absurd h1 (nI_pos (by omega)), fun _ => ?_⟩
      repeat (refine hP _ ?_; conv => whnf)
      rw [hJ.1]
      refine ⟨vp_in_nI (by omega) (by omega), ?_⟩
      rw [nI_clamp (by omega)]
      iterate 8 (refine hP _ ?_; conv => whnf)
      have hj2 := TxM_push (o := ov v m) hJ (ov_byte _) (by omega)
      have e := ih (t ++ [ov v m]) _ hj2 (by simp; omega) ((hF.up (by simp [S_mt])).up (by simp [S_mt])) (fun I' h1 h2 => by
        have e := hk I' (by simpa [octs] using h1) h2
        rw [show t.length + (m + 1) = (t ++ [ov v m]).length + m by simp; omega] at e
        exact e)
      have e1 : ∀ x, m_up J 32 t.length x 30 2 + 1 = nI (t.length + 1) := fun x => by rw [m_upr, if_neg (by decide), hJ.1, nI_1]
      rw [← e1] at e
      rw [show nI m - 1 = nI m + -1 from by rw [Int32.sub_eq_add_neg]] at e
      exact e
  repeat (refine hP _ ?_; conv => whnf)
  refine ⟨fun q => ?_, fun q0 => ?_⟩
  · repeat (refine hP _ ?_; conv => whnf)
    exact h1 (Or.inl q)
  · repeat (refine hP _ ?_; conv => whnf)
    refine ⟨fun q => ?_, fun q8 => ?_⟩
    · repeat (refine hP _ ?_; conv => whnf)
      exact h1 (Or.inr q)
    · repeat (refine hP _ ?_; conv => whnf)
      refine ⟨fun q => ?_, fun qz => ?_⟩
      · subst q
        repeat (refine hP _ ?_; conv => whnf)
        refine ⟨fun q => absurd q (by rw [m_upr, if_pos rfl, if_pos rfl]; decide), fun _ => ?_⟩
        repeat (refine hP _ ?_; conv => whnf)
        refine ⟨fun _ => ?_, fun q => absurd (show (0 : Int32) - 1 < 0 by decide) q⟩
        repeat (refine hP _ ?_; conv => whnf)
        exact h2 rfl
      · obtain ⟨k, hk1, hk8, rfl⟩ := n_1to8 q0 q8 qz
        repeat (refine hP _ ?_; conv => whnf)
        rw [h.1, nI_add]
        refine ⟨fun q => ?_, fun q => ?_⟩
        · repeat (refine hP _ ?_; conv => whnf)
          have := (nI_ltI (a := 3000) (by omega) (by omega)).mp q
          exact h3 k hk1 hk8 rfl this
        · have hfit : tx.length + k ≤ 3000 := by
            by_cases hf : tx.length + k ≤ 3000
            · exact hf
            · exact absurd (nI_lt (a := 3000) (b := tx.length + k) (by omega) (by omega)) q
          iterate 4 (refine hP _ ?_; conv => whnf)
          exact loop k k tx I h hfit Fr.rf (h4 k hk1 hk8 rfl hfit)
end
section
/-! ===== tokens: what they are ===== -/
def qB (x : Int32) : Bool := x == 32 || x == 9 || x == 10 || x == 13
def qN (x : Int32) : Bool := isSm x == 1 || isFg x == 1
def qF (x : Int32) : Bool := isFg x == 1
def qT (x : Int32) : Bool := isTs x == 1
def scanF (q : Int32 → Bool) (tx : List Nat) : Nat → Nat → Nat
  | 0, i => i
  | m + 1, i => if q (toc tx i) = true then scanF q tx m (i + 1) else i
def scan (q : Int32 → Bool) (tx : List Nat) (i : Nat) : Nat := scanF q tx (tx.length - i) i
theorem scan_lt {q : Int32 → Bool} {tx : List Nat} {i : Nat} (h : i < tx.length) : scan q tx i = if q (toc tx i) = true then scan q tx (i + 1) else i := by
  unfold scan
  rw [show tx.length - i = (tx.length - (i + 1)) + 1 by omega]
  rfl
theorem scan_ge {q : Int32 → Bool} {tx : List Nat} {i : Nat} (h : tx.length ≤ i) : scan q tx i = i := by
  unfold scan
  rw [show tx.length - i = 0 by omega]
  rfl
theorem scan_bd (q : Int32 → Bool) (tx : List Nat) : ∀ (m i : Nat), i + m = tx.length → i ≤ scan q tx i ∧ scan q tx i ≤ tx.length
  | 0, i, h => by rw [scan_ge (by omega)]; omega
  | m + 1, i, h => by
    rw [scan_lt (by omega)]
    have := scan_bd q tx m (i + 1) (by omega)
    split <;> omega
theorem scan_le {q : Int32 → Bool} {tx : List Nat} {i : Nat} (h : i ≤ tx.length) : i ≤ scan q tx i ∧ scan q tx i ≤ tx.length := scan_bd q tx (tx.length - i) i (by omega)
theorem toc_ge {tx : List Nat} {i : Nat} (h : tx.length ≤ i) : toc tx i = -1 := by unfold toc; rw [if_neg (by omega)]
theorem isSm_01 (x : Int32) : isSm x = 0 ∨ isSm x = 1 := by
  unfold isSm
  split
  · exact Or.inl rfl
  · split
    · exact Or.inl rfl
    · exact Or.inr rfl
theorem isFg_01 (x : Int32) : isFg x = 0 ∨ isFg x = 1 := by
  unfold isFg
  split
  · exact Or.inl rfl
  · split
    · exact Or.inl rfl
    · exact Or.inr rfl
theorem isTs_01 (x : Int32) : isTs x = 0 ∨ isTs x = 1 := by
  unfold isTs
  split
  · split
    · split
      · exact Or.inl rfl
      · split
        · exact Or.inl rfl
        · exact Or.inr rfl
    · exact Or.inr rfl
  · exact Or.inr rfl
theorem c_behindBlanks {XL : Nat} {XS : Nat → Int32} {n : Nat} {C : mC} {I : Nat → Nat → Int32} {L : Nat → Nat → Int64} {K : mK} {tx : List Nat} {i0 : Nat} (hC : m_Ge XL XS (n + 2) C) (ht : TxOk tx) (h : TxC tx I) (hi0 : i0 ≤ tx.length) (hK : K (some (.int (nI (scan qB tx i0)))) (m_SH, I, L)) : C 64 [.ref 1, .int (nI i0)] (m_SH, I, L) K := by
  have hl := ht.1
  refine e_X6_behindBlanks hC (Nat.le_of_ble_eq_true rfl) ?_
  intro C' hC' P hP
  have loop : ∀ (m i : Nat) (d3 : Option Value), i + m = tx.length → K (some (.int (nI (scan qB tx i)))) (m_SH, I, L) → P (2, [some (.ref 1), some (.int (nI i0)), some (.int (nI i)), d3], [], (m_SH, I, L), 0, 0) := by
    intro m
    induction m with
    | zero =>
      intro i d3 hi hk
      repeat (refine hP _ ?_; conv => whnf)
      rw [h.1]
      refine ⟨fun h1 => absurd h1 (nI_nlt (by omega) (by omega)), fun _ => ?_⟩
      repeat (refine hP _ ?_; conv => whnf)
      rw [scan_ge (by omega), show i = tx.length by omega, ← h.1] at hk
      exact hk
    | succ m ih =>
      intro i d3 hi hk
      repeat (refine hP _ ?_; conv => whnf)
      rw [h.1]
      refine ⟨fun _ => ?_, fun h1 => absurd (nI_lt (by omega) (by omega)) h1⟩
      repeat (refine hP _ ?_; conv => whnf)
      refine c_at' hC' ht h (by omega) ?_
      rw [scan_lt (by omega)] at hk
      repeat (refine hP _ ?_; conv => whnf)
      have go : qB (toc tx i) = true → P (42, [some (.ref 1), some (.int (nI i0)), some (.int (nI i)), some (.int (toc tx i))], [], (m_SH, I, L), 0, 0) := by
        intro hq
        rw [if_pos hq] at hk
        iterate 2 (refine hP _ ?_; conv => whnf)
        have e := ih (i + 1) (some (.int (toc tx i))) (by omega) hk
        rw [← nI_1] at e
        exact e
      refine ⟨fun q => go (by simp [qB, q]), fun q1 => ?_⟩
      repeat (refine hP _ ?_; conv => whnf)
      refine ⟨fun q => go (by simp [qB, q]), fun q2 => ?_⟩
      repeat (refine hP _ ?_; conv => whnf)
      refine ⟨fun q => go (by simp [qB, q]), fun q3 => ?_⟩
      repeat (refine hP _ ?_; conv => whnf)
      refine ⟨fun q => go (by simp [qB, q]), fun q4 => ?_⟩
      repeat (refine hP _ ?_; conv => whnf)
      rw [if_neg (by simp [qB, q1, q2, q3, q4])] at hk
      exact hk
  iterate 2 (refine hP _ ?_; conv => whnf)
  exact loop (tx.length - i0) i0 none (by omega) hK
theorem nar_b : ∀ k, k < 128 → vp_nar .byte (nI k).toInt8.toInt32 = nI k := by decide +kernel
theorem nar_s (k : Nat) (hk : k < 3001) : vp_nar .short (nI k).toInt16.toInt32 = nI k := by
  have h : ∀ a b : Fin 55, vp_nar .short (nI (a.val * 55 + b.val)).toInt16.toInt32 = nI (a.val * 55 + b.val) := by decide +kernel
  have := h ⟨k / 55, by omega⟩ ⟨k % 55, by omega⟩
  simp only at this
  rw [show k / 55 * 55 + k % 55 = k by omega] at this
  exact this
def keepI (k p c : Nat) (I : Nat → Nat → Int32) : Nat → Nat → Int32 := m_up (m_up (m_up I 4 c (nI k)) 5 c (nI p)) 3 4 (nI (c + 1))
theorem c_keep {XL : Nat} {XS : Nat → Int32} {n : Nat} {C : mC} {I : Nat → Nat → Int32} {L : Nat → Nat → Int64} {K : mK} {k p c : Nat} {v : Int64} (hC : m_Ge XL XS (n + 1) C) (hk : k < 128) (hp : p < 3001) (hc : I 3 4 = nI c) (hc2 : c < 3001) (hK : K none (m_SH, keepI k p c I, m_upL L 6 c v)) : C 74 [.ref 3, .int (nI k), .int (nI p), .long v] (m_SH, I, L) K := by
  refine e_X6_keep hC (Nat.le_of_ble_eq_true rfl) ?_
  intro C' hC' P hP
  repeat (refine hP _ ?_; conv => whnf)
  rw [hc]
  refine ⟨fun _ => ?_, fun q => absurd (show nI c < 3001 from nI_lt (a := c) (b := 3001) (by omega) (by omega)) q⟩
  repeat (refine hP _ ?_; conv => whnf)
  rw [hc, nar_b k hk]
  refine ⟨vp_in_nI (by omega) (by omega), ?_⟩
  rw [nI_clamp (by omega)]
  repeat (refine hP _ ?_; conv => whnf)
  have e1 : ∀ x, m_up I 4 c x 3 4 = nI c := fun x => by rw [m_upr, if_neg (by decide), hc]
  rw [e1, nar_s p hp]
  refine ⟨vp_in_nI (by omega) (by omega), ?_⟩
  rw [nI_clamp (by omega)]
  repeat (refine hP _ ?_; conv => whnf)
  have e2 : ∀ x y, m_up (m_up I 4 c x) 5 c y 3 4 = nI c := fun x y => by rw [m_upr, if_neg (by decide), e1]
  rw [e2]
  refine ⟨vp_in_nI (by omega) (by omega), ?_⟩
  rw [nI_clamp (by omega)]
  repeat (refine hP _ ?_; conv => whnf)
  unfold keepI at hK
  rw [← nI_1, ← e2 (nI k) (nI p)] at hK
  exact hK
end
section
/-! ===== the class cuts a token ===== -/
def pkB (B : Nat) (l : List Nat) : Nat := l.foldl (fun a c => a * B + c) 0
def slice (tx : List Nat) (i e : Nat) : List Nat := (tx.drop i).take (e - i)
def wordL : List (List Nat) := m_strT.map (fun t => t.toList.map Char.toNat)
/-- the words' numbers, from 0; 15 where there is none -/
def wordIx (cs : List Nat) : Nat := wordL.idxOf cs
def decV (l : List Nat) : Nat := l.foldl (fun a c => a * 10 + (c - 48)) 0
/-- kind, place, signs, number, end -/
abbrev Tok : Type := Nat × Nat × List Nat × Nat × Nat
def sgN (x : Int32) : Nat := if x = 44 then 23 else if x = 45 then 25 else if x = 58 then 21 else if x = 59 then 22 else if x = 61 then 24 else if x = 123 then 19 else if x = 125 then 20 else 28
theorem sgK_N (x : Int32) : sgK x = nI (sgN x) := by
  unfold sgK sgN
  repeat' split
  all_goals rfl
def tokAt (tx : List Nat) (i : Nat) : Tok :=
  if tx.length ≤ i then (27, i, [], 0, i)
  else if isSm (toc tx i) = 1 then (if 8 < scan qN tx i - i then (28, i, [], 0, i) else (wordIx (slice tx i (scan qN tx i)) + 1, i, slice tx i (scan qN tx i), 0, scan qN tx i))
  else if isFg (toc tx i) = 1 then (if 9 < scan qF tx i - i then (28, i, [], 0, i) else (17, i, [], decV (slice tx i (scan qF tx i)), scan qF tx i))
  else if toc tx i = 34 then (if toc tx (scan qT tx (i + 1)) = 34 ∧ scan qT tx (i + 1) - (i + 1) ≤ 8 then (18, i, slice tx (i + 1) (scan qT tx (i + 1)), 0, scan qT tx (i + 1) + 1) else (28, i, [], 0, i))
  else if toc tx i = 45 ∧ toc tx (i + 1) = 62 then (26, i, [], 0, i + 2)
  else if sgN (toc tx i) = 28 then (28, i, [], 0, i) else (sgN (toc tx i), i, [], 0, i + 1)
theorem slice_succ {tx : List Nat} {i e : Nat} (h : i < e) (he : e ≤ tx.length) : slice tx i e = tx.getD i 0 :: slice tx (i + 1) e := by
  unfold slice
  have hi : i < tx.length := by omega
  rw [List.drop_eq_getElem_cons hi, show e - i = (e - (i + 1)) + 1 by omega, List.take_succ_cons]
  simp [List.getD_eq_getElem?_getD, List.getElem?_eq_getElem hi]
theorem slice_nil {tx : List Nat} {i e : Nat} (h : e ≤ i) : slice tx i e = [] := by
  unfold slice
  rw [show e - i = 0 by omega]
  rfl
theorem foldB (B : Nat) : ∀ (l : List Nat) (a : Nat), l.foldl (fun a c => a * B + c) a = a * B ^ l.length + pkB B l
  | [], a => by simp [pkB]
  | c :: r, a => by
    simp only [List.foldl_cons, List.length_cons, pkB]
    rw [foldB B r (a * B + c), foldB B r (0 * B + c)]
    rw [Nat.pow_succ, Nat.add_mul, Nat.zero_mul, Nat.zero_add, Nat.mul_assoc, Nat.mul_comm B (B ^ r.length), Nat.add_assoc]
theorem pkB_cons (B c : Nat) (r : List Nat) : pkB B (c :: r) = c * B ^ r.length + pkB B r := by
  show r.foldl (fun a c => a * B + c) (0 * B + c) = _
  rw [foldB B r, Nat.zero_mul, Nat.zero_add]
theorem pkB_lt {B : Nat} : ∀ (l : List Nat), (∀ c ∈ l, c < B) → pkB B l < B ^ l.length
  | [], _ => by simp [pkB]
  | c :: r, h => by
    rw [pkB_cons, List.length_cons, Nat.pow_succ]
    have h1 := pkB_lt r (fun x hx => h x (List.mem_cons_of_mem _ hx))
    have h2 := h c List.mem_cons_self
    have h3 : (c + 1) * B ^ r.length ≤ B * B ^ r.length := Nat.mul_le_mul_right _ (by omega)
    rw [Nat.add_mul, Nat.one_mul] at h3
    rw [Nat.mul_comm (B ^ r.length) B]
    omega
/-- signs that aren't 0 are told apart by what is packed of them -/
theorem pkB_inj {B : Nat} : ∀ (l k : List Nat), (∀ c ∈ l, 0 < c ∧ c < B) → (∀ c ∈ k, 0 < c ∧ c < B) → pkB B l = pkB B k → l = k := by
  have pos : ∀ (c : Nat) (r : List Nat), 0 < c → B ^ r.length ≤ pkB B (c :: r) := by
    intro c r h
    rw [pkB_cons]
    have : 1 * B ^ r.length ≤ c * B ^ r.length := Nat.mul_le_mul_right _ h
    omega
  have lenEq : ∀ (l k : List Nat), (∀ c ∈ l, 0 < c ∧ c < B) → (∀ c ∈ k, 0 < c ∧ c < B) → pkB B l = pkB B k → l.length = k.length := by
    intro l k hl hk he
    have key : ∀ (l k : List Nat), (∀ c ∈ l, 0 < c ∧ c < B) → (∀ c ∈ k, 0 < c ∧ c < B) → l.length < k.length → pkB B l < pkB B k := by
      intro l k hl hk hlt
      cases k with
      | nil => simp at hlt
      | cons c r =>
        have h1 := pkB_lt l (fun x hx => (hl x hx).2)
        have h2 := pos c r (hk c List.mem_cons_self).1
        have h3 : B ^ l.length ≤ B ^ r.length := Nat.pow_le_pow_right (by have := hk c List.mem_cons_self; omega) (by simp only [List.length_cons] at hlt; omega)
        omega
    rcases Nat.lt_trichotomy l.length k.length with h | h | h
    · have := key l k hl hk h; omega
    · exact h
    · have := key k l hk hl h; omega
  intro l
  induction l with
  | nil =>
    intro k hl hk he
    have := lenEq [] k hl hk he
    cases k with
    | nil => rfl
    | cons c r => simp at this
  | cons c r ih =>
    intro k hl hk he
    have hlen := lenEq (c :: r) k hl hk he
    cases k with
    | nil => simp at hlen
    | cons c2 r2 =>
      simp only [List.length_cons, Nat.add_right_cancel_iff] at hlen
      rw [pkB_cons, pkB_cons, hlen] at he
      have h1 := pkB_lt r (fun x hx => (hl x (List.mem_cons_of_mem _ hx)).2)
      have h2 := pkB_lt r2 (fun x hx => (hk x (List.mem_cons_of_mem _ hx)).2)
      rw [hlen] at h1
      have hp : 0 < B ^ r2.length := Nat.lt_of_le_of_lt (Nat.zero_le _) h2
      have hc : c = c2 := by
        have e1 : (c * B ^ r2.length + pkB B r) / B ^ r2.length = c := by
          rw [Nat.mul_comm, Nat.mul_add_div hp, Nat.div_eq_of_lt h1, Nat.add_zero]
        have e2 : (c2 * B ^ r2.length + pkB B r2) / B ^ r2.length = c2 := by
          rw [Nat.mul_comm, Nat.mul_add_div hp, Nat.div_eq_of_lt h2, Nat.add_zero]
        rw [← e1, ← e2, he]
      subst hc
      have hr : pkB B r = pkB B r2 := by omega
      rw [ih r2 (fun x hx => hl x (List.mem_cons_of_mem _ hx)) (fun x hx => hk x (List.mem_cons_of_mem _ hx)) hr]
theorem toc_lt {tx : List Nat} {i : Nat} (h : i < tx.length) : toc tx i = nI (tx.getD i 0) := by unfold toc; rw [if_pos h]
theorem tx_lt {tx : List Nat} (ht : TxOk tx) (i : Nat) : tx.getD i 0 < 256 := by
  rw [List.getD_eq_getElem?_getD]
  cases h : tx[i]? with
  | none => simp
  | some c => simpa using ht.2 c (List.mem_of_getElem? h)
/-- eight signs at the most, packed, are a long -/
theorem pkF_eq {tx : List Nat} (ht : TxOk tx) : ∀ (m i a : Nat), i + m ≤ tx.length → a * 256 ^ m + pkB 256 (slice tx i (i + m)) < 2 ^ 64 → pkF tx m i (lN a) = lN (a * 256 ^ m + pkB 256 (slice tx i (i + m)))
  | 0, i, a, h, hb => by simp [pkF, slice, pkB]
  | m + 1, i, a, h, hb => by
    have hs := slice_succ (tx := tx) (i := i) (e := i + (m + 1)) (by omega) (by omega)
    rw [show i + (m + 1) = i + 1 + m by omega] at hs hb ⊢
    have hlen : (slice tx (i + 1) (i + 1 + m)).length = m := by
      unfold slice
      rw [List.length_take, List.length_drop]
      omega
    rw [hs, pkB_cons, hlen] at hb ⊢
    have hc := tx_lt ht i
    have e0 : a * 256 ^ (m + 1) = a * 256 * 256 ^ m := by rw [Nat.pow_succ, Nat.mul_comm (256 ^ m) 256, Nat.mul_assoc]
    rw [e0] at hb ⊢
    have e1 : a * 256 * 256 ^ m + (tx.getD i 0 * 256 ^ m + pkB 256 (slice tx (i + 1) (i + 1 + m))) = (a * 256 + tx.getD i 0) * 256 ^ m + pkB 256 (slice tx (i + 1) (i + 1 + m)) := by
      rw [Nat.add_mul]
      exact (Nat.add_assoc _ _ _).symm
    rw [e1] at hb ⊢
    have ha : a * 256 + tx.getD i 0 < 2 ^ 64 := by
      have : (a * 256 + tx.getD i 0) * 1 ≤ (a * 256 + tx.getD i 0) * 256 ^ m := Nat.mul_le_mul_left _ (Nat.pow_pos (by decide))
      omega
    have e2 : (lN a <<< ((8 : Int32).toInt64 &&& 63)) ||| (toc tx i).toInt64 = lN (a * 256 + tx.getD i 0) := by
      have s1 : lN a <<< ((8 : Int32).toInt64 &&& 63) = lN (a * 256) := wb_shl a (k := 8) (by decide)
      have s2 : a * 256 < 2 ^ 64 := Nat.lt_of_le_of_lt (Nat.le_add_right _ _) ha
      have s3 : tx.getD i 0 < 2 ^ 64 := Nat.lt_trans hc (by decide)
      rw [toc_lt (by omega), nI_l (Nat.lt_trans hc (by decide)), s1, wb_or s2 s3]
      congr 1
      rw [Nat.mul_comm a 256]
      exact (Nat.two_pow_add_eq_or_of_lt (i := 8) hc a).symm
    show pkF tx m (i + 1) _ = _
    rw [e2]
    exact pkF_eq ht m (i + 1) _ (by omega) hb
end
section
theorem slice_len {tx : List Nat} {i e : Nat} (he : e ≤ tx.length) : (slice tx i e).length = e - i := by
  unfold slice
  rw [List.length_take, List.length_drop]
  omega
theorem slice_mem {tx : List Nat} {i e c : Nat} (h : c ∈ slice tx i e) : c ∈ tx := List.mem_of_mem_drop (List.mem_of_mem_take h)
theorem pk8_lt {tx : List Nat} (ht : TxOk tx) {i e : Nat} (he : e ≤ tx.length) (h8 : e - i ≤ 8) : pkB 256 (slice tx i e) < 2 ^ 64 := by
  have h1 := pkB_lt (B := 256) (slice tx i e) (fun c hc => ht.2 c (slice_mem hc))
  rw [slice_len he] at h1
  have h2 : 256 ^ (e - i) ≤ 256 ^ 8 := Nat.pow_le_pow_right (by decide) h8
  have h3 : (256 : Nat) ^ 8 = 2 ^ 64 := by decide
  omega
theorem pkF_0 {tx : List Nat} (ht : TxOk tx) {i e : Nat} (hie : i ≤ e) (he : e ≤ tx.length) (h8 : e - i ≤ 8) : pkF tx (e - i) i 0 = lN (pkB 256 (slice tx i e)) := by
  have h := pkF_eq ht (e - i) i 0 (by omega) (by rw [Nat.zero_mul, Nat.zero_add, show i + (e - i) = e by omega]; exact pk8_lt ht he h8)
  rw [Nat.zero_mul, Nat.zero_add, show i + (e - i) = e by omega] at h
  exact h
/-- the signs of a name -/
theorem scan_all {q : Int32 → Bool} {tx : List Nat} : ∀ (m i : Nat), i + m = tx.length → ∀ c ∈ slice tx i (scan q tx i), q (nI c) = true
  | 0, i, h, c, hc => by rw [scan_ge (by omega), slice_nil (Nat.le_refl _)] at hc; simp at hc
  | m + 1, i, h, c, hc => by
    rw [scan_lt (by omega)] at hc
    by_cases hq : q (toc tx i) = true
    · rw [if_pos hq] at hc
      have hb := scan_bd q tx m (i + 1) (by omega)
      rw [slice_succ (by omega) hb.2] at hc
      rcases List.mem_cons.mp hc with rfl | hc
      · rw [← toc_lt (by omega)]; exact hq
      · exact scan_all m (i + 1) (by omega) c hc
    · rw [if_neg hq, slice_nil (Nat.le_refl _)] at hc; simp at hc
theorem qN_rng : ∀ c, c < 256 → qN (nI c) = true → (48 ≤ c ∧ c ≤ 57) ∨ (97 ≤ c ∧ c ≤ 122) := by decide +kernel
theorem qF_rng : ∀ c, c < 256 → qF (nI c) = true → 48 ≤ c ∧ c ≤ 57 := by decide +kernel
theorem qT_rng : ∀ c, c < 256 → qT (nI c) = true → (48 ≤ c ∧ c ≤ 57) ∨ (65 ≤ c ∧ c ≤ 90) ∨ (97 ≤ c ∧ c ≤ 122) := by decide +kernel
def NmOk (cs : List Nat) : Prop := cs.length ≤ 8 ∧ ∀ c ∈ cs, 0 < c ∧ c < 128
theorem nm_slice {tx : List Nat} (ht : TxOk tx) {i : Nat} (hi : i ≤ tx.length) (h8 : scan qN tx i - i ≤ 8) : NmOk (slice tx i (scan qN tx i)) := by
  have hb := scan_le (q := qN) hi
  refine ⟨by rw [slice_len hb.2]; exact h8, fun c hc => ?_⟩
  have h1 := scan_all (q := qN) (tx := tx) (tx.length - i) i (by omega) c hc
  have h2 := ht.2 c (slice_mem hc)
  rcases qN_rng c h2 h1 with h | h <;> omega
theorem tx_slice {tx : List Nat} (ht : TxOk tx) {i : Nat} (hi : i ≤ tx.length) (h8 : scan qT tx i - i ≤ 8) : NmOk (slice tx i (scan qT tx i)) := by
  have hb := scan_le (q := qT) hi
  refine ⟨by rw [slice_len hb.2]; exact h8, fun c hc => ?_⟩
  have h1 := scan_all (q := qT) (tx := tx) (tx.length - i) i (by omega) c hc
  have h2 := ht.2 c (slice_mem hc)
  rcases qT_rng c h2 h1 with h | h | h <;> omega
theorem wordL_ok : ∀ w ∈ wordL, NmOk w := by
  have : ∀ w ∈ wordL, w.length ≤ 8 ∧ ∀ c ∈ w, 0 < c ∧ c < 128 := by decide +kernel
  exact this
theorem nm_inj8 {a b : List Nat} (ha : NmOk a) (hb : NmOk b) : lN (pkB 256 a) = lN (pkB 256 b) ↔ a = b := by
  have lt : ∀ a, NmOk a → pkB 256 a < 2 ^ 64 := by
    intro a ha
    have h1 := pkB_lt (B := 256) a (fun c hc => by have := ha.2 c hc; omega)
    have h2 : 256 ^ a.length ≤ 256 ^ 8 := Nat.pow_le_pow_right (by decide) ha.1
    have h3 : (256 : Nat) ^ 8 = 2 ^ 64 := by decide
    omega
  constructor
  · intro h
    have := congrArg (fun x => x.toBitVec.toNat) h
    simp only [wb_tn (lt a ha), wb_tn (lt b hb)] at this
    exact pkB_inj a b (fun c hc => by have := ha.2 c hc; omega) (fun c hc => by have := hb.2 c hc; omega) this
  · intro h; rw [h]
theorem nm_inj7 {a b : List Nat} (ha : NmOk a) (hb : NmOk b) : lN (pkB 128 a) = lN (pkB 128 b) ↔ a = b := by
  have lt : ∀ a, NmOk a → pkB 128 a < 2 ^ 64 := by
    intro a ha
    have h1 := pkB_lt (B := 128) a (fun c hc => (ha.2 c hc).2)
    have h2 : 128 ^ a.length ≤ 128 ^ 8 := Nat.pow_le_pow_right (by decide) ha.1
    have h3 : (128 : Nat) ^ 8 < 2 ^ 64 := by decide
    omega
  constructor
  · intro h
    have := congrArg (fun x => x.toBitVec.toNat) h
    simp only [wb_tn (lt a ha), wb_tn (lt b hb)] at this
    exact pkB_inj a b ha.2 hb.2 this
  · intro h; rw [h]
theorem beq_of_iff {x y : Int64} {p : Prop} [Decidable p] (h : x = y ↔ p) : (x == y) = decide p := by
  by_cases hp : p
  · rw [decide_eq_true hp]; exact beq_iff_eq.mpr (h.mpr hp)
  · rw [decide_eq_false hp]; exact beq_eq_false_iff_ne.mpr (fun q => hp (h.mp q))
/-- seeking in a row of packed names is seeking among the names -/
theorem srch_idx {f : Nat → Bool} {cs : List Nat} : ∀ (ns : List (List Nat)) (i : Nat), (∀ j, j < ns.length → f (i + j) = decide (ns.getD j [] = cs)) → srch f ns.length i = if cs ∈ ns then nI (i + ns.idxOf cs) else -1
  | [], i, h => by simp [srch]
  | x :: r, i, h => by
    have h0 := h 0 (by simp)
    simp only [Nat.add_zero, List.getD_cons_zero] at h0
    simp only [List.length_cons, srch, h0, decide_eq_true_eq]
    by_cases hx : x = cs
    · subst hx
      simp
    · have ih := srch_idx (f := f) (cs := cs) r (i + 1) (fun j hj => by
        have := h (j + 1) (by simp; omega)
        rw [show i + 1 + j = i + (j + 1) by omega, this]
        simp)
      rw [if_neg hx, ih]
      have hx2 : ¬ cs = x := fun q => hx q.symm
      simp only [List.mem_cons, hx2, false_or]
      by_cases hm : cs ∈ r
      · rw [if_pos hm, if_pos hm, List.idxOf_cons]
        have : (x == cs) = false := by simp [hx]
        rw [this]
        simp only [cond_false]
        congr 1
        omega
      · rw [if_neg hm, if_neg hm]
/-- the words, as the class has them -/
def WdC (L : Nat → Nat → Int64) : Prop := ∀ j, j < 15 → L 7 j = lN (pkB 256 (wordL.getD j []))
def WdM (L : Nat → Nat → Int64) : Prop := ∀ j, j < 15 → L 31 j = lN (pkB 128 (wordL.getD j []))
theorem wordL_len : wordL.length = 15 := by decide +kernel
theorem wordL_get {j : Nat} (h : j < 15) : NmOk (wordL.getD j []) := by
  apply wordL_ok
  rw [List.getD_eq_getElem?_getD, List.getElem?_eq_getElem (by rw [wordL_len]; exact h)]
  exact List.getElem_mem _
theorem word_srch8 {L : Nat → Nat → Int64} (hw : WdC L) {cs : List Nat} (hcs : NmOk cs) : srch (fun j => L 7 j == lN (pkB 256 cs)) 15 0 = if cs ∈ wordL then nI (wordIx cs) else -1 := by
  have := srch_idx (f := fun j => L 7 j == lN (pkB 256 cs)) (cs := cs) wordL 0 (fun j hj => by
    rw [wordL_len] at hj
    simp only [Nat.zero_add, hw j hj]
    exact beq_of_iff (nm_inj8 (wordL_get hj) hcs))
  rw [wordL_len, Nat.zero_add] at this
  exact this
theorem wordIx_in {cs : List Nat} (h : cs ∈ wordL) : wordIx cs < 15 := by
  have := List.idxOf_lt_length_iff.mpr h
  rw [wordL_len] at this
  exact this
theorem wordIx_out {cs : List Nat} (h : ¬ cs ∈ wordL) : wordIx cs = 15 := by
  have := List.idxOf_eq_length h
  rw [wordL_len] at this
  exact this
theorem nI_nm1 {j : Nat} (h : j < 2 ^ 31) : ¬ nI j = -1 := fun q => by
  have := congrArg Int32.toInt q
  rw [nI_toInt h] at this
  have h1 : (-1 : Int32).toInt = -1 := rfl
  omega
theorem c_nameKind' {XL : Nat} {XS : Nat → Int32} {n : Nat} {C : mC} {I : Nat → Nat → Int32} {L : Nat → Nat → Int64} {K : mK} {cs : List Nat} (hC : m_Ge XL XS (n + 1) C) (hw : WdC L) (hcs : NmOk cs) (hK : K (some (.int (nI (wordIx cs + 1)))) (m_SH, I, L)) : C 67 [.ref 3, .long (lN (pkB 256 cs))] (m_SH, I, L) K := by
  refine c_nameKind hC ?_
  rw [word_srch8 hw hcs]
  by_cases h : cs ∈ wordL
  · have h1 := wordIx_in h
    rw [if_pos h, if_neg (nI_nm1 (by omega)), show (1 : Int32) = nI 1 from rfl, nI_add, Nat.add_comm]
    exact hK
  · rw [if_neg h, if_pos rfl]
    rw [wordIx_out h] at hK
    exact hK
end
section
/-! ===== the class cuts THE TEXT ===== -/
def cval (t : Tok) : Int64 := if t.1 = 17 then lN t.2.2.2.1 else lN (pkB 256 t.2.2.1)
theorem qN_iff {x : Int32} : qN x = true ↔ (¬ isSm x = 0 ∨ ¬ isFg x = 0) := by
  unfold qN
  rcases isSm_01 x with h | h <;> rcases isFg_01 x with h2 | h2 <;> simp [h, h2]
theorem qF_iff {x : Int32} : qF x = true ↔ ¬ isFg x = 0 := by
  unfold qF
  rcases isFg_01 x with h2 | h2 <;> simp [h2]
theorem qT_iff {x : Int32} : qT x = true ↔ ¬ isTs x = 0 := by
  unfold qT
  rcases isTs_01 x with h2 | h2 <;> simp [h2]
theorem sub_nI {a b : Nat} (h : b ≤ a) : nI a - nI b = nI (a - b) := pk_sub h
theorem c_cutName {XL : Nat} {XS : Nat → Int32} {n : Nat} {C : mC} {I : Nat → Nat → Int32} {L : Nat → Nat → Int64} {K : mK} {tx : List Nat} {i0 c : Nat} (hC : m_Ge XL XS (n + 3) C) (ht : TxOk tx) (h : TxC tx I) (hw : WdC L) (hi0 : i0 < tx.length) (hc : I 3 4 = nI c) (hc2 : c < 3001)
    (hbad : 8 < scan qN tx i0 - i0 → K (some (.int (nI i0))) (m_SH, I, L))
    (hok : ¬ 8 < scan qN tx i0 - i0 → K (some (.int (nI (scan qN tx i0)))) (m_SH, keepI (wordIx (slice tx i0 (scan qN tx i0)) + 1) i0 c I, m_upL L 6 c (lN (pkB 256 (slice tx i0 (scan qN tx i0)))))) : C 66 [.ref 3, .ref 1, .int (nI i0)] (m_SH, I, L) K := by
  have hl := ht.1
  have hb := scan_le (q := qN) (tx := tx) (i := i0) (by omega)
  refine e_X6_cutName hC (Nat.le_of_ble_eq_true rfl) ?_
  intro C' hC' P hP
  have hex : P (38, [some (.ref 3), some (.ref 1), some (.int (nI i0)), some (.int (nI (scan qN tx i0))), none, none], [], (m_SH, I, L), 0, 0) := by
    repeat (refine hP _ ?_; conv => whnf)
    rw [sub_nI hb.1]
    refine ⟨fun q => ?_, fun q => ?_⟩
    · repeat (refine hP _ ?_; conv => whnf)
      exact hbad ((nI_ltI (a := 8) (by omega) (by omega)).mp q)
    · have h8 : ¬ 8 < scan qN tx i0 - i0 := fun z => q (nI_lt (a := 8) z (by omega))
      repeat (refine hP _ ?_; conv => whnf)
      refine c_packed hC' ht h hb.1 (by omega) ?_
      rw [pkF_0 ht hb.1 hb.2 (by omega)]
      have hcs := nm_slice ht (i := i0) (by omega) (by omega)
      repeat (refine hP _ ?_; conv => whnf)
      refine c_nameKind' hC' hw hcs ?_
      repeat (refine hP _ ?_; conv => whnf)
      have hwx : wordIx (slice tx i0 (scan qN tx i0)) ≤ 15 := by
        by_cases hm : slice tx i0 (scan qN tx i0) ∈ wordL
        · have := wordIx_in hm; omega
        · rw [wordIx_out hm]; omega
      refine c_keep hC' (by omega) (by omega) hc hc2 ?_
      repeat (refine hP _ ?_; conv => whnf)
      exact hok h8
  have loop : ∀ (m j : Nat), j + m = tx.length → scan qN tx j = scan qN tx i0 → P (2, [some (.ref 3), some (.ref 1), some (.int (nI i0)), some (.int (nI j)), none, none], [], (m_SH, I, L), 0, 0) := by
    intro m
    induction m with
    | zero =>
      intro j hj hs
      repeat (refine hP _ ?_; conv => whnf)
      rw [h.1]
      refine ⟨fun h1 => absurd h1 (nI_nlt (by omega) (by omega)), fun _ => ?_⟩
      rw [scan_ge (by omega)] at hs
      rw [← hs] at hex
      exact hex
    | succ m ih =>
      intro j hj hs
      repeat (refine hP _ ?_; conv => whnf)
      rw [h.1]
      refine ⟨fun _ => ?_, fun h1 => absurd (nI_lt (by omega) (by omega)) h1⟩
      repeat (refine hP _ ?_; conv => whnf)
      refine c_at' hC' ht h (by omega) ?_
      repeat (refine hP _ ?_; conv => whnf)
      refine c_isSmall hC' ?_
      rw [scan_lt (by omega)] at hs
      have go : qN (toc tx j) = true → P (32, [some (.ref 3), some (.ref 1), some (.int (nI i0)), some (.int (nI j)), none, none], [], (m_SH, I, L), 0, 0) := by
        intro hq
        rw [if_pos hq] at hs
        iterate 2 (refine hP _ ?_; conv => whnf)
        have e := ih (j + 1) (by omega) hs
        rw [← nI_1] at e
        exact e
      repeat (refine hP _ ?_; conv => whnf)
      refine ⟨fun q => ?_, fun q => go (qN_iff.mpr (Or.inl q))⟩
      repeat (refine hP _ ?_; conv => whnf)
      refine c_at' hC' ht h (by omega) ?_
      repeat (refine hP _ ?_; conv => whnf)
      refine c_isFigure hC' ?_
      repeat (refine hP _ ?_; conv => whnf)
      refine ⟨fun q2 => ?_, fun q2 => go (qN_iff.mpr (Or.inr q2))⟩
      rw [if_neg (fun z => by rcases qN_iff.mp z with z | z; exact z q; exact z q2)] at hs
      rw [← hs] at hex
      exact hex
  iterate 2 (refine hP _ ?_; conv => whnf)
  exact loop (tx.length - i0) i0 (by omega) rfl
theorem c_cutText {XL : Nat} {XS : Nat → Int32} {n : Nat} {C : mC} {I : Nat → Nat → Int32} {L : Nat → Nat → Int64} {K : mK} {tx : List Nat} {i0 c : Nat} (hC : m_Ge XL XS (n + 3) C) (ht : TxOk tx) (h : TxC tx I) (hi0 : i0 < tx.length) (hc : I 3 4 = nI c) (hc2 : c < 3001)
    (hbad : ¬ (toc tx (scan qT tx (i0 + 1)) = 34 ∧ scan qT tx (i0 + 1) - (i0 + 1) ≤ 8) → K (some (.int (nI i0))) (m_SH, I, L))
    (hok : (toc tx (scan qT tx (i0 + 1)) = 34 ∧ scan qT tx (i0 + 1) - (i0 + 1) ≤ 8) → K (some (.int (nI (scan qT tx (i0 + 1) + 1)))) (m_SH, keepI 18 i0 c I, m_upL L 6 c (lN (pkB 256 (slice tx (i0 + 1) (scan qT tx (i0 + 1))))))) : C 69 [.ref 3, .ref 1, .int (nI i0)] (m_SH, I, L) K := by
  have hl := ht.1
  have hb := scan_le (q := qT) (tx := tx) (i := i0 + 1) (by omega)
  refine e_X6_cutText hC (Nat.le_of_ble_eq_true rfl) ?_
  intro C' hC' P hP
  have hex : P (29, [some (.ref 3), some (.ref 1), some (.int (nI i0)), some (.int (nI (scan qT tx (i0 + 1))))], [], (m_SH, I, L), 0, 0) := by
    repeat (refine hP _ ?_; conv => whnf)
    refine c_at' hC' ht h (by omega) ?_
    repeat (refine hP _ ?_; conv => whnf)
    refine ⟨fun q => ?_, fun q => ?_⟩
    · repeat (refine hP _ ?_; conv => whnf)
      rw [sub_nI (by omega), show (1 : Int32) = nI 1 from rfl, sub_nI (by omega)]
      refine ⟨fun q2 => ?_, fun q2 => ?_⟩
      · repeat (refine hP _ ?_; conv => whnf)
        have := (nI_ltI (a := 8) (by omega) (by omega)).mp q2
        exact hbad (fun z => by omega)
      · have h8 : scan qT tx (i0 + 1) - (i0 + 1) ≤ 8 := by
          by_cases hz : scan qT tx (i0 + 1) - (i0 + 1) ≤ 8
          · exact hz
          · exact absurd (nI_lt (a := 8) (b := scan qT tx (i0 + 1) - i0 - 1) (by omega) (by omega)) q2
        repeat (refine hP _ ?_; conv => whnf)
        rw [nI_1 i0]
        refine c_packed hC' ht h hb.1 (by omega) ?_
        rw [pkF_0 ht hb.1 hb.2 h8]
        repeat (refine hP _ ?_; conv => whnf)
        refine c_keep (k := 18) hC' (by omega) (by omega) hc hc2 ?_
        repeat (refine hP _ ?_; conv => whnf)
        have e := hok ⟨q, h8⟩
        rw [← nI_1] at e
        exact e
    · repeat (refine hP _ ?_; conv => whnf)
      exact hbad (fun z => q z.1)
  have loop : ∀ (m j : Nat), j + m = tx.length → scan qT tx j = scan qT tx (i0 + 1) → P (4, [some (.ref 3), some (.ref 1), some (.int (nI i0)), some (.int (nI j))], [], (m_SH, I, L), 0, 0) := by
    intro m
    induction m with
    | zero =>
      intro j hj hs
      repeat (refine hP _ ?_; conv => whnf)
      rw [h.1]
      refine ⟨fun h1 => absurd h1 (nI_nlt (by omega) (by omega)), fun _ => ?_⟩
      rw [scan_ge (by omega)] at hs
      rw [← hs] at hex
      exact hex
    | succ m ih =>
      intro j hj hs
      repeat (refine hP _ ?_; conv => whnf)
      rw [h.1]
      refine ⟨fun _ => ?_, fun h1 => absurd (nI_lt (by omega) (by omega)) h1⟩
      repeat (refine hP _ ?_; conv => whnf)
      refine c_at' hC' ht h (by omega) ?_
      repeat (refine hP _ ?_; conv => whnf)
      refine c_isTextSign hC' ?_
      rw [scan_lt (by omega)] at hs
      repeat (refine hP _ ?_; conv => whnf)
      refine ⟨fun q => ?_, fun q => ?_⟩
      · rw [if_neg (fun z => qT_iff.mp z q)] at hs
        rw [← hs] at hex
        exact hex
      · rw [if_pos (qT_iff.mpr q)] at hs
        iterate 2 (refine hP _ ?_; conv => whnf)
        have e := ih (j + 1) (by omega) hs
        rw [← nI_1] at e
        exact e
  iterate 4 (refine hP _ ?_; conv => whnf)
  have e := loop (tx.length - (i0 + 1)) (i0 + 1) (by omega) rfl
  rw [← nI_1] at e
  exact e
/-- the number, digit by digit -/
def dcF (tx : List Nat) : Nat → Nat → Int64 → Int64
  | 0, _, a => a
  | m + 1, i, a => dcF tx m (i + 1) (10 * a + (toc tx i - 48).toInt64)
theorem decB : ∀ (l : List Nat) (a : Nat), l.foldl (fun a c => a * 10 + (c - 48)) a = a * 10 ^ l.length + decV l
  | [], a => by simp [decV]
  | c :: r, a => by
    simp only [List.foldl_cons, List.length_cons, decV]
    rw [decB r (a * 10 + (c - 48)), decB r (0 * 10 + (c - 48))]
    rw [Nat.pow_succ, Nat.add_mul, Nat.zero_mul, Nat.zero_add, Nat.mul_assoc, Nat.mul_comm 10 (10 ^ r.length), Nat.add_assoc]
theorem decV_cons (c : Nat) (r : List Nat) : decV (c :: r) = (c - 48) * 10 ^ r.length + decV r := by
  show r.foldl (fun a c => a * 10 + (c - 48)) (0 * 10 + (c - 48)) = _
  rw [decB r, Nat.zero_mul, Nat.zero_add]
theorem dcF_eq {tx : List Nat} : ∀ (m i a : Nat), i + m ≤ tx.length → (∀ c ∈ slice tx i (i + m), 48 ≤ c ∧ c ≤ 57) → dcF tx m i (lN a) = lN (a * 10 ^ m + decV (slice tx i (i + m)))
  | 0, i, a, h, hb => by simp [dcF, slice, decV]
  | m + 1, i, a, h, hb => by
    have hs := slice_succ (tx := tx) (i := i) (e := i + (m + 1)) (by omega) (by omega)
    rw [show i + (m + 1) = i + 1 + m by omega] at hs hb ⊢
    have hlen : (slice tx (i + 1) (i + 1 + m)).length = m := by rw [slice_len (by omega)]; omega
    rw [hs] at hb
    have hc := hb _ List.mem_cons_self
    rw [hs, decV_cons, hlen]
    have e2 : 10 * lN a + (toc tx i - 48).toInt64 = lN (a * 10 + (tx.getD i 0 - 48)) := by
      rw [toc_lt (by omega), show (48 : Int32) = nI 48 from rfl, sub_nI hc.1, nI_l (by omega), show (10 : Int64) = lN 10 from rfl, lN_mul, lN_add, Nat.mul_comm]
    show dcF tx m (i + 1) _ = _
    rw [e2, dcF_eq m (i + 1) _ (by omega) (fun c hc => hb c (List.mem_cons_of_mem _ hc))]
    congr 1
    rw [Nat.add_mul, Nat.pow_succ, Nat.mul_comm (10 ^ m) 10, ← Nat.mul_assoc]
    exact Nat.add_assoc _ _ _
end
section
theorem fig_slice {tx : List Nat} (ht : TxOk tx) {i : Nat} (hi : i ≤ tx.length) : ∀ c ∈ slice tx i (scan qF tx i), 48 ≤ c ∧ c ≤ 57 := fun c hc => qF_rng c (ht.2 c (slice_mem hc)) (scan_all (q := qF) (tx := tx) (tx.length - i) i (by omega) c hc)
theorem dcF_step {tx : List Nat} : ∀ (m i : Nat) (a : Int64), dcF tx (m + 1) i a = 10 * dcF tx m i a + (toc tx (i + m) - 48).toInt64
  | 0, i, a => rfl
  | m + 1, i, a => by
    have := dcF_step (tx := tx) m (i + 1) (10 * a + (toc tx i - 48).toInt64)
    rw [show i + 1 + m = i + (m + 1) by omega] at this
    exact this
theorem c_cutNumber {XL : Nat} {XS : Nat → Int32} {n : Nat} {C : mC} {I : Nat → Nat → Int32} {L : Nat → Nat → Int64} {K : mK} {tx : List Nat} {i0 c : Nat} (hC : m_Ge XL XS (n + 3) C) (ht : TxOk tx) (h : TxC tx I) (hi0 : i0 < tx.length) (hc : I 3 4 = nI c) (hc2 : c < 3001)
    (hbad : 9 < scan qF tx i0 - i0 → K (some (.int (nI i0))) (m_SH, I, L))
    (hok : ¬ 9 < scan qF tx i0 - i0 → K (some (.int (nI (scan qF tx i0)))) (m_SH, keepI 17 i0 c I, m_upL L 6 c (lN (decV (slice tx i0 (scan qF tx i0)))))) : C 68 [.ref 3, .ref 1, .int (nI i0)] (m_SH, I, L) K := by
  have hl := ht.1
  have hb := scan_le (q := qF) (tx := tx) (i := i0) (by omega)
  refine e_X6_cutNumber hC (Nat.le_of_ble_eq_true rfl) ?_
  intro C' hC' P hP
  have hex : P (48, [some (.ref 3), some (.ref 1), some (.int (nI i0)), some (.int (nI (scan qF tx i0))), some (.long (dcF tx (scan qF tx i0 - i0) i0 0)), none], [], (m_SH, I, L), 0, 0) := by
    repeat (refine hP _ ?_; conv => whnf)
    rw [sub_nI hb.1]
    refine ⟨fun q => ?_, fun q => ?_⟩
    · repeat (refine hP _ ?_; conv => whnf)
      exact hbad ((nI_ltI (a := 9) (by omega) (by omega)).mp q)
    · have h8 : ¬ 9 < scan qF tx i0 - i0 := fun z => q (nI_lt (a := 9) z (by omega))
      repeat (refine hP _ ?_; conv => whnf)
      refine c_keep (k := 17) hC' (by omega) (by omega) hc hc2 ?_
      repeat (refine hP _ ?_; conv => whnf)
      have e := hok h8
      have e1 := dcF_eq (tx := tx) (scan qF tx i0 - i0) i0 0 (by omega) (by rw [show i0 + (scan qF tx i0 - i0) = scan qF tx i0 by omega]; exact fig_slice ht (by omega))
      rw [Nat.zero_mul, Nat.zero_add, show i0 + (scan qF tx i0 - i0) = scan qF tx i0 by omega] at e1
      rw [← e1] at e
      exact e
  have loop : ∀ (m j : Nat), i0 ≤ j → j + m = tx.length → scan qF tx j = scan qF tx i0 → P (5, [some (.ref 3), some (.ref 1), some (.int (nI i0)), some (.int (nI j)), some (.long (dcF tx (j - i0) i0 0)), none], [], (m_SH, I, L), 0, 0) := by
    intro m
    induction m with
    | zero =>
      intro j hij hj hs
      repeat (refine hP _ ?_; conv => whnf)
      rw [h.1]
      refine ⟨fun h1 => absurd h1 (nI_nlt (by omega) (by omega)), fun _ => ?_⟩
      rw [scan_ge (by omega)] at hs
      rw [← hs] at hex
      exact hex
    | succ m ih =>
      intro j hij hj hs
      repeat (refine hP _ ?_; conv => whnf)
      rw [h.1]
      refine ⟨fun _ => ?_, fun h1 => absurd (nI_lt (by omega) (by omega)) h1⟩
      repeat (refine hP _ ?_; conv => whnf)
      refine c_at' hC' ht h (by omega) ?_
      repeat (refine hP _ ?_; conv => whnf)
      refine c_isFigure hC' ?_
      rw [scan_lt (by omega)] at hs
      repeat (refine hP _ ?_; conv => whnf)
      refine ⟨fun q => ?_, fun q => ?_⟩
      · rw [if_neg (fun z => qF_iff.mp z q)] at hs
        rw [← hs] at hex
        exact hex
      · rw [if_pos (qF_iff.mpr q)] at hs
        repeat (refine hP _ ?_; conv => whnf)
        refine c_at' hC' ht h (by omega) ?_
        iterate 7 (refine hP _ ?_; conv => whnf)
        have e := ih (j + 1) (by omega) (by omega) hs
        rw [← nI_1, show j + 1 - i0 = (j - i0) + 1 by omega, dcF_step, show i0 + (j - i0) = j by omega] at e
        exact e
  iterate 4 (refine hP _ ?_; conv => whnf)
  have e := loop (tx.length - i0) i0 (Nat.le_refl _) (by omega) rfl
  rw [Nat.sub_self] at e
  exact e
/-- the world with one token more -/
def keepT (t : Tok) (c : Nat) (I : Nat → Nat → Int32) : Nat → Nat → Int32 := keepI t.1 t.2.1 c I
theorem sgN_rng (x : Int32) : sgN x < 128 := by
  unfold sgN
  repeat' split
  all_goals decide
theorem tokAt_end {tx : List Nat} {i : Nat} (h : i < tx.length) (hk : ¬ (tokAt tx i).1 = 28) : i < (tokAt tx i).2.2.2.2 ∧ (tokAt tx i).2.2.2.2 ≤ tx.length ∧ (tokAt tx i).1 < 128 ∧ ¬ (tokAt tx i).1 = 27 ∧ (tokAt tx i).2.1 = i := by
  unfold tokAt at hk ⊢
  rw [if_neg (by omega)] at hk ⊢
  by_cases h1 : isSm (toc tx i) = 1
  · rw [if_pos h1] at hk ⊢
    by_cases h8 : 8 < scan qN tx i - i
    · rw [if_pos h8] at hk; exact absurd rfl hk
    · rw [if_neg h8] at hk ⊢
      have hb := scan_le (q := qN) (tx := tx) (i := i) (by omega)
      have hq : qN (toc tx i) = true := by unfold qN; rw [h1]; rfl
      have hs := scan_lt (q := qN) h
      rw [if_pos hq] at hs
      have hb2 := scan_le (q := qN) (tx := tx) (i := i + 1) (by omega)
      have hw : wordIx (slice tx i (scan qN tx i)) ≤ 15 := by
        by_cases hm : slice tx i (scan qN tx i) ∈ wordL
        · have := wordIx_in hm; omega
        · rw [wordIx_out hm]; omega
      refine ⟨?_, hb.2, ?_, ?_, rfl⟩ <;> simp only <;> omega
  · rw [if_neg h1] at hk ⊢
    by_cases h2 : isFg (toc tx i) = 1
    · rw [if_pos h2] at hk ⊢
      by_cases h9 : 9 < scan qF tx i - i
      · rw [if_pos h9] at hk; exact absurd rfl hk
      · rw [if_neg h9] at hk ⊢
        have hb := scan_le (q := qF) (tx := tx) (i := i) (by omega)
        have hq : qF (toc tx i) = true := by unfold qF; rw [h2]; rfl
        have hs := scan_lt (q := qF) h
        rw [if_pos hq] at hs
        have hb2 := scan_le (q := qF) (tx := tx) (i := i + 1) (by omega)
        refine ⟨?_, hb.2, ?_, ?_, rfl⟩ <;> simp only <;> omega
    · rw [if_neg h2] at hk ⊢
      by_cases h3 : toc tx i = 34
      · rw [if_pos h3] at hk ⊢
        by_cases h4 : toc tx (scan qT tx (i + 1)) = 34 ∧ scan qT tx (i + 1) - (i + 1) ≤ 8
        · rw [if_pos h4] at hk ⊢
          have hb2 := scan_le (q := qT) (tx := tx) (i := i + 1) (by omega)
          have hlt : scan qT tx (i + 1) < tx.length := by
            by_cases hz : scan qT tx (i + 1) < tx.length
            · exact hz
            · have := h4.1
              rw [toc_ge (by omega)] at this
              exact absurd this (by decide)
          refine ⟨?_, ?_, ?_, ?_, rfl⟩ <;> simp only <;> omega
        · rw [if_neg h4] at hk; exact absurd rfl hk
      · rw [if_neg h3] at hk ⊢
        by_cases h5 : toc tx i = 45 ∧ toc tx (i + 1) = 62
        · rw [if_pos h5]
          have hlt : i + 1 < tx.length := by
            by_cases hz : i + 1 < tx.length
            · exact hz
            · have := h5.2
              rw [toc_ge (by omega)] at this
              exact absurd this (by decide)
          refine ⟨?_, ?_, ?_, ?_, rfl⟩ <;> simp only <;> omega
        · rw [if_neg h5] at hk ⊢
          by_cases h6 : sgN (toc tx i) = 28
          · rw [if_pos h6] at hk; exact absurd rfl hk
          · rw [if_neg h6] at hk ⊢
            have := sgN_rng (toc tx i)
            refine ⟨?_, ?_, ?_, ?_, rfl⟩ <;> simp only
            · omega
            · omega
            · omega
            · unfold sgN
              repeat' split
              all_goals decide
theorem c_cutOne {XL : Nat} {XS : Nat → Int32} {n : Nat} {C : mC} {I : Nat → Nat → Int32} {L : Nat → Nat → Int64} {K : mK} {tx : List Nat} {i0 c : Nat} (hC : m_Ge XL XS (n + 4) C) (ht : TxOk tx) (h : TxC tx I) (hw : WdC L) (hi0 : i0 < tx.length) (hc : I 3 4 = nI c) (hc2 : c < 3001)
    (hbad : (tokAt tx i0).1 = 28 → K (some (.int (nI i0))) (m_SH, I, L))
    (hok : ¬ (tokAt tx i0).1 = 28 → K (some (.int (nI (tokAt tx i0).2.2.2.2))) (m_SH, keepI (tokAt tx i0).1 i0 c I, m_upL L 6 c (cval (tokAt tx i0)))) : C 65 [.ref 3, .ref 1, .int (nI i0), .int (toc tx i0)] (m_SH, I, L) K := by
  have hl := ht.1
  unfold tokAt at hbad hok
  rw [if_neg (by omega)] at hbad hok
  refine e_X6_cutOne hC (Nat.le_of_ble_eq_true rfl) ?_
  intro C' hC' P hP
  repeat (refine hP _ ?_; conv => whnf)
  refine c_isSmall hC' ?_
  repeat (refine hP _ ?_; conv => whnf)
  refine ⟨fun q => ?_, fun q => ?_⟩
  · have h1 : ¬ isSm (toc tx i0) = 1 := by rw [q]; decide
    rw [if_neg h1] at hbad hok
    repeat (refine hP _ ?_; conv => whnf)
    refine c_isFigure hC' ?_
    repeat (refine hP _ ?_; conv => whnf)
    refine ⟨fun q => ?_, fun q => ?_⟩
    · have h1 : ¬ isFg (toc tx i0) = 1 := by rw [q]; decide
      rw [if_neg h1] at hbad hok
      repeat (refine hP _ ?_; conv => whnf)
      refine ⟨fun q => ?_, fun q => ?_⟩
      · rw [if_pos q] at hbad hok
        repeat (refine hP _ ?_; conv => whnf)
        refine c_cutText hC' ht h hi0 hc hc2 (fun z => ?_) (fun z => ?_)
        · rw [if_neg z] at hbad
          repeat (refine hP _ ?_; conv => whnf)
          exact hbad rfl
        · rw [if_pos z] at hok
          repeat (refine hP _ ?_; conv => whnf)
          exact hok (by simp)
      · rw [if_neg q] at hbad hok
        have rest : ¬ (toc tx i0 = 45 ∧ toc tx (i0 + 1) = 62) → P (71, [some (.ref 3), some (.ref 1), some (.int (nI i0)), some (.int (toc tx i0)), none], [], (m_SH, I, L), 0, 0) := by
          intro h5
          rw [if_neg h5] at hbad hok
          repeat (refine hP _ ?_; conv => whnf)
          refine c_signKind hC' ?_
          rw [sgK_N]
          repeat (refine hP _ ?_; conv => whnf)
          refine ⟨fun q => ?_, fun q => ?_⟩
          · have hs : sgN (toc tx i0) = 28 := (nI_eq (a := sgN (toc tx i0)) (b := 28) (by have := sgN_rng (toc tx i0); omega) (by omega)).mp q
            rw [if_pos hs] at hbad
            repeat (refine hP _ ?_; conv => whnf)
            exact hbad rfl
          · have hs : ¬ sgN (toc tx i0) = 28 := fun z => q (by rw [z]; rfl)
            rw [if_neg hs] at hok
            repeat (refine hP _ ?_; conv => whnf)
            refine c_keep hC' (sgN_rng _) (by omega) hc hc2 ?_
            repeat (refine hP _ ?_; conv => whnf)
            have e := hok hs
            rw [← nI_1] at e
            have e2 : cval (sgN (toc tx i0), i0, [], 0, i0 + 1) = 0 := by
              unfold cval
              simp only
              split
              · rfl
              · rfl
            rw [e2] at e
            exact e
        repeat (refine hP _ ?_; conv => whnf)
        refine ⟨fun q => ?_, fun q => ?_⟩
        · repeat (refine hP _ ?_; conv => whnf)
          rw [nI_1]
          refine c_at' hC' ht h (by omega) ?_
          repeat (refine hP _ ?_; conv => whnf)
          refine ⟨fun q2 => ?_, fun q2 => ?_⟩
          · rw [if_pos ⟨q, q2⟩] at hok
            repeat (refine hP _ ?_; conv => whnf)
            refine c_keep (k := 26) hC' (by omega) (by omega) hc hc2 ?_
            repeat (refine hP _ ?_; conv => whnf)
            have e := hok (by simp)
            rw [← nI_add i0 2] at e
            exact e
          · exact rest (fun z => q2 z.2)
        · exact rest (fun z => q z.1)
    · have h1 : isFg (toc tx i0) = 1 := (isFg_01 _).resolve_left q
      rw [if_pos h1] at hbad hok
      repeat (refine hP _ ?_; conv => whnf)
      refine c_cutNumber hC' ht h hi0 hc hc2 (fun z => ?_) (fun z => ?_)
      · rw [if_pos z] at hbad
        repeat (refine hP _ ?_; conv => whnf)
        exact hbad rfl
      · rw [if_neg z] at hok
        repeat (refine hP _ ?_; conv => whnf)
        exact hok (by simp)
  · have h1 : isSm (toc tx i0) = 1 := (isSm_01 _).resolve_left q
    rw [if_pos h1] at hbad hok
    repeat (refine hP _ ?_; conv => whnf)
    refine c_cutName hC' ht h hw hi0 hc hc2 (fun z => ?_) (fun z => ?_)
    · rw [if_pos z] at hbad
      repeat (refine hP _ ?_; conv => whnf)
      exact hbad rfl
    · rw [if_neg z] at hok
      repeat (refine hP _ ?_; conv => whnf)
      have hwx : wordIx (slice tx i0 (scan qN tx i0)) ≤ 15 := by
        by_cases hm : slice tx i0 (scan qN tx i0) ∈ wordL
        · have := wordIx_in hm; omega
        · rw [wordIx_out hm]; omega
      have e := hok (by simp only; omega)
      have e2 : cval (wordIx (slice tx i0 (scan qN tx i0)) + 1, i0, slice tx i0 (scan qN tx i0), 0, scan qN tx i0) = lN (pkB 256 (slice tx i0 (scan qN tx i0))) := by
        unfold cval
        rw [if_neg (by simp only; omega)]
      rw [e2] at e
      exact e
end
section
/-! ===== the row of tokens ===== -/
def tke (tx : List Nat) : Nat → Nat
  | 0 => 0
  | k + 1 => (tokAt tx (scan qB tx (tke tx k))).2.2.2.2
def tk (tx : List Nat) (k : Nat) : Tok := tokAt tx (scan qB tx (tke tx k))
/-- the last token is number m -/
def TkM (tx : List Nat) (m : Nat) : Prop := ((tk tx m).1 = 27 ∨ (tk tx m).1 = 28) ∧ ∀ k, k < m → ¬ (tk tx k).1 = 27 ∧ ¬ (tk tx k).1 = 28
def TkC (tx : List Nat) (m : Nat) (I : Nat → Nat → Int32) (L : Nat → Nat → Int64) : Prop := I 3 4 = nI (m + 1) ∧ ∀ k, k ≤ m → I 4 k = nI (tk tx k).1 ∧ I 5 k = nI (tk tx k).2.1 ∧ L 6 k = cval (tk tx k)
def S_tk : Nat → Nat → Bool := fun p q => p == 4 || p == 5 || (p == 3 && q == 4)
def S_tkL : Nat → Nat → Bool := fun p _ => p == 6
theorem tk_27 {tx : List Nat} {i : Nat} (hi : i ≤ tx.length) : (tokAt tx i).1 = 27 ↔ i = tx.length := by
  constructor
  · intro h
    by_cases hl : i = tx.length
    · exact hl
    · have h28 : ¬ (tokAt tx i).1 = 28 := by rw [h]; decide
      exact absurd h (tokAt_end (by omega) h28).2.2.2.1
  · intro h
    unfold tokAt
    rw [if_pos (by omega)]
theorem tkC_mid {c : Nat} {tx : List Nat} {I : Nat → Nat → Int32} {L : Nat → Nat → Int64} (h : ∀ k, k < c → I 4 k = nI (tk tx k).1 ∧ I 5 k = nI (tk tx k).2.1 ∧ L 6 k = cval (tk tx k)) :
    ∀ k, k < c + 1 → keepI (tk tx c).1 (tk tx c).2.1 c I 4 k = nI (tk tx k).1 ∧ keepI (tk tx c).1 (tk tx c).2.1 c I 5 k = nI (tk tx k).2.1 ∧ m_upL L 6 c (cval (tk tx c)) 6 k = cval (tk tx k) := by
  intro k hk
  by_cases hkc : k = c
  · subst hkc
    simp [keepI, m_upr, m_uprL]
  · have := h k (by omega)
    simp [keepI, m_upr, m_uprL, hkc, this]
theorem keepI_Fr {I J : Nat → Nat → Int32} {k p c : Nat} (h : Fr S_tk I J) : Fr S_tk I (keepI k p c J) := ((h.up (by simp [S_tk])).up (by simp [S_tk])).up (by simp [S_tk])
theorem TxC.fr {tx : List Nat} {I J : Nat → Nat → Int32} {S : Nat → Nat → Bool} (h : TxC tx I) (hF : Fr S I J) (h1 : S 1 1 = false) (h2 : ∀ j, S 2 j = false) : TxC tx J := ⟨by rw [hF 1 1 h1]; exact h.1, fun j hj => by rw [hF 2 j (h2 j)]; exact h.2 j hj⟩
set_option maxHeartbeats 1000000 in
theorem c_cut {XL : Nat} {XS : Nat → Int32} {n : Nat} {C : mC} {I : Nat → Nat → Int32} {L : Nat → Nat → Int64} {K : mK} {tx : List Nat} (hC : m_Ge XL XS (n + 5) C) (ht : TxOk tx) (h : TxC tx I) (hw : WdC L)
    (hK : ∀ m I' L', m ≤ tx.length → TkM tx m → TkC tx m I' L' → Fr S_tk I I' → Fr S_tkL L L' → K none (m_SH, I', L')) : C 63 [.ref 3, .ref 1] (m_SH, I, L) K := by
  have hl := ht.1
  refine e_X6_cut hC (Nat.le_of_ble_eq_true rfl) ?_
  intro C' hC' P hP
  have loop : ∀ (r i : Nat) (J : Nat → Nat → Int32) (M : Nat → Nat → Int64) (d4 d5 : Option Value), tx.length < tke tx i + r → i ≤ tke tx i → tke tx i ≤ tx.length → (∀ k, k < i → ¬ (tk tx k).1 = 27 ∧ ¬ (tk tx k).1 = 28) → J 3 4 = nI i → (∀ k, k < i → J 4 k = nI (tk tx k).1 ∧ J 5 k = nI (tk tx k).2.1 ∧ M 6 k = cval (tk tx k)) → Fr S_tk I J → Fr S_tkL L M →
      P (9, [some (.ref 3), some (.ref 1), some (.int (nI (tke tx i))), some (.int (nI i)), d4, d5], [], (m_SH, J, M), 0, 0) := by
    intro r
    induction r with
    | zero => intro i J M d4 d5 h1 h2 h3; omega
    | succ r ih =>
      intro i J M d4 d5 h1 h2 h3 hno hc hall hFI hFL
      have hJ : TxC tx J := h.fr hFI rfl (fun _ => rfl)
      have hwM : WdC M := fun j hj => by rw [hFL 7 j rfl]; exact hw j hj
      have hb := scan_le (q := qB) (tx := tx) (i := tke tx i) h3
      have htk : tk tx i = tokAt tx (scan qB tx (tke tx i)) := rfl
      repeat (refine hP _ ?_; conv => whnf)
      refine ⟨fun _ => ?_, fun q => absurd (show nI i < 3001 from nI_lt (a := i) (b := 3001) (by omega) (by omega)) q⟩
      repeat (refine hP _ ?_; conv => whnf)
      refine c_behindBlanks hC' ht hJ h3 ?_
      repeat (refine hP _ ?_; conv => whnf)
      refine c_at' hC' ht hJ (by omega) ?_
      repeat (refine hP _ ?_; conv => whnf)
      refine ⟨fun q => ?_, fun q => ?_⟩
      · -- the end
        have hend : scan qB tx (tke tx i) = tx.length := by
          by_cases hz : scan qB tx (tke tx i) < tx.length
          · rw [toc_lt hz] at q
            exact absurd q (nI_pos (by have := tx_lt ht (scan qB tx (tke tx i)); omega))
          · omega
        have h27 : (tk tx i).1 = 27 := by rw [htk]; exact (tk_27 (by omega)).mpr hend
        have hpl : tk tx i = (27, tx.length, [], 0, tx.length) := by
          rw [htk, hend]
          unfold tokAt
          rw [if_pos (Nat.le_refl _)]
        repeat (refine hP _ ?_; conv => whnf)
        show C' 74 [.ref 3, .int (nI 27), .int (J 1 1), .long 0] (m_SH, J, M) _
        rw [hJ.1]
        refine c_keep (k := 27) (p := tx.length) hC' (by omega) (by omega) hc (by omega) ?_
        repeat (refine hP _ ?_; conv => whnf)
        have e := tkC_mid hall
        have hcv : cval (tk tx i) = 0 := by rw [hpl]; rfl
        refine hK i _ _ (by omega) ⟨Or.inl h27, hno⟩ ⟨by simp [keepI, m_upr], fun k hk => ?_⟩ (keepI_Fr hFI) (hFL.upL rfl)
        have e2 := e k (by omega)
        rw [hcv] at e2
        rw [hpl] at e2
        exact e2
      · have hlt : scan qB tx (tke tx i) < tx.length := by
          by_cases hz : scan qB tx (tke tx i) < tx.length
          · exact hz
          · exact absurd (by rw [toc_ge (by omega)]; decide) q
        repeat (refine hP _ ?_; conv => whnf)
        refine c_cutOne hC' ht hJ hwM hlt hc (by omega) (fun hk => ?_) (fun hk => ?_)
        · repeat (refine hP _ ?_; conv => whnf)
          refine ⟨fun q => absurd q (nI_nlt (Nat.le_refl _) (by omega)), fun _ => ?_⟩
          repeat (refine hP _ ?_; conv => whnf)
          have hpl : tk tx i = (28, scan qB tx (tke tx i), [], 0, scan qB tx (tke tx i)) := by
            rw [htk]
            unfold tokAt at hk ⊢
            rw [if_neg (by omega)] at hk ⊢
            by_cases g1 : isSm (toc tx (scan qB tx (tke tx i))) = 1
            · rw [if_pos g1] at hk ⊢
              by_cases g2 : 8 < scan qN tx (scan qB tx (tke tx i)) - scan qB tx (tke tx i)
              · rw [if_pos g2]
              · rw [if_neg g2] at hk
                simp only at hk
                have hwx : wordIx (slice tx (scan qB tx (tke tx i)) (scan qN tx (scan qB tx (tke tx i)))) ≤ 15 := by
                  by_cases hm : slice tx (scan qB tx (tke tx i)) (scan qN tx (scan qB tx (tke tx i))) ∈ wordL
                  · have := wordIx_in hm; omega
                  · rw [wordIx_out hm]; omega
                omega
            · rw [if_neg g1] at hk ⊢
              by_cases g2 : isFg (toc tx (scan qB tx (tke tx i))) = 1
              · rw [if_pos g2] at hk ⊢
                by_cases g3 : 9 < scan qF tx (scan qB tx (tke tx i)) - scan qB tx (tke tx i)
                · rw [if_pos g3]
                · rw [if_neg g3] at hk; simp at hk
              · rw [if_neg g2] at hk ⊢
                by_cases g3 : toc tx (scan qB tx (tke tx i)) = 34
                · rw [if_pos g3] at hk ⊢
                  by_cases g4 : toc tx (scan qT tx (scan qB tx (tke tx i) + 1)) = 34 ∧ scan qT tx (scan qB tx (tke tx i) + 1) - (scan qB tx (tke tx i) + 1) ≤ 8
                  · rw [if_pos g4] at hk; simp at hk
                  · rw [if_neg g4]
                · rw [if_neg g3] at hk ⊢
                  by_cases g4 : toc tx (scan qB tx (tke tx i)) = 45 ∧ toc tx (scan qB tx (tke tx i) + 1) = 62
                  · rw [if_pos g4] at hk; simp at hk
                  · rw [if_neg g4] at hk ⊢
                    by_cases g5 : sgN (toc tx (scan qB tx (tke tx i))) = 28
                    · rw [if_pos g5]
                    · rw [if_neg g5] at hk; exact absurd hk g5
          refine c_keep (k := 28) hC' (by omega) (by omega) hc (by omega) ?_
          repeat (refine hP _ ?_; conv => whnf)
          have e := tkC_mid hall
          have hcv : cval (tk tx i) = 0 := by rw [hpl]; rfl
          have h28 : (tk tx i).1 = 28 := by rw [hpl]
          refine hK i _ _ (by omega) ⟨Or.inr h28, hno⟩ ⟨by simp [keepI, m_upr], fun k hk => ?_⟩ (keepI_Fr hFI) (hFL.upL rfl)
          have e2 := e k (by omega)
          rw [hcv] at e2
          rw [hpl] at e2
          exact e2
        · have he := tokAt_end hlt hk
          have htke : tke tx (i + 1) = (tokAt tx (scan qB tx (tke tx i))).2.2.2.2 := rfl
          repeat (refine hP _ ?_; conv => whnf)
          refine ⟨fun _ => ?_, fun q => absurd (nI_lt (by omega) (by omega)) q⟩
          iterate 4 (refine hP _ ?_; conv => whnf)
          have e := ih (i + 1) _ _ (some (.int (toc tx (scan qB tx (tke tx i))))) (some (.int (nI (tokAt tx (scan qB tx (tke tx i))).2.2.2.2))) (by omega) (by omega) (by omega) (fun k hk2 => by
            by_cases hki : k = i
            · subst hki; exact ⟨he.2.2.2.1, hk⟩
            · exact hno k (by omega)) (by simp [keepI, m_upr]) (tkC_mid hall) (keepI_Fr hFI) (hFL.upL rfl)
          rw [← nI_1, htke] at e
          rw [htk, he.2.2.2.2] at e
          exact e
  iterate 7 (refine hP _ ?_; conv => whnf)
  exact loop (tx.length + 1) 0 _ _ none none (by simp [tke]) (by simp [tke]) (by simp [tke]) (fun k hk => by omega) (by simp [m_upr]; rfl) (fun k hk => by omega) (Fr.rf.up (by simp [S_tk])) Fr.rf
end
section
/-! ===== the reference reads a token ===== -/
def S_nx : Nat → Nat → Bool := fun p q => p == 30 && (q == 3 || q == 4 || q == 5 || q == 7)
def S_nxL : Nat → Nat → Bool := fun p q => p == 30 && q == 6
theorem TxM.fr {tx : List Nat} {I J : Nat → Nat → Int32} {S : Nat → Nat → Bool} (h : TxM tx I) (hF : Fr S I J) (h1 : S 30 2 = false) (h2 : ∀ j, S 32 j = false) : TxM tx J := ⟨by rw [hF 30 2 h1]; exact h.1, fun j hj => by rw [hF 32 j (h2 j)]; exact h.2 j hj⟩
theorem WdM.fr {L M : Nat → Nat → Int64} {S : Nat → Nat → Bool} (h : WdM L) (hF : Fr S L M) (h2 : ∀ j, S 31 j = false) : WdM M := fun j hj => by rw [hF 31 j (h2 j)]; exact h j hj
theorem slice_snoc {tx : List Nat} {i j : Nat} (h : i ≤ j) (hj : j < tx.length) : slice tx i (j + 1) = slice tx i j ++ [tx.getD j 0] := by
  unfold slice
  rw [show j + 1 - i = (j - i) + 1 by omega, List.take_add_one]
  congr 1
  rw [List.getElem?_drop, show i + (j - i) = j by omega, List.getElem?_eq_getElem hj, List.getD_eq_getElem?_getD, List.getElem?_eq_getElem hj]
  rfl
theorem pkB_snoc (B : Nat) (l : List Nat) (c : Nat) : pkB B (l ++ [c]) = pkB B l * B + c := by
  unfold pkB
  rw [List.foldl_append]
  rfl
theorem pk7_step {tx : List Nat} {i j : Nat} (hij : i ≤ j) (hj : j < tx.length) (h8 : j - i < 8) (hs : ∀ c ∈ slice tx i (j + 1), c < 128) : (lN (pkB 128 (slice tx i j)) <<< ((7 : Int32).toInt64 &&& 63)) ||| (toc tx j).toInt64 = lN (pkB 128 (slice tx i (j + 1))) := by
  rw [slice_snoc hij hj] at hs ⊢
  rw [pkB_snoc]
  have hc : tx.getD j 0 < 128 := hs _ (by simp)
  have h1 := pkB_lt (B := 128) (slice tx i j) (fun c hc => hs c (by simp [hc]))
  rw [slice_len (by omega)] at h1
  have h2 : 128 ^ (j - i) ≤ 128 ^ 7 := Nat.pow_le_pow_right (by decide) (by omega)
  have h3 : (128 : Nat) ^ 7 = 562949953421312 := by decide
  generalize pkB 128 (slice tx i j) = a at h1 ⊢
  have ha : a < 562949953421312 := by omega
  have s1 : lN a <<< ((7 : Int32).toInt64 &&& 63) = lN (a * 128) := wb_shl a (k := 7) (by decide)
  rw [toc_lt hj, nI_l (by omega), s1, wb_or (by omega) (by omega)]
  congr 1
  rw [Nat.mul_comm a 128]
  exact (Nat.two_pow_add_eq_or_of_lt (i := 7) hc a).symm
theorem pk8_step {tx : List Nat} {i j : Nat} (hij : i ≤ j) (hj : j < tx.length) (h8 : j - i < 8) (hs : ∀ c ∈ slice tx i (j + 1), c < 128) : (lN (pkB 256 (slice tx i j)) <<< ((8 : Int32).toInt64 &&& 63)) ||| (toc tx j).toInt64 = lN (pkB 256 (slice tx i (j + 1))) := by
  rw [slice_snoc hij hj] at hs ⊢
  rw [pkB_snoc]
  have hc : tx.getD j 0 < 128 := hs _ (by simp)
  have h1 := pkB_lt (B := 256) (slice tx i j) (fun c hc => by have := hs c (by simp [hc]); omega)
  rw [slice_len (by omega)] at h1
  have h2 : 256 ^ (j - i) ≤ 256 ^ 7 := Nat.pow_le_pow_right (by decide) (by omega)
  have h3 : (256 : Nat) ^ 7 = 72057594037927936 := by decide
  generalize pkB 256 (slice tx i j) = a at h1 ⊢
  have ha : a < 72057594037927936 := by omega
  have s1 : lN a <<< ((8 : Int32).toInt64 &&& 63) = lN (a * 256) := wb_shl a (k := 8) (by decide)
  rw [toc_lt hj, nI_l (by omega), s1, wb_or (by omega) (by omega)]
  congr 1
  rw [Nat.mul_comm a 256]
  exact (Nat.two_pow_add_eq_or_of_lt (i := 8) (by omega) a).symm
theorem slice_q {q : Int32 → Bool} {tx : List Nat} {i : Nat} (hi : i ≤ tx.length) {j : Nat} (hj : j ≤ scan q tx i) : ∀ c ∈ slice tx i j, q (nI c) = true := by
  intro c hc
  have hb := scan_le (q := q) hi
  refine scan_all (q := q) (tx := tx) (tx.length - i) i (by omega) c ?_
  unfold slice at hc ⊢
  have : (tx.drop i).take (j - i) = ((tx.drop i).take (scan q tx i - i)).take (j - i) := by
    rw [List.take_take, Nat.min_eq_left (by omega)]
  rw [this] at hc
  exact List.mem_of_mem_take hc
/-- at a place within a scan one goes on just as the scan does -/
theorem scan_at {q : Int32 → Bool} {tx : List Nat} {i j : Nat} (hj : j < tx.length) (hs : scan q tx j = scan q tx i) : (q (toc tx j) = true ∧ scan q tx (j + 1) = scan q tx i ∧ j < scan q tx i) ∨ (¬ q (toc tx j) = true ∧ scan q tx i = j) := by
  rw [scan_lt hj] at hs
  by_cases h : q (toc tx j) = true
  · rw [if_pos h] at hs
    have := scan_le (q := q) (tx := tx) (i := j + 1) (by omega)
    exact Or.inl ⟨h, hs, by omega⟩
  · rw [if_neg h] at hs
    exact Or.inr ⟨h, hs.symm⟩
theorem q_end {tx : List Nat} {j : Nat} (hj : tx.length ≤ j) : ¬ qN (toc tx j) = true ∧ ¬ qF (toc tx j) = true ∧ ¬ qT (toc tx j) = true ∧ ¬ qB (toc tx j) = true := by
  rw [toc_ge hj]
  decide
/-- the token that is there, as the reference tells it -/
def MT (t : Tok) (I : Nat → Nat → Int32) (L : Nat → Nat → Int64) : Prop :=
  I 30 5 = nI t.2.1 ∧ (t.1 = 27 → I 30 4 = 0) ∧ (t.1 = 28 → I 30 4 = 6) ∧ (t.1 < 16 → I 30 4 = 5 ∧ I 30 7 = nI (t.1 - 1)) ∧ (t.1 = 16 → I 30 4 = 1 ∧ L 30 6 = lN (pkB 128 t.2.2.1)) ∧ (t.1 = 17 → I 30 4 = 2 ∧ I 30 7 = nI t.2.2.2.1) ∧
  (t.1 = 18 → I 30 4 = 3 ∧ L 30 6 = lN (pkB 256 t.2.2.1) ∧ I 30 7 = nI t.2.2.1.length) ∧
  (t.1 = 19 → I 30 4 = 4 ∧ I 30 7 = 123) ∧ (t.1 = 20 → I 30 4 = 4 ∧ I 30 7 = 125) ∧ (t.1 = 21 → I 30 4 = 4 ∧ I 30 7 = 58) ∧ (t.1 = 22 → I 30 4 = 4 ∧ I 30 7 = 59) ∧ (t.1 = 23 → I 30 4 = 4 ∧ I 30 7 = 44) ∧ (t.1 = 24 → I 30 4 = 4 ∧ I 30 7 = 61) ∧ (t.1 = 25 → I 30 4 = 4 ∧ I 30 7 = 45) ∧ (t.1 = 26 → I 30 4 = 4 ∧ I 30 7 = 62)
theorem word_srch7 {L : Nat → Nat → Int64} (hw : WdM L) {cs : List Nat} (hcs : NmOk cs) : ∀ j, j < 15 → ((L 31 j = lN (pkB 128 cs)) ↔ wordL.getD j [] = cs) := fun j hj => by
  rw [hw j hj]
  exact nm_inj7 (wordL_get hj) hcs
theorem wordIx_le {cs : List Nat} : wordIx cs ≤ 15 := by
  by_cases hm : cs ∈ wordL
  · have := wordIx_in hm; omega
  · rw [wordIx_out hm]; exact Nat.le_refl _
theorem wordIx_at {cs : List Nat} {j : Nat} (hj : j < 15) (h : wordL.getD j [] = cs) (hmin : ∀ k, k < j → ¬ wordL.getD k [] = cs) : wordIx cs = j := by
  have hl : j < wordL.length := by rw [wordL_len]; exact hj
  have hg : wordL.getD j [] = wordL[j] := by rw [List.getD_eq_getElem?_getD, List.getElem?_eq_getElem hl]; rfl
  have hm : cs ∈ wordL := by rw [← h, hg]; exact List.getElem_mem _
  have h1 := wordIx_in hm
  have h2 : wordL.getD (wordIx cs) [] = cs := by
    have hl2 : wordIx cs < wordL.length := by rw [wordL_len]; exact h1
    rw [List.getD_eq_getElem?_getD, List.getElem?_eq_getElem hl2]
    exact List.getElem_idxOf hl2
  have h3 : ¬ wordIx cs < j := fun z => hmin _ z h2
  have hnd : ∀ a b : Fin 15, wordL.getD a.val [] = wordL.getD b.val [] → a = b := by decide +kernel
  have := hnd ⟨wordIx cs, h1⟩ ⟨j, hj⟩ (by rw [h2, h])
  exact congrArg Fin.val this
theorem wordIx_none {cs : List Nat} (h : ∀ k, k < 15 → ¬ wordL.getD k [] = cs) : wordIx cs = 15 := by
  by_cases hm : cs ∈ wordL
  · have h1 := wordIx_in hm
    have hl2 : wordIx cs < wordL.length := by rw [wordL_len]; exact h1
    refine absurd ?_ (h _ h1)
    rw [List.getD_eq_getElem?_getD, List.getElem?_eq_getElem hl2]
    exact List.getElem_idxOf hl2
  · exact wordIx_out hm
end
section
theorem r_octetJ {XL : Nat} {XS : Nat → Int32} {n : Nat} {C : mC} {I : Nat → Nat → Int32} {L : Nat → Nat → Int64} {K : mK} {tx : List Nat} {j : Nat} {x : Int32} (hC : m_Ge XL XS (n + 1) C) (ht : TxOk tx) (h : TxM tx I) (hx : x = nI j) (hj : j < 2 ^ 31) (hK : K (some (.int (toc tx j))) (m_SH, I, L)) : C 104 [.ref 30, .int x] (m_SH, I, L) K := by
  subst hx
  exact r_octet' hC ht h hj hK
set_option maxHeartbeats 1000000 in
theorem r_nextName {XL : Nat} {XS : Nat → Int32} {n : Nat} {C : mC} {I : Nat → Nat → Int32} {L : Nat → Nat → Int64} {K : mK} {tx : List Nat} {p : Nat} (hC : m_Ge XL XS (n + 2) C) (ht : TxOk tx) (h : TxM tx I) (hw : WdM L) (hp : p < tx.length) (hpos : I 30 3 = nI p)
    (hK : ∀ I' L', (8 < scan qN tx p - p → I' 30 4 = 6) → (¬ 8 < scan qN tx p - p → I' 30 3 = nI (scan qN tx p) ∧ (wordIx (slice tx p (scan qN tx p)) < 15 → I' 30 4 = 5 ∧ I' 30 7 = nI (wordIx (slice tx p (scan qN tx p)))) ∧ (wordIx (slice tx p (scan qN tx p)) = 15 → I' 30 4 = 1 ∧ L' 30 6 = lN (pkB 128 (slice tx p (scan qN tx p))))) → Fr S_nx I I' → I' 30 5 = I 30 5 → Fr S_nxL L L' → K none (m_SH, I', L')) : C 108 [.ref 30] (m_SH, I, L) K := by
  have hl := ht.1
  have hb := scan_le (q := qN) (tx := tx) (i := p) (by omega)
  refine e_X9_nextName hC (Nat.le_of_ble_eq_true rfl) ?_
  intro C' hC' P hP
  -- the words
  have wl : ∀ (m k : Nat) (J : Nat → Nat → Int32) (M : Nat → Nat → Int64), ¬ 8 < scan qN tx p - p → k + m = 15 → J 30 4 = 1 → (∀ i, i < k → ¬ wordL.getD i [] = slice tx p (scan qN tx p)) → J 30 3 = nI (scan qN tx p) → M 30 6 = lN (pkB 128 (slice tx p (scan qN tx p))) → Fr S_nx I J → J 30 5 = I 30 5 → Fr S_nxL L M → P (101, [some (.ref 30), some (.int (nI (scan qN tx p - p))), some (.int (nI k))], [], (m_SH, J, M), 0, 0) := by
    intro m
    induction m with
    | zero =>
      intro k J M h8 hk h4 hno h3 h6 hFI hF5 hFL
      have hk15 : k = 15 := by omega
      subst hk15
      repeat (refine hP _ ?_; conv => whnf)
      refine ⟨fun q => absurd q (by decide), fun _ => ?_⟩
      repeat (refine hP _ ?_; conv => whnf)
      have hwx := wordIx_none hno
      exact hK J M (fun z => absurd z h8) (fun _ => ⟨h3, fun z => by omega, fun _ => ⟨h4, h6⟩⟩) hFI hF5 hFL
    | succ m ih =>
      intro k J M h8 hk h4 hno h3 h6 hFI hF5 hFL
      have hcs := nm_slice ht (i := p) (by omega) (by omega)
      have hwM := hw.fr hFL (fun _ => rfl)
      repeat (refine hP _ ?_; conv => whnf)
      refine ⟨fun _ => ?_, fun q => absurd (show nI k < 15 from nI_lt (a := k) (b := 15) (by omega) (by omega)) q⟩
      repeat (refine hP _ ?_; conv => whnf)
      rw [h4]
      refine ⟨fun _ => ?_, fun q => absurd rfl q⟩
      repeat (refine hP _ ?_; conv => whnf)
      refine ⟨vp_in_nI (by omega) (by omega), ?_⟩
      repeat (refine hP _ ?_; conv => whnf)
      rw [nI_clamp (by omega), lg_cmp_eq, h6, word_srch7 hwM hcs k (by omega)]
      refine ⟨fun q => ?_, fun q => ?_⟩
      · have hwx := wordIx_at (by omega) q hno
        iterate 8 (refine hP _ ?_; conv => whnf)
        -- the next turn ends it
        repeat (refine hP _ ?_; conv => whnf)
        refine ⟨fun _ => ?_, fun _ => ?_⟩
        · repeat (refine hP _ ?_; conv => whnf)
          rw [m_upr, if_pos rfl, if_neg (by decide), m_upr, if_pos rfl, if_pos rfl]
          refine ⟨fun z => absurd z (by decide), fun _ => ?_⟩
          repeat (refine hP _ ?_; conv => whnf)
          exact hK _ M (fun z => absurd z h8) (fun _ => ⟨by simp [m_upr, h3], fun _ => by simp [m_upr, hwx], fun z => by omega⟩) ((hFI.up rfl).up rfl) (by simp [m_upr, hF5]) hFL
        · repeat (refine hP _ ?_; conv => whnf)
          exact hK _ M (fun z => absurd z h8) (fun _ => ⟨by simp [m_upr, h3], fun _ => by simp [m_upr, hwx], fun z => by omega⟩) ((hFI.up rfl).up rfl) (by simp [m_upr, hF5]) hFL
      · iterate 2 (refine hP _ ?_; conv => whnf)
        have e := ih (k + 1) J M h8 (by omega) h4 (fun i hi => by
          by_cases hik : i = k
          · subst hik; exact q
          · exact hno i (by omega)) h3 h6 hFI hF5 hFL
        rw [← nI_1] at e
        exact e
  -- behind the signs
  have hex : ∀ (J : Nat → Nat → Int32) (M : Nat → Nat → Int64), J 30 3 = nI (scan qN tx p) → (scan qN tx p - p ≤ 8 → M 30 6 = lN (pkB 128 (slice tx p (scan qN tx p)))) → Fr S_nx I J → J 30 5 = I 30 5 → Fr S_nxL L M → P (83, [some (.ref 30), some (.int (nI (scan qN tx p - p))), none], [], (m_SH, J, M), 0, 0) := by
    intro J M h3 h6 hFI hF5 hFL
    repeat (refine hP _ ?_; conv => whnf)
    refine ⟨fun q => ?_, fun q => ?_⟩
    · have h8 := (nI_ltI (a := 8) (by omega) (by omega)).mp q
      repeat (refine hP _ ?_; conv => whnf)
      refine ⟨fun _ => ?_, fun z => absurd (by decide) z⟩
      repeat (refine hP _ ?_; conv => whnf)
      rw [m_upr, if_pos rfl, if_pos rfl]
      refine ⟨fun z => absurd z (by decide), fun _ => ?_⟩
      repeat (refine hP _ ?_; conv => whnf)
      exact hK _ M (fun _ => by simp [m_upr]) (fun z => absurd h8 z) (hFI.up rfl) (by simp [m_upr, hF5]) hFL
    · have h8 : ¬ 8 < scan qN tx p - p := fun z => q (nI_lt (a := 8) z (by omega))
      iterate 4 (refine hP _ ?_; conv => whnf)
      exact wl 15 0 _ M h8 (by omega) (by simp [m_upr]) (fun i hi => by omega) (by simp [m_upr, h3]) (h6 (by omega)) (hFI.up rfl) (by simp [m_upr, hF5]) hFL
  have loop : ∀ (m j : Nat) (J : Nat → Nat → Int32) (M : Nat → Nat → Int64), p ≤ j → j + m = tx.length → scan qN tx j = scan qN tx p → J 30 3 = nI j → (j - p ≤ 8 → M 30 6 = lN (pkB 128 (slice tx p j))) → Fr S_nx I J → J 30 5 = I 30 5 → Fr S_nxL L M → P (12, [some (.ref 30), some (.int (nI (j - p))), none], [], (m_SH, J, M), 0, 0) := by
    intro m
    induction m with
    | zero =>
      intro j J M hpj hj hs h3 h6 hFI hF5 hFL
      have hJ := h.fr hFI rfl (fun _ => rfl)
      have hqe := (q_end (tx := tx) (j := j) (by omega)).1
      rw [scan_ge (by omega)] at hs
      repeat (refine hP _ ?_; conv => whnf)
      refine r_octetJ hC' ht hJ h3 (by omega) ?_
      repeat (refine hP _ ?_; conv => whnf)
      refine r_isSmall hC' ?_
      repeat (refine hP _ ?_; conv => whnf)
      refine ⟨fun q => ?_, fun q => absurd (qN_iff.mpr (Or.inl q)) hqe⟩
      repeat (refine hP _ ?_; conv => whnf)
      refine r_octetJ hC' ht hJ h3 (by omega) ?_
      repeat (refine hP _ ?_; conv => whnf)
      refine r_isFigure hC' ?_
      repeat (refine hP _ ?_; conv => whnf)
      refine ⟨fun q => ?_, fun q => absurd (qN_iff.mpr (Or.inr q)) hqe⟩
      have e := hex J M (by rw [← hs]; exact h3) (by rw [← hs]; exact h6) hFI hF5 hFL
      rw [← hs] at e
      exact e
    | succ m ih =>
      intro j J M hpj hj hs h3 h6 hFI hF5 hFL
      have hJ := h.fr hFI rfl (fun _ => rfl)
      have go : qN (toc tx j) = true → P (40, [some (.ref 30), some (.int (nI (j - p))), none], [], (m_SH, J, M), 0, 0) := by
        intro hq
        rcases scan_at (q := qN) (by omega) hs with ⟨-, hs2, hlt⟩ | ⟨hn, -⟩
        · repeat (refine hP _ ?_; conv => whnf)
          refine ⟨fun q => ?_, fun q => ?_⟩
          · have h8 := (nI_ltI (b := 8) (by omega) (by omega)).mp q
            repeat (refine hP _ ?_; conv => whnf)
            refine r_octetJ hC' ht hJ h3 (by omega) ?_
            rw [h6 (by omega)]
            have hst := pk7_step (tx := tx) (i := p) (j := j) hpj (by omega) h8 (fun c hc => by
              have h1 := slice_q (q := qN) (tx := tx) (i := p) (by omega) (j := j + 1) (by omega) c hc
              rcases qN_rng c (ht.2 c (slice_mem hc)) h1 with h | h <;> omega)
            iterate 11 (refine hP _ ?_; conv => whnf)
            have e := ih (j + 1) (m_up J 30 3 (nI (j + 1))) (m_upL M 30 6 (lN (pkB 128 (slice tx p (j + 1))))) (by omega) (by omega) hs2 (by simp [m_upr]) (fun _ => by simp [m_uprL]) (hFI.up rfl) (by simp [m_upr, hF5]) (hFL.upL rfl)
            rw [show j + 1 - p = (j - p) + 1 by omega, ← nI_1, ← nI_1, ← h3, ← hst] at e
            exact e
          · have h8 : ¬ j - p < 8 := fun z => q (nI_lt (b := 8) z (by omega))
            iterate 8 (refine hP _ ?_; conv => whnf)
            have e := ih (j + 1) (m_up J 30 3 (nI (j + 1))) M (by omega) (by omega) hs2 (by simp [m_upr]) (fun z => by omega) (hFI.up rfl) (by simp [m_upr, hF5]) hFL
            rw [show j + 1 - p = (j - p) + 1 by omega, ← nI_1, ← nI_1, ← h3] at e
            exact e
        · exact absurd hq hn
      repeat (refine hP _ ?_; conv => whnf)
      refine r_octetJ hC' ht hJ h3 (by omega) ?_
      repeat (refine hP _ ?_; conv => whnf)
      refine r_isSmall hC' ?_
      repeat (refine hP _ ?_; conv => whnf)
      refine ⟨fun q => ?_, fun q => go (qN_iff.mpr (Or.inl q))⟩
      repeat (refine hP _ ?_; conv => whnf)
      refine r_octetJ hC' ht hJ h3 (by omega) ?_
      repeat (refine hP _ ?_; conv => whnf)
      refine r_isFigure hC' ?_
      repeat (refine hP _ ?_; conv => whnf)
      refine ⟨fun q2 => ?_, fun q2 => go (qN_iff.mpr (Or.inr q2))⟩
      have hn : ¬ qN (toc tx j) = true := fun z => by rcases qN_iff.mp z with z | z; exact z q; exact z q2
      rcases scan_at (q := qN) (by omega) hs with ⟨hq, -, -⟩ | ⟨-, hs2⟩
      · exact absurd hq hn
      · have e := hex J M (by rw [hs2]; exact h3) (by rw [hs2]; exact h6) hFI hF5 hFL
        rw [hs2] at e
        exact e
  iterate 8 (refine hP _ ?_; conv => whnf)
  have e := loop (tx.length - p) p (m_up I 30 4 1) (m_upL L 30 6 0) (Nat.le_refl _) (by omega) rfl (by simp [m_upr, hpos]) (fun _ => by simp [m_uprL, slice_nil, pkB]; rfl) (Fr.rf.up rfl) (by simp [m_upr]) (Fr.rf.upL rfl)
  rw [Nat.sub_self] at e
  exact e
end
section
theorem decV_snoc (l : List Nat) (c : Nat) : decV (l ++ [c]) = decV l * 10 + (c - 48) := by
  unfold decV
  rw [List.foldl_append]
  rfl
set_option maxHeartbeats 1000000 in
theorem r_nextNumber {XL : Nat} {XS : Nat → Int32} {n : Nat} {C : mC} {I : Nat → Nat → Int32} {L : Nat → Nat → Int64} {K : mK} {tx : List Nat} {p : Nat} (hC : m_Ge XL XS (n + 2) C) (ht : TxOk tx) (h : TxM tx I) (hp : p < tx.length) (hpos : I 30 3 = nI p)
    (hK : ∀ I', (9 < scan qF tx p - p → I' 30 4 = 6) → (¬ 9 < scan qF tx p - p → I' 30 3 = nI (scan qF tx p) ∧ I' 30 4 = 2 ∧ I' 30 7 = nI (decV (slice tx p (scan qF tx p)))) → Fr S_nx I I' → I' 30 5 = I 30 5 → K none (m_SH, I', L)) : C 109 [.ref 30] (m_SH, I, L) K := by
  have hl := ht.1
  have hb := scan_le (q := qF) (tx := tx) (i := p) (by omega)
  refine e_X9_nextNumber hC (Nat.le_of_ble_eq_true rfl) ?_
  intro C' hC' P hP
  have hex : ∀ (J : Nat → Nat → Int32), J 30 3 = nI (scan qF tx p) → (scan qF tx p - p ≤ 9 → J 30 7 = nI (decV (slice tx p (scan qF tx p)))) → Fr S_nx I J → J 30 5 = I 30 5 → P (66, [some (.ref 30), some (.int (nI (scan qF tx p - p)))], [], (m_SH, J, L), 0, 0) := by
    intro J h3 h7 hFI hF5
    repeat (refine hP _ ?_; conv => whnf)
    refine ⟨fun q => ?_, fun q => ?_⟩
    · have h8 := (nI_ltI (a := 9) (by omega) (by omega)).mp q
      repeat (refine hP _ ?_; conv => whnf)
      exact hK _ (fun _ => by simp [m_upr]) (fun z => absurd h8 z) (hFI.up rfl) (by simp [m_upr, hF5])
    · have h8 : ¬ 9 < scan qF tx p - p := fun z => q (nI_lt (a := 9) z (by omega))
      repeat (refine hP _ ?_; conv => whnf)
      exact hK _ (fun z => absurd z h8) (fun _ => ⟨by simp [m_upr, h3], by simp [m_upr], by simp [m_upr, h7 (by omega)]⟩) (hFI.up rfl) (by simp [m_upr, hF5])
  have loop : ∀ (m j : Nat) (J : Nat → Nat → Int32), p ≤ j → j + m = tx.length → scan qF tx j = scan qF tx p → J 30 3 = nI j → (j - p ≤ 9 → J 30 7 = nI (decV (slice tx p j))) → Fr S_nx I J → J 30 5 = I 30 5 → P (7, [some (.ref 30), some (.int (nI (j - p)))], [], (m_SH, J, L), 0, 0) := by
    intro m
    induction m with
    | zero =>
      intro j J hpj hj hs h3 h7 hFI hF5
      have hJ := h.fr hFI rfl (fun _ => rfl)
      have hqe := (q_end (tx := tx) (j := j) (by omega)).2.1
      rw [scan_ge (by omega)] at hs
      repeat (refine hP _ ?_; conv => whnf)
      refine r_octetJ hC' ht hJ h3 (by omega) ?_
      repeat (refine hP _ ?_; conv => whnf)
      refine r_isFigure hC' ?_
      repeat (refine hP _ ?_; conv => whnf)
      refine ⟨fun q => ?_, fun q => absurd (qF_iff.mpr q) hqe⟩
      have e := hex J (by rw [← hs]; exact h3) (by rw [← hs]; exact h7) hFI hF5
      rw [← hs] at e
      exact e
    | succ m ih =>
      intro j J hpj hj hs h3 h7 hFI hF5
      have hJ := h.fr hFI rfl (fun _ => rfl)
      repeat (refine hP _ ?_; conv => whnf)
      refine r_octetJ hC' ht hJ h3 (by omega) ?_
      repeat (refine hP _ ?_; conv => whnf)
      refine r_isFigure hC' ?_
      repeat (refine hP _ ?_; conv => whnf)
      refine ⟨fun q => ?_, fun q => ?_⟩
      · rcases scan_at (q := qF) (by omega) hs with ⟨hq, -, -⟩ | ⟨-, hs2⟩
        · exact absurd q (qF_iff.mp hq)
        · have e := hex J (by rw [hs2]; exact h3) (by rw [hs2]; exact h7) hFI hF5
          rw [hs2] at e
          exact e
      · rcases scan_at (q := qF) (by omega) hs with ⟨hq, hs2, hlt⟩ | ⟨hn, -⟩
        · repeat (refine hP _ ?_; conv => whnf)
          refine ⟨fun q => ?_, fun q => ?_⟩
          · have h8 := (nI_ltI (b := 9) (by omega) (by omega)).mp q
            repeat (refine hP _ ?_; conv => whnf)
            refine r_octetJ hC' ht hJ h3 (by omega) ?_
            have hfg := qF_rng (tx.getD j 0) (tx_lt ht j) (by rw [← toc_lt (by omega)]; exact hq)
            have hst : J 30 7 * 10 + toc tx j - 48 = nI (decV (slice tx p (j + 1))) := by
              rw [h7 (by omega), slice_snoc hpj (by omega), decV_snoc, toc_lt (by omega), show (10 : Int32) = nI 10 from rfl, pk_mul, nI_add, show (48 : Int32) = nI 48 from rfl, sub_nI (by omega)]
              congr 1
              omega
            iterate 12 (refine hP _ ?_; conv => whnf)
            have e := ih (j + 1) (m_up (m_up J 30 7 (nI (decV (slice tx p (j + 1))))) 30 3 (nI (j + 1))) (by omega) (by omega) hs2 (by simp [m_upr]) (fun _ => by simp [m_upr]) ((hFI.up rfl).up rfl) (by simp [m_upr, hF5])
            have e3 : m_up J 30 7 (nI (decV (slice tx p (j + 1)))) 30 3 = nI j := by simp [m_upr, h3]
            rw [show j + 1 - p = (j - p) + 1 by omega, ← nI_1, ← nI_1, ← e3, ← hst] at e
            exact e
          · have h8 : ¬ j - p < 9 := fun z => q (nI_lt (b := 9) z (by omega))
            iterate 8 (refine hP _ ?_; conv => whnf)
            have e := ih (j + 1) (m_up J 30 3 (nI (j + 1))) (by omega) (by omega) hs2 (by simp [m_upr]) (fun z => by omega) (hFI.up rfl) (by simp [m_upr, hF5])
            rw [show j + 1 - p = (j - p) + 1 by omega, ← nI_1, ← nI_1, ← h3] at e
            exact e
        · exact absurd (qF_iff.mpr q) hn
  iterate 5 (refine hP _ ?_; conv => whnf)
  have e := loop (tx.length - p) p (m_up I 30 7 0) (Nat.le_refl _) (by omega) rfl (by simp [m_upr, hpos]) (fun _ => by simp [m_upr, slice_nil, decV]; rfl) (Fr.rf.up rfl) (by simp [m_upr])
  rw [Nat.sub_self] at e
  exact e
theorem qT_iff2 {x : Int32} : qT x = true ↔ (¬ isSm x = 0 ∨ ¬ isFg x = 0 ∨ (¬ x < 65 ∧ ¬ 90 < x)) := by
  rw [qT_iff]
  unfold isTs
  by_cases h1 : isSm x = 0
  · by_cases h2 : isFg x = 0
    · by_cases h3 : x < 65
      · simp [h1, h2, h3]
      · by_cases h4 : 90 < x
        · simp [h1, h2, h3, h4]
        · simp [h1, h2, h3, h4]
    · simp [h1, h2]
  · simp [h1]
set_option maxHeartbeats 2000000 in
theorem r_nextText {XL : Nat} {XS : Nat → Int32} {n : Nat} {C : mC} {I : Nat → Nat → Int32} {L : Nat → Nat → Int64} {K : mK} {tx : List Nat} {p : Nat} (hC : m_Ge XL XS (n + 2) C) (ht : TxOk tx) (h : TxM tx I) (hp : p < tx.length) (hpos : I 30 3 = nI p)
    (hK : ∀ I' L', (¬ (toc tx (scan qT tx (p + 1)) = 34 ∧ scan qT tx (p + 1) - (p + 1) ≤ 8) → I' 30 4 = 6) → ((toc tx (scan qT tx (p + 1)) = 34 ∧ scan qT tx (p + 1) - (p + 1) ≤ 8) → I' 30 3 = nI (scan qT tx (p + 1) + 1) ∧ I' 30 4 = 3 ∧ I' 30 7 = nI (scan qT tx (p + 1) - (p + 1)) ∧ L' 30 6 = lN (pkB 256 (slice tx (p + 1) (scan qT tx (p + 1))))) → Fr S_nx I I' → I' 30 5 = I 30 5 → Fr S_nxL L L' → K none (m_SH, I', L')) : C 110 [.ref 30] (m_SH, I, L) K := by
  have hl := ht.1
  have hb := scan_le (q := qT) (tx := tx) (i := p + 1) (by omega)
  refine e_X9_nextText hC (Nat.le_of_ble_eq_true rfl) ?_
  intro C' hC' P hP
  have hex : ∀ (J : Nat → Nat → Int32) (M : Nat → Nat → Int64), J 30 3 = nI (scan qT tx (p + 1)) → (scan qT tx (p + 1) - (p + 1) ≤ 8 → M 30 6 = lN (pkB 256 (slice tx (p + 1) (scan qT tx (p + 1))))) → Fr S_nx I J → J 30 5 = I 30 5 → Fr S_nxL L M → P (114, [some (.ref 30), some (.int (nI (scan qT tx (p + 1) - (p + 1))))], [], (m_SH, J, M), 0, 0) := by
    intro J M h3 h6 hFI hF5 hFL
    have hJ2 : ∀ x, TxM tx (m_up J 30 7 x) := fun x => h.fr (hFI.up rfl) rfl (fun _ => rfl)
    repeat (refine hP _ ?_; conv => whnf)
    refine r_octetJ hC' ht (hJ2 _) (show m_up J 30 7 _ 30 3 = nI (scan qT tx (p + 1)) by simp [m_upr, h3]) (by omega) ?_
    repeat (refine hP _ ?_; conv => whnf)
    refine ⟨fun q => ?_, fun q => ?_⟩
    · repeat (refine hP _ ?_; conv => whnf)
      refine ⟨fun q2 => ?_, fun q2 => ?_⟩
      · have h8 := (nI_ltI (a := 8) (by omega) (by omega)).mp q2
        repeat (refine hP _ ?_; conv => whnf)
        exact hK _ M (fun _ => by simp [m_upr]) (fun z => by omega) (((hFI.up rfl).up rfl).up rfl) (by simp [m_upr, hF5]) hFL
      · have h8 : ¬ 8 < scan qT tx (p + 1) - (p + 1) := fun z => q2 (nI_lt (a := 8) z (by omega))
        repeat (refine hP _ ?_; conv => whnf)
        exact hK _ M (fun z => absurd ⟨q, by omega⟩ z) (fun _ => ⟨by simp [m_upr, h3, nI_1], by simp [m_upr], by simp [m_upr], h6 (by omega)⟩) (((hFI.up rfl).up rfl).up rfl) (by simp [m_upr, hF5]) hFL
    · repeat (refine hP _ ?_; conv => whnf)
      exact hK _ M (fun _ => by simp [m_upr]) (fun z => absurd z.1 q) (((hFI.up rfl).up rfl).up rfl) (by simp [m_upr, hF5]) hFL
  have loop : ∀ (m j : Nat) (J : Nat → Nat → Int32) (M : Nat → Nat → Int64), p + 1 ≤ j → j + m = tx.length → scan qT tx j = scan qT tx (p + 1) → J 30 3 = nI j → (j - (p + 1) ≤ 8 → M 30 6 = lN (pkB 256 (slice tx (p + 1) j))) → Fr S_nx I J → J 30 5 = I 30 5 → Fr S_nxL L M → P (17, [some (.ref 30), some (.int (nI (j - (p + 1))))], [], (m_SH, J, M), 0, 0) := by
    intro m
    induction m with
    | zero =>
      intro j J M hpj hj hs h3 h6 hFI hF5 hFL
      have hJ := h.fr hFI rfl (fun _ => rfl)
      have hqe := (q_end (tx := tx) (j := j) (by omega)).2.2.1
      rw [scan_ge (by omega)] at hs
      have out : P (114, [some (.ref 30), some (.int (nI (j - (p + 1))))], [], (m_SH, J, M), 0, 0) := by
        have e := hex J M (by rw [← hs]; exact h3) (by rw [← hs]; exact h6) hFI hF5 hFL
        rw [← hs] at e
        exact e
      repeat (refine hP _ ?_; conv => whnf)
      refine r_octetJ hC' ht hJ h3 (by omega) ?_
      repeat (refine hP _ ?_; conv => whnf)
      refine r_isSmall hC' ?_
      repeat (refine hP _ ?_; conv => whnf)
      refine ⟨fun q => ?_, fun q => absurd (qT_iff2.mpr (Or.inl q)) hqe⟩
      repeat (refine hP _ ?_; conv => whnf)
      refine r_octetJ hC' ht hJ h3 (by omega) ?_
      repeat (refine hP _ ?_; conv => whnf)
      refine r_isFigure hC' ?_
      repeat (refine hP _ ?_; conv => whnf)
      refine ⟨fun q => ?_, fun q => absurd (qT_iff2.mpr (Or.inr (Or.inl q))) hqe⟩
      repeat (refine hP _ ?_; conv => whnf)
      refine r_octetJ hC' ht hJ h3 (by omega) ?_
      repeat (refine hP _ ?_; conv => whnf)
      refine ⟨fun q => out, fun q => ?_⟩
      repeat (refine hP _ ?_; conv => whnf)
      refine r_octetJ hC' ht hJ h3 (by omega) ?_
      repeat (refine hP _ ?_; conv => whnf)
      refine ⟨fun q2 => out, fun q2 => absurd (qT_iff2.mpr (Or.inr (Or.inr ⟨q, q2⟩))) hqe⟩
    | succ m ih =>
      intro j J M hpj hj hs h3 h6 hFI hF5 hFL
      have hJ := h.fr hFI rfl (fun _ => rfl)
      have out : ¬ qT (toc tx j) = true → P (114, [some (.ref 30), some (.int (nI (j - (p + 1))))], [], (m_SH, J, M), 0, 0) := by
        intro hn
        rcases scan_at (q := qT) (by omega) hs with ⟨hq, -, -⟩ | ⟨-, hs2⟩
        · exact absurd hq hn
        · have e := hex J M (by rw [hs2]; exact h3) (by rw [hs2]; exact h6) hFI hF5 hFL
          rw [hs2] at e
          exact e
      have go : qT (toc tx j) = true → P (71, [some (.ref 30), some (.int (nI (j - (p + 1))))], [], (m_SH, J, M), 0, 0) := by
        intro hq
        rcases scan_at (q := qT) (by omega) hs with ⟨-, hs2, hlt⟩ | ⟨hn, -⟩
        · repeat (refine hP _ ?_; conv => whnf)
          refine ⟨fun q => ?_, fun q => ?_⟩
          · have h8 := (nI_ltI (b := 8) (by omega) (by omega)).mp q
            repeat (refine hP _ ?_; conv => whnf)
            refine r_octetJ hC' ht hJ h3 (by omega) ?_
            rw [h6 (by omega)]
            have hst := pk8_step (tx := tx) (i := p + 1) (j := j) hpj (by omega) h8 (fun c hc => by
              have h1 := slice_q (q := qT) (tx := tx) (i := p + 1) (by omega) (j := j + 1) (by omega) c hc
              rcases qT_rng c (ht.2 c (slice_mem hc)) h1 with h | h | h <;> omega)
            iterate 11 (refine hP _ ?_; conv => whnf)
            have e := ih (j + 1) (m_up J 30 3 (nI (j + 1))) (m_upL M 30 6 (lN (pkB 256 (slice tx (p + 1) (j + 1))))) (by omega) (by omega) hs2 (by simp [m_upr]) (fun _ => by simp [m_uprL]) (hFI.up rfl) (by simp [m_upr, hF5]) (hFL.upL rfl)
            rw [show j + 1 - (p + 1) = (j - (p + 1)) + 1 by omega, ← nI_1 (j - (p + 1)), ← nI_1 j, ← h3, ← hst] at e
            exact e
          · have h8 : ¬ j - (p + 1) < 8 := fun z => q (nI_lt (b := 8) z (by omega))
            iterate 8 (refine hP _ ?_; conv => whnf)
            have e := ih (j + 1) (m_up J 30 3 (nI (j + 1))) M (by omega) (by omega) hs2 (by simp [m_upr]) (fun z => by omega) (hFI.up rfl) (by simp [m_upr, hF5]) hFL
            rw [show j + 1 - (p + 1) = (j - (p + 1)) + 1 by omega, ← nI_1 (j - (p + 1)), ← nI_1 j, ← h3] at e
            exact e
        · exact absurd hq hn
      repeat (refine hP _ ?_; conv => whnf)
      refine r_octetJ hC' ht hJ h3 (by omega) ?_
      repeat (refine hP _ ?_; conv => whnf)
      refine r_isSmall hC' ?_
      repeat (refine hP _ ?_; conv => whnf)
      refine ⟨fun q1 => ?_, fun q => go (qT_iff2.mpr (Or.inl q))⟩
      repeat (refine hP _ ?_; conv => whnf)
      refine r_octetJ hC' ht hJ h3 (by omega) ?_
      repeat (refine hP _ ?_; conv => whnf)
      refine r_isFigure hC' ?_
      repeat (refine hP _ ?_; conv => whnf)
      refine ⟨fun q2 => ?_, fun q => go (qT_iff2.mpr (Or.inr (Or.inl q)))⟩
      repeat (refine hP _ ?_; conv => whnf)
      refine r_octetJ hC' ht hJ h3 (by omega) ?_
      repeat (refine hP _ ?_; conv => whnf)
      refine ⟨fun q3 => out (fun z => ?_), fun q3 => ?_⟩
      · rcases qT_iff2.mp z with z | z | z
        · exact z q1
        · exact z q2
        · exact z.1 q3
      · repeat (refine hP _ ?_; conv => whnf)
        refine r_octetJ hC' ht hJ h3 (by omega) ?_
        repeat (refine hP _ ?_; conv => whnf)
        refine ⟨fun q4 => out (fun z => ?_), fun q4 => go (qT_iff2.mpr (Or.inr (Or.inr ⟨q3, q4⟩)))⟩
        rcases qT_iff2.mp z with z | z | z
        · exact z q1
        · exact z q2
        · exact z.2 q4
  iterate 11 (refine hP _ ?_; conv => whnf)
  have e := loop (tx.length - (p + 1)) (p + 1) (m_up I 30 3 (nI (p + 1))) (m_upL L 30 6 0) (Nat.le_refl _) (by omega) rfl (by simp [m_upr]) (fun _ => by simp [m_uprL, slice_nil, pkB]; rfl) (Fr.rf.up rfl) (by simp [m_upr]) (Fr.rf.upL rfl)
  rw [Nat.sub_self, ← nI_1 p, ← hpos] at e
  exact e
end
section
theorem MT_27 {t : Tok} {I : Nat → Nat → Int32} {L : Nat → Nat → Int64} (hk : t.1 = 27) (h5 : I 30 5 = nI t.2.1) (h : I 30 4 = 0) : MT t I L := by
  refine ⟨h5, fun _ => h, ?_, ?_, ?_, ?_, ?_, ?_, ?_, ?_, ?_, ?_, ?_, ?_, ?_⟩ <;> intro z <;> omega
theorem MT_28 {t : Tok} {I : Nat → Nat → Int32} {L : Nat → Nat → Int64} (hk : t.1 = 28) (h5 : I 30 5 = nI t.2.1) (h : I 30 4 = 6) : MT t I L := by
  refine ⟨h5, ?_, fun _ => h, ?_, ?_, ?_, ?_, ?_, ?_, ?_, ?_, ?_, ?_, ?_, ?_⟩ <;> intro z <;> omega
theorem MT_w {t : Tok} {I : Nat → Nat → Int32} {L : Nat → Nat → Int64} (hk : t.1 < 16) (h5 : I 30 5 = nI t.2.1) (h : I 30 4 = 5 ∧ I 30 7 = nI (t.1 - 1)) : MT t I L := by
  refine ⟨h5, ?_, ?_, fun _ => h, ?_, ?_, ?_, ?_, ?_, ?_, ?_, ?_, ?_, ?_, ?_⟩ <;> intro z <;> omega
theorem MT_16 {t : Tok} {I : Nat → Nat → Int32} {L : Nat → Nat → Int64} (hk : t.1 = 16) (h5 : I 30 5 = nI t.2.1) (h : I 30 4 = 1 ∧ L 30 6 = lN (pkB 128 t.2.2.1)) : MT t I L := by
  refine ⟨h5, ?_, ?_, ?_, fun _ => h, ?_, ?_, ?_, ?_, ?_, ?_, ?_, ?_, ?_, ?_⟩ <;> intro z <;> omega
theorem MT_17 {t : Tok} {I : Nat → Nat → Int32} {L : Nat → Nat → Int64} (hk : t.1 = 17) (h5 : I 30 5 = nI t.2.1) (h : I 30 4 = 2 ∧ I 30 7 = nI t.2.2.2.1) : MT t I L := by
  refine ⟨h5, ?_, ?_, ?_, ?_, fun _ => h, ?_, ?_, ?_, ?_, ?_, ?_, ?_, ?_, ?_⟩ <;> intro z <;> omega
theorem MT_18 {t : Tok} {I : Nat → Nat → Int32} {L : Nat → Nat → Int64} (hk : t.1 = 18) (h5 : I 30 5 = nI t.2.1) (h : I 30 4 = 3 ∧ L 30 6 = lN (pkB 256 t.2.2.1) ∧ I 30 7 = nI t.2.2.1.length) : MT t I L := by
  refine ⟨h5, ?_, ?_, ?_, ?_, ?_, fun _ => h, ?_, ?_, ?_, ?_, ?_, ?_, ?_, ?_⟩ <;> intro z <;> omega
/-- a sign's own number -/
def sgC (k : Nat) : Int32 := if k = 19 then 123 else if k = 20 then 125 else if k = 21 then 58 else if k = 22 then 59 else if k = 23 then 44 else if k = 24 then 61 else if k = 25 then 45 else 62
theorem MT_s {t : Tok} {I : Nat → Nat → Int32} {L : Nat → Nat → Int64} (hk : 19 ≤ t.1) (hk2 : t.1 ≤ 26) (h5 : I 30 5 = nI t.2.1) (h : I 30 4 = 4 ∧ I 30 7 = sgC t.1) : MT t I L := by
  refine ⟨h5, ?_, ?_, ?_, ?_, ?_, ?_, ?_, ?_, ?_, ?_, ?_, ?_, ?_, ?_⟩ <;> intro z <;> first | omega | (refine ⟨h.1, ?_⟩; rw [h.2, z]; rfl)
theorem sgN_C {x : Int32} (h : ¬ sgN x = 28) : sgC (sgN x) = x ∧ 19 ≤ sgN x ∧ sgN x ≤ 25 := by
  unfold sgN at h ⊢
  repeat' split
  all_goals first | (refine ⟨?_, by decide, by decide⟩; symm; assumption) | (exfalso; simp_all)
theorem slice_len2 {tx : List Nat} {i : Nat} (hi : i ≤ tx.length) {q : Int32 → Bool} : (slice tx i (scan q tx i)).length = scan q tx i - i := slice_len (scan_le hi).2
set_option maxHeartbeats 2000000 in
theorem r_next {XL : Nat} {XS : Nat → Int32} {n : Nat} {C : mC} {I : Nat → Nat → Int32} {L : Nat → Nat → Int64} {K : mK} {tx : List Nat} {f : Nat} (hC : m_Ge XL XS (n + 3) C) (ht : TxOk tx) (h : TxM tx I) (hw : WdM L) (hf : f ≤ tx.length) (hpos : I 30 3 = nI f)
    (hK : ∀ I' L', MT (tokAt tx (scan qB tx f)) I' L' → (¬ (tokAt tx (scan qB tx f)).1 = 28 → I' 30 3 = nI (tokAt tx (scan qB tx f)).2.2.2.2) → Fr S_nx I I' → Fr S_nxL L L' → K none (m_SH, I', L')) : C 107 [.ref 30] (m_SH, I, L) K := by
  have hl := ht.1
  have hb := scan_le (q := qB) (tx := tx) (i := f) hf
  refine e_X9_next hC (Nat.le_of_ble_eq_true rfl) ?_
  intro C' hC' P hP
  have hex : ∀ (J : Nat → Nat → Int32), J 30 3 = nI (scan qB tx f) → Fr S_nx I J → P (65, [some (.ref 30), none], [], (m_SH, J, L), 0, 0) := by
    generalize scan qB tx f = p at hb hK
    intro J h3 hFI
    have hJ2 : ∀ x, TxM tx (m_up J 30 5 x) := fun x => h.fr (hFI.up rfl) rfl (fun _ => rfl)
    have h32 : ∀ x, m_up J 30 5 x 30 3 = nI p := fun x => by simp [m_upr, h3]
    repeat (refine hP _ ?_; conv => whnf)
    refine r_octetJ hC' ht (hJ2 _) (h32 _) (by omega) ?_
    repeat (refine hP _ ?_; conv => whnf)
    refine ⟨fun q => ?_, fun q => ?_⟩
    · -- the end
      have hp : p = tx.length := by
        by_cases hz : p < tx.length
        · rw [toc_lt hz] at q
          exact absurd q (nI_pos (by have := tx_lt ht p; omega))
        · omega
      have htk : tokAt tx p = (27, p, [], 0, p) := by
        unfold tokAt
        rw [if_pos (by omega)]
      rw [htk] at hK
      repeat (refine hP _ ?_; conv => whnf)
      exact hK _ L (MT_27 rfl (by simp [m_upr, h3]) (by simp [m_upr])) (fun _ => by simp [m_upr, h3]) ((hFI.up rfl).up rfl) Fr.rf
    · have hp : p < tx.length := by
        by_cases hz : p < tx.length
        · exact hz
        · exact absurd (by rw [toc_ge (by omega)]; decide) q
      unfold tokAt at hK
      rw [if_neg (by omega)] at hK
      repeat (refine hP _ ?_; conv => whnf)
      refine r_isSmall hC' ?_
      repeat (refine hP _ ?_; conv => whnf)
      refine ⟨fun q1 => ?_, fun q1 => ?_⟩
      · rw [if_neg (by rw [q1]; decide)] at hK
        repeat (refine hP _ ?_; conv => whnf)
        refine r_isFigure hC' ?_
        repeat (refine hP _ ?_; conv => whnf)
        refine ⟨fun q2 => ?_, fun q2 => ?_⟩
        · rw [if_neg (by rw [q2]; decide)] at hK
          repeat (refine hP _ ?_; conv => whnf)
          refine ⟨fun q3 => ?_, fun q3 => ?_⟩
          · rw [if_pos q3] at hK
            repeat (refine hP _ ?_; conv => whnf)
            refine r_nextText hC' ht (hJ2 _) hp (h32 _) (fun I' L' k1 k2 k3 k4 k5 => ?_)
            repeat (refine hP _ ?_; conv => whnf)
            have h5 : I' 30 5 = nI p := by rw [k4]; simp [m_upr, h3]
            by_cases g : toc tx (scan qT tx (p + 1)) = 34 ∧ scan qT tx (p + 1) - (p + 1) ≤ 8
            · rw [if_pos g] at hK
              obtain ⟨a1, a2, a3, a4⟩ := k2 g
              exact hK I' L' (MT_18 rfl h5 ⟨a2, a4, by rw [a3, slice_len2 (by omega)]⟩) (fun _ => a1) ((hFI.up rfl).tr k3) k5
            · rw [if_neg g] at hK
              exact hK I' L' (MT_28 rfl h5 (k1 g)) (fun z => absurd rfl z) ((hFI.up rfl).tr k3) k5
          · rw [if_neg q3] at hK
            -- signs
            have tail : ∀ (b : Int32) (G : Nat → Nat → Int32), G 30 4 = b → G 30 3 = nI p → G 30 5 = nI p → Fr S_nx I G → (b = (if sgN (toc tx p) = 28 then 6 else 4)) → P (187, [some (.ref 30), some (.int (toc tx p))], [], (m_SH, G, L), 0, 0) := by
              intro b G g4 g3 g5 gF hbb
              have hG : ∀ x y, TxM tx (m_up (m_up G 30 7 x) 30 3 y) := fun x y => h.fr ((gF.up rfl).up rfl) rfl (fun _ => rfl)
              have e3 : ∀ x, m_up (m_up G 30 7 x) 30 3 (m_up G 30 7 x 30 3 + 1) 30 3 = nI (p + 1) := fun x => by simp [m_upr, g3, nI_1]
              have fin1 : ¬ (toc tx p = 45 ∧ toc tx (p + 1) = 62) → K none (m_SH, m_up (m_up G 30 7 (toc tx p)) 30 3 (m_up G 30 7 (toc tx p) 30 3 + 1), L) := by
                intro hn
                rw [if_neg hn] at hK
                by_cases g : sgN (toc tx p) = 28
                · rw [if_pos g] at hK hbb
                  exact hK _ L (MT_28 rfl (by simp [m_upr, g5]) (by simp [m_upr, g4, hbb])) (fun z => absurd rfl z) ((gF.up rfl).up rfl) Fr.rf
                · rw [if_neg g] at hK hbb
                  obtain ⟨c1, c2, c3⟩ := sgN_C g
                  exact hK _ L (MT_s c2 (by omega) (by simp [m_upr, g5]) ⟨by simp [m_upr, g4, hbb], by simp only [c1]; simp [m_upr]⟩) (fun _ => e3 _) ((gF.up rfl).up rfl) Fr.rf
              repeat (refine hP _ ?_; conv => whnf)
              refine ⟨fun q4 => ?_, fun q4 => ?_⟩
              · repeat (refine hP _ ?_; conv => whnf)
                refine r_octetJ hC' ht (hG _ _) (e3 _) (by omega) ?_
                repeat (refine hP _ ?_; conv => whnf)
                refine ⟨fun q5 => ?_, fun q5 => ?_⟩
                · rw [if_pos ⟨q4, q5⟩] at hK
                  have g45 : sgN (toc tx p) = 25 := by rw [q4]; decide
                  rw [if_neg (by rw [g45]; decide)] at hbb
                  repeat (refine hP _ ?_; conv => whnf)
                  exact hK _ L (MT_s (by simp) (by simp) (by simp [m_upr, g5]) ⟨by simp [m_upr, g4, hbb], by simp [m_upr]; rfl⟩) (fun _ => by simp [m_upr, g3, show (1 : Int32) = nI 1 from rfl, nI_add]) ((((gF.up rfl).up rfl).up rfl).up rfl) Fr.rf
                · repeat (refine hP _ ?_; conv => whnf)
                  exact fin1 (fun z => q5 z.2)
              · repeat (refine hP _ ?_; conv => whnf)
                exact fin1 (fun z => q4 z.1)
            have t4 : ¬ sgN (toc tx p) = 28 → P (178, [some (.ref 30), some (.int (toc tx p))], [.ref 30], (m_SH, m_up J 30 5 (J 30 3), L), 0, 0) := by
              intro g
              iterate 3 (refine hP _ ?_; conv => whnf)
              exact tail 4 _ (by simp [m_upr]) (by simp [m_upr, h3]) (by simp [m_upr, h3]) ((hFI.up rfl).up rfl) (by rw [if_neg g])
            repeat (refine hP _ ?_; conv => whnf)
            refine ⟨fun z => t4 (by rw [z]; decide), fun z1 => ?_⟩
            repeat (refine hP _ ?_; conv => whnf)
            refine ⟨fun z => t4 (by rw [z]; decide), fun z2 => ?_⟩
            repeat (refine hP _ ?_; conv => whnf)
            refine ⟨fun z => t4 (by rw [z]; decide), fun z3 => ?_⟩
            repeat (refine hP _ ?_; conv => whnf)
            refine ⟨fun z => t4 (by rw [z]; decide), fun z4 => ?_⟩
            repeat (refine hP _ ?_; conv => whnf)
            refine ⟨fun z => t4 (by rw [z]; decide), fun z5 => ?_⟩
            repeat (refine hP _ ?_; conv => whnf)
            refine ⟨fun z => t4 (by rw [z]; decide), fun z6 => ?_⟩
            repeat (refine hP _ ?_; conv => whnf)
            refine ⟨fun z => t4 (by rw [z]; decide), fun z7 => ?_⟩
            iterate 2 (refine hP _ ?_; conv => whnf)
            exact tail 6 _ (by simp [m_upr]) (by simp [m_upr, h3]) (by simp [m_upr, h3]) ((hFI.up rfl).up rfl) (by rw [if_pos (by simp [sgN, z1, z2, z3, z4, z5, z6, z7])])
        · rw [if_pos ((isFg_01 _).resolve_left q2)] at hK
          repeat (refine hP _ ?_; conv => whnf)
          refine r_nextNumber hC' ht (hJ2 _) hp (h32 _) (fun I' k1 k2 k3 k4 => ?_)
          repeat (refine hP _ ?_; conv => whnf)
          have h5 : I' 30 5 = nI p := by rw [k4]; simp [m_upr, h3]
          by_cases g : 9 < scan qF tx p - p
          · rw [if_pos g] at hK
            exact hK I' L (MT_28 rfl h5 (k1 g)) (fun z => absurd rfl z) ((hFI.up rfl).tr k3) Fr.rf
          · rw [if_neg g] at hK
            obtain ⟨a1, a2, a3⟩ := k2 g
            exact hK I' L (MT_17 rfl h5 ⟨a2, a3⟩) (fun _ => a1) ((hFI.up rfl).tr k3) Fr.rf
      · rw [if_pos ((isSm_01 _).resolve_left q1)] at hK
        repeat (refine hP _ ?_; conv => whnf)
        refine r_nextName hC' ht (hJ2 _) hw hp (h32 _) (fun I' L' k1 k2 k3 k4 k5 => ?_)
        repeat (refine hP _ ?_; conv => whnf)
        have h5 : I' 30 5 = nI p := by rw [k4]; simp [m_upr, h3]
        by_cases g : 8 < scan qN tx p - p
        · rw [if_pos g] at hK
          exact hK I' L' (MT_28 rfl h5 (k1 g)) (fun z => absurd rfl z) ((hFI.up rfl).tr k3) k5
        · rw [if_neg g] at hK
          obtain ⟨a1, a2, a3⟩ := k2 g
          have hle := wordIx_le (cs := slice tx p (scan qN tx p))
          by_cases gw : wordIx (slice tx p (scan qN tx p)) < 15
          · exact hK I' L' (MT_w (by simp only; omega) h5 (a2 gw)) (fun _ => a1) ((hFI.up rfl).tr k3) k5
          · have g15 : wordIx (slice tx p (scan qN tx p)) = 15 := by omega
            exact hK I' L' (MT_16 (by simp only; omega) h5 (a3 g15)) (fun _ => a1) ((hFI.up rfl).tr k3) k5
  have loop : ∀ (m j : Nat) (J : Nat → Nat → Int32), j + m = tx.length → scan qB tx j = scan qB tx f → J 30 3 = nI j → Fr S_nx I J → P (0, [some (.ref 30), none], [], (m_SH, J, L), 0, 0) := by
    intro m
    induction m with
    | zero =>
      intro j J hj hs h3 hFI
      have hJ := h.fr hFI rfl (fun _ => rfl)
      rw [scan_ge (by omega)] at hs
      have htc : toc tx j = -1 := toc_ge (by omega)
      repeat (refine hP _ ?_; conv => whnf)
      refine r_octetJ hC' ht hJ h3 (by omega) ?_
      rw [htc]
      repeat (refine hP _ ?_; conv => whnf)
      refine ⟨fun z => absurd z (by decide), fun _ => ?_⟩
      repeat (refine hP _ ?_; conv => whnf)
      refine r_octetJ hC' ht hJ h3 (by omega) ?_
      rw [htc]
      repeat (refine hP _ ?_; conv => whnf)
      refine ⟨fun z => absurd z (by decide), fun _ => ?_⟩
      repeat (refine hP _ ?_; conv => whnf)
      refine r_octetJ hC' ht hJ h3 (by omega) ?_
      rw [htc]
      repeat (refine hP _ ?_; conv => whnf)
      refine ⟨fun z => absurd z (by decide), fun _ => ?_⟩
      repeat (refine hP _ ?_; conv => whnf)
      refine r_octetJ hC' ht hJ h3 (by omega) ?_
      rw [htc]
      repeat (refine hP _ ?_; conv => whnf)
      refine ⟨fun z => absurd z (by decide), fun _ => ?_⟩
      exact hex J (by rw [← hs]; exact h3) hFI
    | succ m ih =>
      intro j J hj hs h3 hFI
      have hJ := h.fr hFI rfl (fun _ => rfl)
      have go : qB (toc tx j) = true → P (52, [some (.ref 30), none], [], (m_SH, J, L), 0, 0) := by
        intro hq
        rcases scan_at (q := qB) (by omega) hs with ⟨-, hs2, -⟩ | ⟨hn, -⟩
        · iterate 7 (refine hP _ ?_; conv => whnf)
          have e := ih (j + 1) (m_up J 30 3 (nI (j + 1))) (by omega) hs2 (by simp [m_upr]) (hFI.up rfl)
          rw [← nI_1, ← h3] at e
          exact e
        · exact absurd hq hn
      repeat (refine hP _ ?_; conv => whnf)
      refine r_octetJ hC' ht hJ h3 (by omega) ?_
      repeat (refine hP _ ?_; conv => whnf)
      refine ⟨fun z => go (by simp [qB, z]), fun z1 => ?_⟩
      repeat (refine hP _ ?_; conv => whnf)
      refine r_octetJ hC' ht hJ h3 (by omega) ?_
      repeat (refine hP _ ?_; conv => whnf)
      refine ⟨fun z => go (by simp [qB, z]), fun z2 => ?_⟩
      repeat (refine hP _ ?_; conv => whnf)
      refine r_octetJ hC' ht hJ h3 (by omega) ?_
      repeat (refine hP _ ?_; conv => whnf)
      refine ⟨fun z => go (by simp [qB, z]), fun z3 => ?_⟩
      repeat (refine hP _ ?_; conv => whnf)
      refine r_octetJ hC' ht hJ h3 (by omega) ?_
      repeat (refine hP _ ?_; conv => whnf)
      refine ⟨fun z => go (by simp [qB, z]), fun z4 => ?_⟩
      rcases scan_at (q := qB) (by omega) hs with ⟨hq, -, -⟩ | ⟨-, hs2⟩
      · exact absurd hq (by simp [qB, z1, z2, z3, z4])
      · exact hex J (by rw [hs2]; exact h3) hFI
  exact loop (tx.length - f) f I (by omega) rfl hpos Fr.rf
end
section
/-! ===== what the tokens are judged to be: the state, and what each step makes of it ===== -/
/-- value, sort, chosen, constants, default, old; arms' starts; labels; enumerations -/
abbrev JU : Type := (Int32 × Int32 × Int32 × Int32 × Int32 × Int32) × List Nat × List (Nat × Int32 × List Nat) × List (List Nat × List (List Nat))
/-- token, stmts, set, names, code, the rest -/
def JSt : Type := Nat × Nat × Int32 × List (List Nat) × List (Int32 × Int32 × Int32) × JU
def JSt.k (s : JSt) : Nat := s.1
def JSt.sm (s : JSt) : Nat := s.2.1
def JSt.set (s : JSt) : Int32 := s.2.2.1
def JSt.nm (s : JSt) : List (List Nat) := s.2.2.2.1
def JSt.cd (s : JSt) : List (Int32 × Int32 × Int32) := s.2.2.2.2.1
def JSt.u (s : JSt) : JU := s.2.2.2.2.2
def JSt.val (s : JSt) : Int32 := s.u.1.1
def JSt.wk (s : JSt) (x : Nat) : JSt := (x, s.2)
def JSt.wsm (s : JSt) (x : Nat) : JSt := (s.1, x, s.2.2)
def JSt.wset (s : JSt) (x : Int32) : JSt := (s.1, s.2.1, x, s.2.2.2)
def JSt.wnm (s : JSt) (x : List (List Nat)) : JSt := (s.1, s.2.1, s.2.2.1, x, s.2.2.2.2)
def JSt.wcd (s : JSt) (x : List (Int32 × Int32 × Int32)) : JSt := (s.1, s.2.1, s.2.2.1, s.2.2.2.1, x, s.2.2.2.2.2)
def JSt.wu (s : JSt) (x : JU) : JSt := (s.1, s.2.1, s.2.2.1, s.2.2.2.1, s.2.2.2.2.1, x)
abbrev JRs : Type := Except (Nat × Nat) JSt
def jb (r : JRs) (g : JSt → JRs) : JRs := match r with
  | .ok s => g s
  | .error e => .error e
def jkd (tx : List Nat) : JRs → Nat
  | .ok s => (tk tx s.k).1
  | .error _ => 0
def jcs (tx : List Nat) : JRs → List Nat
  | .ok s => (tk tx s.k).2.2.1
  | .error _ => []
def jnum (tx : List Nat) : JRs → Nat
  | .ok s => (tk tx s.k).2.2.2.1
  | .error _ => 0
def jadv (r : JRs) : JRs := jb r fun s => .ok (s.wk (s.k + 1))
def jflt (tx : List Nat) (n j : Nat) (r : JRs) : JRs := jb r fun _ => .error (if n = 2 ∧ (tk tx j).1 = 28 then 1 else n, (tk tx j).2.1)
def jfal (tx : List Nat) (n : Nat) (r : JRs) : JRs := jb r fun s => .error (if n = 2 ∧ (tk tx s.k).1 = 28 then 1 else n, (tk tx s.k).2.1)
def jxpc (tx : List Nat) (k : Nat) (r : JRs) : JRs := if jkd tx r = k then jadv r else jfal tx 2 r
def jnmv (tx : List Nat) (r : JRs) : Int32 := if jkd tx r = 17 then nI (jnum tx r) else 0
def jnmb (tx : List Nat) (r : JRs) : JRs := if jkd tx r = 17 then jadv r else jfal tx 2 r
def jemt (k a b : Int32) (r : JRs) : JRs := jb r fun s => .ok (if s.cd.length < 260 then (s.wcd (s.cd ++ [(k, a, b)])) else s)
def jled (i : Nat) (r : JRs) : JRs := jb r fun s => .ok (s.wcd (s.cd.modify i (fun x => (x.1, nI s.cd.length, x.2.2))))
def jsst (x : Int32) (r : JRs) : JRs := jb r fun s => .ok (s.wset (x))
def jshr (c : Nat) (r : JRs) : JRs := jb r fun s => .ok ((s.wnm (s.nm.take c)).wset (if s.set = -1 then -1 else s.set &&& ((1 <<< (nI c &&& 31)) - 1)))
def jfnd (tx : List Nat) (r : JRs) : Int32 := match r with
  | .ok s => if jcs tx r ∈ s.nm then nI (s.nm.idxOf (jcs tx r)) else -1
  | .error _ => -1
def jgs : JRs → Int32
  | .ok s => s.set
  | .error _ => 0
def jstn (name v : Int32) (r : JRs) : JRs := jb (jemt 2 name v r) fun s => .ok (s.wset (if name < 0 then s.set else s.set ||| (1 <<< (name &&& 31))))
def jlve (h v : Int32) (r : JRs) : JRs := jsst (-1) (jemt 5 h v r)
def jbgn (k : Nat) : Bool := k == 19 || k == 16 || (8 ≤ k && k ≤ 14)
abbrev jbit (name : Int32) (s : Int32) : Prop := ¬ name < 0 ∧ (s.toUInt32 >>> (name.toUInt32 &&& Int32.toUInt32 31)).toInt32 &&& 1 = 1
def jopn (tx : List Nat) (d : Nat) (r : JRs) : JRs := jb r fun s =>
  if (tk tx s.k).1 = 16 ∧ jfnd tx r < 0 then jfal tx 7 r
  else if (if s.val = 0 then (tk tx s.k).1 = 12 else (tk tx s.k).1 = 11) then jfal tx 8 r
  else if s.set = -1 then jfal tx 9 r
  else if 120 ≤ s.sm ∨ 10 < d then jfal tx 12 r
  else .ok (s.wsm (s.sm + 1))
def jlet (tx : List Nat) (r : JRs) : JRs := jb r fun s =>
  if ¬ (tk tx s.k).1 = 16 then jfal tx 2 r
  else if ¬ jfnd tx r < 0 then jfal tx 6 r
  else if 20 ≤ s.nm.length then jfal tx 12 r
  else
    let r1 := jadv (.ok (s.wnm (s.nm ++ [(tk tx s.k).2.2.1])))
    if jkd tx r1 = 24 then jstn (nI s.nm.length) (jnmv tx (jadv r1)) (jnmb tx (jadv r1)) else r1
def juse (tx : List Nat) (r : JRs) : JRs := jb r fun s =>
  if ¬ (tk tx s.k).1 = 16 then jfal tx 2 r
  else if ¬ jbit (jfnd tx r) s.set then jfal tx 7 r
  else jadv (jemt 1 (jfnd tx r) 0 r)
def jyld (tx : List Nat) (r : JRs) : JRs :=
  if jkd tx r = 25 then jlve 2 (-(jnmv tx (jadv r))) (jnmb tx (jadv r)) else jlve 2 (jnmv tx r) (jnmb tx r)
def jsmp (tx : List Nat) (r : JRs) : JRs :=
  if jkd tx r = 8 then jemt 0 (jnmv tx (jadv r)) 0 (jnmb tx (jadv r))
  else if jkd tx r = 10 then juse tx (jadv r)
  else if jkd tx r = 16 then jstn (jfnd tx r) (jnmv tx (jxpc tx 24 (jadv r))) (jnmb tx (jxpc tx 24 (jadv r)))
  else if jkd tx r = 11 then jlve 1 0 (jadv r)
  else jlve 3 (jnmv tx (jadv r)) (jnmb tx (jadv r))
def jloop (tx : List Nat) (g : JRs → JRs) : Nat → JRs → JRs
  | 0, r => r
  | i + 1, r => if jbgn (jkd tx r) = true then jloop tx g i (g r) else r
def jcl : JRs → Nat
  | .ok s => s.cd.length
  | .error _ => 0
def jnl : JRs → Nat
  | .ok s => s.nm.length
  | .error _ => 0
def jblk (tx : List Nat) (g : JRs → JRs) (r : JRs) : JRs := jshr (jnl r) (jxpc tx 20 (jloop tx g 121 (jadv r)))
def jbr1 (g : JRs → JRs) (r : JRs) : JRs := g (jadv (jemt 3 0 0 r))
def jbr2 (g : JRs → JRs) (r : JRs) : JRs := g (jadv (jled (jcl r) (jemt 4 0 0 (jsst (jgs r) (jbr1 g r)))))
def jbrn (tx : List Nat) (g : JRs → JRs) (r : JRs) : JRs :=
  if jkd tx (jsst (jgs r) (jbr1 g r)) = 15
  then (let q := jled (jcl (jbr1 g r)) (jbr2 g r); jsst (jgs q &&& jgs (jbr1 g r)) q)
  else (let q := jled (jcl r) (jsst (jgs r) (jbr1 g r)); jsst (jgs q &&& jgs (jbr1 g r)) q)
def jst1 (tx : List Nat) (r : JRs) : JRs := if jbgn (jkd tx r) = true then r else jfal tx 2 r
def jstmt (tx : List Nat) : Nat → JRs → JRs
  | 0, r => jopn tx 11 (jst1 tx r)
  | f + 1, r => jb (jopn tx (11 - (f + 1)) (jst1 tx r)) fun s =>
    if (tk tx s.k).1 = 19 then jblk tx (jstmt tx f) (.ok s)
    else if (tk tx s.k).1 = 14 then jbrn tx (jstmt tx f) (.ok s)
    else if (tk tx s.k).1 = 9 then jxpc tx 22 (jlet tx (jadv (.ok s)))
    else if (tk tx s.k).1 = 12 then jxpc tx 22 (jyld tx (jadv (.ok s)))
    else jxpc tx 22 (jsmp tx (.ok s))
/-! errors stay -/
theorem jadv_er {e : Nat × Nat} : jadv (.error e) = .error e := rfl
theorem jfal_er {tx : List Nat} {n : Nat} {e : Nat × Nat} : jfal tx n (.error e) = .error e := rfl
theorem jxpc_er {tx : List Nat} {n : Nat} {e : Nat × Nat} : jxpc tx n (.error e) = .error e := by
  unfold jxpc
  split <;> rfl
theorem jnmb_er {tx : List Nat} {e : Nat × Nat} : jnmb tx (.error e) = .error e := by
  unfold jnmb
  split <;> rfl
theorem jemt_er {k a b : Int32} {e : Nat × Nat} : jemt k a b (.error e) = .error e := rfl
theorem jled_er {i : Nat} {e : Nat × Nat} : jled i (.error e) = .error e := rfl
theorem jsst_er {x : Int32} {e : Nat × Nat} : jsst x (.error e) = .error e := rfl
theorem jst1_er {tx : List Nat} {e : Nat × Nat} : jst1 tx (.error e) = .error e := by
  unfold jst1
  split <;> rfl
theorem jstmt_er {tx : List Nat} {d : Nat} {e : Nat × Nat} : jstmt tx d (.error e) = .error e := by
  cases d <;> simp only [jstmt, jst1_er] <;> rfl
/-! names only come to those that are there -/
def jge (c : Nat) (r : JRs) : Prop := ∀ s, r = .ok s → c ≤ s.nm.length
theorem jge_er {c : Nat} {e : Nat × Nat} : jge c (.error e) := fun s h => by cases h
theorem jge_b {c : Nat} {r : JRs} {g : JSt → JRs} (h : jge c r) (hg : ∀ s, r = .ok s → c ≤ s.nm.length → jge c (g s)) : jge c (jb r g) := by
  cases r with
  | ok s => exact hg s rfl (h s rfl)
  | error e => exact jge_er
theorem jge_ok {c : Nat} {s : JSt} (h : c ≤ s.nm.length) : jge c (.ok s) := fun s' e => by cases e; exact h
theorem jge_adv {c : Nat} {r : JRs} (h : jge c r) : jge c (jadv r) := jge_b h fun s _ hs => jge_ok hs
theorem jge_fal {tx : List Nat} {n c : Nat} {r : JRs} : jge c (jfal tx n r) := by cases r <;> exact jge_er
theorem jge_xpc {tx : List Nat} {k c : Nat} {r : JRs} (h : jge c r) : jge c (jxpc tx k r) := by
  unfold jxpc
  split
  · exact jge_adv h
  · exact jge_fal
theorem jge_nmb {tx : List Nat} {c : Nat} {r : JRs} (h : jge c r) : jge c (jnmb tx r) := by
  unfold jnmb
  split
  · exact jge_adv h
  · exact jge_fal
theorem jge_emt {k a b : Int32} {c : Nat} {r : JRs} (h : jge c r) : jge c (jemt k a b r) := jge_b h fun s _ hs => by
  split
  · exact jge_ok hs
  · exact jge_ok hs
theorem jge_led {i c : Nat} {r : JRs} (h : jge c r) : jge c (jled i r) := jge_b h fun s _ hs => jge_ok hs
theorem jge_sst {x : Int32} {c : Nat} {r : JRs} (h : jge c r) : jge c (jsst x r) := jge_b h fun s _ hs => jge_ok hs
theorem jge_stn {x y : Int32} {c : Nat} {r : JRs} (h : jge c r) : jge c (jstn x y r) := jge_b (jge_emt h) fun s _ hs => jge_ok hs
theorem jge_lve {x y : Int32} {c : Nat} {r : JRs} (h : jge c r) : jge c (jlve x y r) := jge_sst (jge_emt h)
theorem jge_st1 {tx : List Nat} {c : Nat} {r : JRs} (h : jge c r) : jge c (jst1 tx r) := by
  unfold jst1
  split
  · exact h
  · exact jge_fal
theorem jge_opn {tx : List Nat} {d c : Nat} {r : JRs} (h : jge c r) : jge c (jopn tx d r) := jge_b h fun s _ hs => by
  repeat' split
  all_goals first | exact jge_fal | exact jge_ok hs
theorem jge_let {tx : List Nat} {c : Nat} {r : JRs} (h : jge c r) : jge c (jlet tx r) := jge_b h fun s _ hs => by
  have hl : c ≤ (s.nm ++ [(tk tx s.k).2.2.1]).length := by rw [List.length_append]; omega
  split
  · exact jge_fal
  split
  · exact jge_fal
  split
  · exact jge_fal
  simp only
  split
  · exact jge_stn (jge_nmb (jge_adv (jge_adv (jge_ok hl))))
  · exact jge_adv (jge_ok hl)
theorem jge_use {tx : List Nat} {c : Nat} {r : JRs} (h : jge c r) : jge c (juse tx r) := jge_b h fun s _ hs => by
  split
  · exact jge_fal
  split
  · exact jge_fal
  · exact jge_adv (jge_emt h)
theorem jge_yld {tx : List Nat} {c : Nat} {r : JRs} (h : jge c r) : jge c (jyld tx r) := by
  unfold jyld
  split
  · exact jge_lve (jge_nmb (jge_adv h))
  · exact jge_lve (jge_nmb h)
theorem jge_smp {tx : List Nat} {c : Nat} {r : JRs} (h : jge c r) : jge c (jsmp tx r) := by
  unfold jsmp
  repeat' split
  · exact jge_emt (jge_nmb (jge_adv h))
  · exact jge_use (jge_adv h)
  · exact jge_stn (jge_nmb (jge_xpc (jge_adv h)))
  · exact jge_lve (jge_adv h)
  · exact jge_lve (jge_nmb (jge_adv h))
theorem jge_loop {tx : List Nat} {g : JRs → JRs} {c : Nat} (hg : ∀ r, jge c r → jge c (g r)) : ∀ (i : Nat) (r : JRs), jge c r → jge c (jloop tx g i r)
  | 0, _, h => h
  | i + 1, r, h => by
    unfold jloop
    split
    · exact jge_loop hg i _ (hg r h)
    · exact h
theorem jge_shr {c d : Nat} {r : JRs} (h : jge d r) (hcd : c ≤ d) : jge c (jshr d r) := fun s e => by
  cases r with
  | ok s' =>
    have := h s' rfl
    cases e
    show c ≤ (s'.nm.take d).length
    rw [List.length_take]
    omega
  | error e => cases e
theorem jge_blk {tx : List Nat} {g : JRs → JRs} {c : Nat} {s : JSt} (hg : ∀ c r, jge c r → jge c (g r)) (h : c ≤ s.nm.length) : jge c (jblk tx g (.ok s)) :=
  jge_shr (d := s.nm.length) (jge_xpc (jge_loop (hg _) 121 _ (jge_adv (jge_ok (Nat.le_refl _))))) h
theorem jge_brn {tx : List Nat} {g : JRs → JRs} {c : Nat} {s : JSt} (hg : ∀ c r, jge c r → jge c (g r)) (h : c ≤ s.nm.length) : jge c (jbrn tx g (.ok s)) := by
  have h1 : jge c (jbr1 g (.ok s)) := hg c _ (jge_adv (jge_emt (jge_ok h)))
  unfold jbrn
  split
  · exact jge_sst (jge_led (hg c _ (jge_adv (jge_led (jge_emt (jge_sst h1))))))
  · exact jge_sst (jge_led (jge_sst h1))
theorem jge_stmt {tx : List Nat} : ∀ (f c : Nat) (r : JRs), jge c r → jge c (jstmt tx f r)
  | 0, c, r, h => jge_opn (jge_st1 h)
  | f + 1, c, r, h => jge_b (jge_opn (jge_st1 h)) fun s _ hs => by
    split
    · exact jge_blk (jge_stmt f) hs
    split
    · exact jge_brn (jge_stmt f) hs
    split
    · exact jge_xpc (jge_let (jge_adv (jge_ok hs)))
    split
    · exact jge_xpc (jge_yld (jge_adv (jge_ok hs)))
    · exact jge_xpc (jge_smp (jge_ok hs))
end
section
/-! ===== the class's world and that state ===== -/
def S_jd : Nat → Nat → Bool := fun p q => (p == 8 && q != 0) || p == 9 || p == 10 || p == 11 || (p == 13 && q == 3) || p == 14 || p == 15 || p == 16 || p == 17 || p == 18 || p == 21
def S_jdL : Nat → Nat → Bool := fun p _ => p == 12 || p == 19 || p == 20 || p == 22
/-- how large the rows may be, always -/
def BD (I : Nat → Nat → Int32) : Prop := (∃ c, c ≤ 260 ∧ I 13 3 = nI c) ∧ (∃ c, c ≤ 20 ∧ I 18 1 = nI c) ∧ (∃ c, c ≤ 32 ∧ I 8 5 = nI c) ∧ (∃ c, c ≤ 20 ∧ I 8 4 = nI c) ∧ (∃ c, c ≤ 4 ∧ I 17 6 = nI c) ∧ (∀ e, e < 4 → ∃ c, c ≤ 16 ∧ I 21 e = nI c) ∧ (I 17 7 = -1 ∨ ∃ c, c < 4 ∧ I 17 7 = nI c)
def CNm (s : JSt) (I : Nat → Nat → Int32) (L : Nat → Nat → Int64) : Prop := I 18 1 = nI s.nm.length ∧ s.nm.length ≤ 20 ∧ (∀ j, j < s.nm.length → L 19 j = lN (pkB 256 (s.nm.getD j []))) ∧ (∀ c ∈ s.nm, NmOk c)
def CCd (s : JSt) (I : Nat → Nat → Int32) : Prop := I 13 3 = nI s.cd.length ∧ s.cd.length ≤ 260 ∧ (∀ j, j < s.cd.length → s.cd[j]? = some (I 14 j, I 15 j, I 16 j))
def CAr (u : JU) (I : Nat → Nat → Int32) : Prop := I 8 4 = nI u.2.1.length ∧ u.2.1.length ≤ 20 ∧ (∀ j, j < u.2.1.length → I 9 j = nI (u.2.1.getD j 0))
def lsg (sort : Int32) (x : Int32) (cs : List Nat) : Int64 := if sort = 1 then lN (pkB 256 cs) else x.toInt64
def CLb (u : JU) (I : Nat → Nat → Int32) (L : Nat → Nat → Int64) : Prop := I 8 5 = nI u.2.2.1.length ∧ u.2.2.1.length ≤ 32 ∧ (∀ j x, u.2.2.1[j]? = some x → I 10 j = nI x.1 ∧ I 11 j = x.2.1 ∧ L 12 j = lsg u.1.2.1 x.2.1 x.2.2) ∧ (u.1.2.1 = 1 → ∀ x ∈ u.2.2.1, NmOk x.2.2)
def CEn (u : JU) (I : Nat → Nat → Int32) (L : Nat → Nat → Int64) : Prop := I 17 6 = nI u.2.2.2.length ∧ u.2.2.2.length ≤ 4 ∧ (∀ e x, u.2.2.2[e]? = some x → L 20 e = lN (pkB 256 x.1) ∧ NmOk x.1 ∧ I 21 e = nI x.2.length ∧ x.2.length ≤ 16 ∧ (∀ j, j < x.2.length → L 22 (e * 16 + j) = lN (pkB 256 (x.2.getD j []))) ∧ ∀ c ∈ x.2, NmOk c)
def CU (u : JU) (I : Nat → Nat → Int32) (L : Nat → Nat → Int64) : Prop := (I 8 1 = u.1.1 ∧ I 8 2 = u.1.2.1 ∧ I 17 7 = u.1.2.2.1 ∧ I 8 3 = u.1.2.2.2.1 ∧ I 8 7 = u.1.2.2.2.2.1 ∧ I 8 8 = u.1.2.2.2.2.2) ∧ CAr u I ∧ CLb u I L ∧ CEn u I L
def CS (m : Nat) (s : JSt) (I : Nat → Nat → Int32) (L : Nat → Nat → Int64) : Prop := (I 17 9 = 0 ∧ I 17 10 = -1 ∧ I 17 8 = nI s.k ∧ s.k ≤ m) ∧ (I 8 6 = nI s.sm ∧ s.sm ≤ 120) ∧ I 18 2 = s.set ∧ CNm s I L ∧ CCd s I ∧ CU s.u I L
def CX (tx : List Nat) (m : Nat) (I0 : Nat → Nat → Int32) (L0 : Nat → Nat → Int64) (r : JRs) (I : Nat → Nat → Int32) (L : Nat → Nat → Int64) : Prop :=
  (TxOk tx ∧ TkM tx m ∧ m ≤ tx.length ∧ TkC tx m I L) ∧ Fr S_jd I0 I ∧ Fr S_jdL L0 L ∧ BD I ∧ (match r with
  | .ok s => CS m s I L
  | .error e => e.1 ≠ 0 ∧ e.1 ≤ 12 ∧ I 17 9 = nI e.1 ∧ I 17 10 = nI e.2)
theorem tk_lt {tx : List Nat} {m k : Nat} (h : TkM tx m) (hk : k ≤ m) (h1 : ¬ (tk tx k).1 = 27) (h2 : ¬ (tk tx k).1 = 28) : k < m := by
  by_cases e : k = m
  · subst e
    rcases h.1 with q | q
    · exact absurd q h1
    · exact absurd q h2
  · omega
theorem sgN_lt29 (x : Int32) : sgN x < 29 := by
  unfold sgN
  repeat' split
  all_goals decide
theorem tok_lt29 (tx : List Nat) (i : Nat) : (tokAt tx i).1 < 29 := by
  have := wordIx_le (cs := slice tx i (scan qN tx i))
  have := sgN_lt29 (toc tx i)
  unfold tokAt
  repeat' split
  all_goals simp only
  all_goals omega
theorem tk_kd_lt (tx : List Nat) (i : Nat) : (tk tx i).1 < 2 ^ 31 := by
  have : (tk tx i).1 < 29 := tok_lt29 tx _
  omega
theorem jkd_29 (tx : List Nat) (r : JRs) : jkd tx r < 29 := by
  cases r with
  | ok s => exact tok_lt29 tx _
  | error e => exact (by decide : 0 < 29)
theorem jkd_lt (tx : List Nat) (r : JRs) : jkd tx r < 2 ^ 31 := by
  have := jkd_29 tx r
  omega
theorem CX.kd {tx : List Nat} {m : Nat} {I0 : Nat → Nat → Int32} {L0 : Nat → Nat → Int64} {r : JRs} {I : Nat → Nat → Int32} {L : Nat → Nat → Int64} (h : CX tx m I0 L0 r I L) : kindF I = nI (jkd tx r) := by
  obtain ⟨⟨ht, hm, hml, htk⟩, -, -, -, h⟩ := h
  unfold kindF
  cases r with
  | ok s =>
    obtain ⟨⟨h1, -, h2, h3⟩, -⟩ := h
    have hl := ht.1
    rw [if_pos h1, h2, if_neg (nI_pos (by omega)), htk.1, if_pos (nI_lt (by omega) (by omega)), if_pos (show nI s.k < 3001 from nI_lt (a := s.k) (b := 3001) (by omega) (by omega)), nI_clamp (by omega), (htk.2 s.k h3).1]
    rfl
  | error e =>
    obtain ⟨h1, h2, h3, -⟩ := h
    rw [if_neg (by rw [h3]; exact fun z => h1 ((nI_eq (a := e.1) (b := 0) (by omega) (by omega)).mp z))]
    rfl
theorem CX.ft {tx : List Nat} {m : Nat} {I0 : Nat → Nat → Int32} {L0 : Nat → Nat → Int64} {r : JRs} {I : Nat → Nat → Int32} {L : Nat → Nat → Int64} (h : CX tx m I0 L0 r I L) : I 17 9 = 0 ↔ ∃ s, r = .ok s := by
  obtain ⟨-, -, -, -, h⟩ := h
  cases r with
  | ok s => exact ⟨fun _ => ⟨s, rfl⟩, fun _ => h.1.1⟩
  | error e =>
    obtain ⟨h1, h2, h3, -⟩ := h
    exact ⟨fun z => absurd ((nI_eq (a := e.1) (b := 0) (by omega) (by omega)).mp (h3.symm.trans z)) h1, fun ⟨s, z⟩ => by cases z⟩
theorem CX.gen {tx : List Nat} {m : Nat} {I0 : Nat → Nat → Int32} {L0 : Nat → Nat → Int64} {r : JRs} {I : Nat → Nat → Int32} {L : Nat → Nat → Int64} {r' : JRs} {I' : Nat → Nat → Int32} {L' : Nat → Nat → Int64} (h : CX tx m I0 L0 r I L) (hF : Fr S_jd I I') (hL : Fr S_jdL L L') (hB : BD I → BD I')
    (hok : ∀ s, r = .ok s → CS m s I L → TkM tx m → match r' with | .ok s' => CS m s' I' L' | .error e => e.1 ≠ 0 ∧ e.1 ≤ 12 ∧ I' 17 9 = nI e.1 ∧ I' 17 10 = nI e.2)
    (her : ∀ e, r = .error e → r' = .error e ∧ I' 17 9 = I 17 9 ∧ I' 17 10 = I 17 10) : CX tx m I0 L0 r' I' L' := by
  obtain ⟨⟨ht, hm, hml, htk⟩, h1, h2, h3, h⟩ := h
  refine ⟨⟨ht, hm, hml, ?_, fun k hk => ?_⟩, h1.tr hF, h2.tr hL, hB h3, ?_⟩
  · rw [hF 3 4 rfl]; exact htk.1
  · rw [hF 4 k rfl, hF 5 k rfl, hL 6 k rfl]; exact htk.2 k hk
  · cases r with
    | ok s => exact hok s rfl h hm
    | error e =>
      obtain ⟨q1, q2, q3⟩ := her e rfl
      subst q1
      simp only at h ⊢
      rw [q2, q3]
      exact h
theorem CX.adv {tx : List Nat} {m : Nat} {I0 : Nat → Nat → Int32} {L0 : Nat → Nat → Int64} {r : JRs} {I : Nat → Nat → Int32} {L : Nat → Nat → Int64} (h : CX tx m I0 L0 r I L) (hk : ∀ s, r = .ok s → ¬ (tk tx s.k).1 = 27 ∧ ¬ (tk tx s.k).1 = 28) : CX tx m I0 L0 (jadv r) (m_up I 17 8 (I 17 8 + 1)) L := by
  refine h.gen (Fr.rf.up rfl) Fr.rf (by simp [BD, m_upr]) (fun s e q hm => ?_) (fun e q => by subst q; simp [jadv, jb, m_upr])
  subst e
  obtain ⟨⟨a1, a2, a3, a4⟩, q⟩ := q
  have := tk_lt hm a4 (hk s rfl).1 (hk s rfl).2
  refine ⟨⟨by simp [m_upr, a1], by simp [m_upr, a2], by simp [m_upr, a3, nI_1, JSt.k, JSt.sm, JSt.set, JSt.nm, JSt.cd, JSt.u, JSt.val, JSt.wk, JSt.wsm, JSt.wset, JSt.wnm, JSt.wcd, JSt.wu], this⟩, ?_⟩
  simpa [CS, CNm, CCd, CU, CAr, CLb, CEn, m_upr, JSt.k, JSt.sm, JSt.set, JSt.nm, JSt.cd, JSt.u, JSt.val, JSt.wk, JSt.wsm, JSt.wset, JSt.wnm, JSt.wcd, JSt.wu] using q
theorem CX.failAt {tx : List Nat} {m : Nat} {I0 : Nat → Nat → Int32} {L0 : Nat → Nat → Int64} {r : JRs} {I : Nat → Nat → Int32} {L : Nat → Nat → Int64} {a j : Nat} (h : CX tx m I0 L0 r I L) (ha0 : a ≠ 0) (ha : a ≤ 12) (hj : j ≤ m) : CX tx m I0 L0 (jflt tx a j r) (failF (nI a) (nI j) I) L := by
  have hjt : j < 3001 := by have := h.1.1.1; have := h.1.2.2.1; omega
  have htj := h.1.2.2.2.2 j hj
  have hFr : Fr S_jd I (failF (nI a) (nI j) I) := by
    unfold failF
    repeat' split
    all_goals first | exact Fr.rf | exact (Fr.rf.up rfl).up rfl
  refine h.gen hFr Fr.rf (fun hb => ?_) (fun s e q hm => ?_) (fun e q => ?_)
  · unfold failF
    repeat' split
    all_goals first | exact hb | simpa [BD, m_upr] using hb
  · subst e
    have h0 := q.1.1
    unfold failF
    rw [if_pos h0, if_neg (nI_pos (by omega)), if_pos (show nI j < 3001 from nI_lt (a := j) (b := 3001) hjt (by omega)), nI_clamp (by omega), htj.1, htj.2.1]
    have e2 : nI a = 2 ↔ a = 2 := nI_eq (a := a) (b := 2) (by omega) (by omega)
    have hkb : (tk tx j).1 < 2 ^ 31 := tk_kd_lt tx j
    have e28 : nI (tk tx j).1 = 28 ↔ (tk tx j).1 = 28 := nI_eq (a := (tk tx j).1) (b := 28) hkb (by omega)
    simp only [jflt, jb]
    by_cases g : a = 2
    · rw [if_pos (e2.mpr g)]
      by_cases g2 : (tk tx j).1 = 28
      · rw [if_pos (e28.mpr g2), if_pos ⟨g, g2⟩]
        refine ⟨by decide, by decide, by simp [m_upr]; rfl, by simp [m_upr]⟩
      · rw [if_neg (fun z => g2 (e28.mp z)), if_neg (fun z => g2 z.2)]
        exact ⟨ha0, ha, by simp [m_upr], by simp [m_upr]⟩
    · rw [if_neg (fun z => g (e2.mp z)), if_neg (fun z => g z.1)]
      exact ⟨ha0, ha, by simp [m_upr], by simp [m_upr]⟩
  · subst q
    have : ¬ I 17 9 = 0 := fun z => by obtain ⟨s, hs⟩ := h.ft.mp z; cases hs
    unfold failF
    rw [if_neg this]
    exact ⟨rfl, rfl, rfl⟩
theorem CX.ok {tx : List Nat} {m : Nat} {I0 : Nat → Nat → Int32} {L0 : Nat → Nat → Int64} {I : Nat → Nat → Int32} {L : Nat → Nat → Int64} {s : JSt} (h : CX tx m I0 L0 (.ok s) I L) : CS m s I L := h.2.2.2.2
theorem CX.at_ok {tx : List Nat} {m : Nat} {I0 : Nat → Nat → Int32} {L0 : Nat → Nat → Int64} {I : Nat → Nat → Int32} {L : Nat → Nat → Int64} {s : JSt} (h : CX tx m I0 L0 (.ok s) I L) : I 17 8 = nI s.k := h.ok.1.2.2.1
theorem CX.km_ok {tx : List Nat} {m : Nat} {I0 : Nat → Nat → Int32} {L0 : Nat → Nat → Int64} {I : Nat → Nat → Int32} {L : Nat → Nat → Int64} {s : JSt} (h : CX tx m I0 L0 (.ok s) I L) : s.k ≤ m := h.ok.1.2.2.2
theorem CX.fail_er {tx : List Nat} {m : Nat} {I0 : Nat → Nat → Int32} {L0 : Nat → Nat → Int64} {I : Nat → Nat → Int32} {L : Nat → Nat → Int64} {a : Int32} {j : Int32} {e : Nat × Nat} (h : CX tx m I0 L0 (.error e) I L) : failF a j I = I := by
  have : ¬ I 17 9 = 0 := fun z => by obtain ⟨s, hs⟩ := h.ft.mp z; cases hs
  unfold failF
  rw [if_neg this]
theorem jfal_ok {tx : List Nat} {a : Nat} {s : JSt} : jfal tx a (.ok s) = jflt tx a s.k (.ok s) := by
  simp only [jfal, jflt, jb]
theorem CX.fail_ok {tx : List Nat} {m : Nat} {I0 : Nat → Nat → Int32} {L0 : Nat → Nat → Int64} {I : Nat → Nat → Int32} {L : Nat → Nat → Int64} {a : Nat} {s : JSt} (h : CX tx m I0 L0 (.ok s) I L) (ha0 : a ≠ 0) (ha : a ≤ 12) : CX tx m I0 L0 (jfal tx a (.ok s)) (failF (nI a) (I 17 8) I) L := by
  rw [jfal_ok, h.at_ok]
  exact h.failAt ha0 ha h.km_ok
theorem CX.fail {tx : List Nat} {m : Nat} {I0 : Nat → Nat → Int32} {L0 : Nat → Nat → Int64} {r : JRs} {I : Nat → Nat → Int32} {L : Nat → Nat → Int64} {a : Nat} (h : CX tx m I0 L0 r I L) (ha0 : a ≠ 0) (ha : a ≤ 12) : CX tx m I0 L0 (jfal tx a r) (failF (nI a) (I 17 8) I) L := by
  cases r with
  | ok s => exact h.fail_ok ha0 ha
  | error e =>
    rw [h.fail_er, jfal_er]
    exact h
theorem CX.xpc {tx : List Nat} {m : Nat} {I0 : Nat → Nat → Int32} {L0 : Nat → Nat → Int64} {r : JRs} {I : Nat → Nat → Int32} {L : Nat → Nat → Int64} {a : Nat} (h : CX tx m I0 L0 r I L) (ha0 : a ≠ 0) (ha : a < 27) : CX tx m I0 L0 (jxpc tx a r) (expF (nI a) I) L := by
  unfold expF jxpc
  rw [h.kd]
  have hkb : jkd tx r < 2 ^ 31 := jkd_lt tx r
  by_cases e : jkd tx r = a
  · rw [if_pos e, if_pos (congrArg nI e)]
    refine h.adv (fun s hs => ?_)
    subst hs
    have : (tk tx s.k).1 = a := e
    omega
  · rw [if_neg (fun z => e ((nI_eq hkb (by omega)).mp z)), if_neg e]
    exact h.fail (by decide) (by decide)
theorem CX.bd {tx : List Nat} {m : Nat} {I0 : Nat → Nat → Int32} {L0 : Nat → Nat → Int64} {r : JRs} {I : Nat → Nat → Int32} {L : Nat → Nat → Int64} (h : CX tx m I0 L0 r I L) : BD I := h.2.2.2.1
theorem CX.cl0 {tx : List Nat} {m : Nat} {I0 : Nat → Nat → Int32} {L0 : Nat → Nat → Int64} {r : JRs} {I : Nat → Nat → Int32} {L : Nat → Nat → Int64} (h : CX tx m I0 L0 r I L) : ¬ I 13 3 < 0 := by
  obtain ⟨c, hc, e⟩ := h.bd.1
  rw [e]
  exact nI_pos (by omega)
theorem CX.emt {tx : List Nat} {m : Nat} {I0 : Nat → Nat → Int32} {L0 : Nat → Nat → Int64} {r : JRs} {I : Nat → Nat → Int32} {L : Nat → Nat → Int64} {k a b : Int32} (h : CX tx m I0 L0 r I L) (hk : vp_nar .byte k.toInt8.toInt32 = k) : CX tx m I0 L0 (jemt k a b r) (stepF k a b I) L := by
  have hFr : Fr S_jd I (stepF k a b I) := by
    unfold stepF
    split
    · exact (((Fr.rf.up rfl).up rfl).up rfl).up rfl
    · exact Fr.rf
  refine h.gen hFr Fr.rf (fun hb => ?_) (fun s e q hm => ?_) (fun e q => ?_)
  · unfold stepF
    split
    · rename_i hlt
      obtain ⟨⟨c, hc, e⟩, hb⟩ := hb
      rw [e] at hlt
      have := (nI_ltI (a := c) (b := 260) (by omega) (by omega)).mp hlt
      refine ⟨⟨c + 1, by omega, by simp [m_upr, e, nI_1]⟩, ?_⟩
      simpa [BD, m_upr] using hb
    · exact hb
  · subst e
    obtain ⟨q1, q2, q3, q4, ⟨c1, c2, c3⟩, q5⟩ := q
    show CS m (if s.cd.length < 260 then s.wcd (s.cd ++ [(k, a, b)]) else s) (stepF k a b I) L
    unfold stepF
    rw [c1]
    by_cases hlt : s.cd.length < 260
    · rw [if_pos (show nI s.cd.length < 260 from nI_lt (a := s.cd.length) (b := 260) hlt (by omega)), nI_clamp (by omega), hk, if_pos hlt]
      refine ⟨by simpa [m_upr, JSt.k, JSt.sm, JSt.set, JSt.nm, JSt.cd, JSt.u, JSt.val, JSt.wk, JSt.wsm, JSt.wset, JSt.wnm, JSt.wcd, JSt.wu] using q1, by simpa [m_upr, JSt.k, JSt.sm, JSt.set, JSt.nm, JSt.cd, JSt.u, JSt.val, JSt.wk, JSt.wsm, JSt.wset, JSt.wnm, JSt.wcd, JSt.wu] using q2, by simpa [m_upr, JSt.k, JSt.sm, JSt.set, JSt.nm, JSt.cd, JSt.u, JSt.val, JSt.wk, JSt.wsm, JSt.wset, JSt.wnm, JSt.wcd, JSt.wu] using q3, by simpa [CNm, m_upr, JSt.k, JSt.sm, JSt.set, JSt.nm, JSt.cd, JSt.u, JSt.val, JSt.wk, JSt.wsm, JSt.wset, JSt.wnm, JSt.wcd, JSt.wu] using q4, ⟨?_, ?_, fun j hj => ?_⟩, by simpa [CU, CAr, CLb, CEn, m_upr, JSt.k, JSt.sm, JSt.set, JSt.nm, JSt.cd, JSt.u, JSt.val, JSt.wk, JSt.wsm, JSt.wset, JSt.wnm, JSt.wcd, JSt.wu] using q5⟩
      · show _ = nI (s.cd ++ [(k, a, b)]).length
        rw [List.length_append]
        simp [m_upr, nI_1]
      · show (s.cd ++ [(k, a, b)]).length ≤ 260
        rw [List.length_append, List.length_singleton]; omega
      · show (s.cd ++ [(k, a, b)])[j]? = _
        have hj2 : j < s.cd.length + 1 := by
          have : j < (s.cd ++ [(k, a, b)]).length := hj
          rw [List.length_append, List.length_singleton] at this
          exact this
        by_cases hjl : j = s.cd.length
        · subst hjl
          simp [m_upr]
        · have := c3 j (by omega)
          rw [List.getElem?_append_left (by omega), this]
          simp [m_upr, hjl]
    · rw [if_neg (show ¬ nI s.cd.length < 260 from fun z => hlt ((nI_ltI (a := s.cd.length) (b := 260) (by omega) (by omega)).mp z)), if_neg hlt]
      exact ⟨q1, q2, q3, q4, ⟨c1, c2, c3⟩, q5⟩
  · subst q
    refine ⟨rfl, ?_, ?_⟩ <;> · unfold stepF; split <;> simp [m_upr]
theorem CX.led {tx : List Nat} {m : Nat} {I0 : Nat → Nat → Int32} {L0 : Nat → Nat → Int64} {r : JRs} {I : Nat → Nat → Int32} {L : Nat → Nat → Int64} {i : Nat} (h : CX tx m I0 L0 r I L) (hi : i ≤ 260) : CX tx m I0 L0 (jled i r) (leadF (nI i) I) L := by
  have hFr : Fr S_jd I (leadF (nI i) I) := by
    unfold leadF
    repeat' split
    all_goals first | exact Fr.rf | exact Fr.rf.up rfl
  refine h.gen hFr Fr.rf (fun hb => ?_) (fun s e q hm => ?_) (fun e q => ?_)
  · unfold leadF
    repeat' split
    all_goals first | exact hb | simpa [BD, m_upr] using hb
  · subst e
    obtain ⟨q1, q2, q3, q4, ⟨c1, c2, c3⟩, q5⟩ := q
    show CS m (s.wcd (s.cd.modify i (fun x => (x.1, nI s.cd.length, x.2.2)))) (leadF (nI i) I) L
    unfold leadF
    rw [c1, if_neg (nI_pos (by omega))]
    by_cases hlt : i < s.cd.length
    · rw [if_pos (nI_lt hlt (by omega)), nI_clamp (by omega)]
      refine ⟨by simpa [m_upr, JSt.k, JSt.sm, JSt.set, JSt.nm, JSt.cd, JSt.u, JSt.val, JSt.wk, JSt.wsm, JSt.wset, JSt.wnm, JSt.wcd, JSt.wu] using q1, by simpa [m_upr, JSt.k, JSt.sm, JSt.set, JSt.nm, JSt.cd, JSt.u, JSt.val, JSt.wk, JSt.wsm, JSt.wset, JSt.wnm, JSt.wcd, JSt.wu] using q2, by simpa [m_upr, JSt.k, JSt.sm, JSt.set, JSt.nm, JSt.cd, JSt.u, JSt.val, JSt.wk, JSt.wsm, JSt.wset, JSt.wnm, JSt.wcd, JSt.wu] using q3, by simpa [CNm, m_upr, JSt.k, JSt.sm, JSt.set, JSt.nm, JSt.cd, JSt.u, JSt.val, JSt.wk, JSt.wsm, JSt.wset, JSt.wnm, JSt.wcd, JSt.wu] using q4, ⟨?_, ?_, fun j hj => ?_⟩, by simpa [CU, CAr, CLb, CEn, m_upr, JSt.k, JSt.sm, JSt.set, JSt.nm, JSt.cd, JSt.u, JSt.val, JSt.wk, JSt.wsm, JSt.wset, JSt.wnm, JSt.wcd, JSt.wu] using q5⟩
      · show _ = nI (s.cd.modify i _).length
        rw [List.length_modify]
        simp [m_upr, c1]
      · show (s.cd.modify i _).length ≤ 260
        rw [List.length_modify]; exact c2
      · show (s.cd.modify i _)[j]? = _
        have hj2 : j < s.cd.length := by
          have : j < (s.cd.modify i (fun x => (x.1, nI s.cd.length, x.2.2))).length := hj
          rw [List.length_modify] at this
          exact this
        rw [List.getElem?_modify, c3 j hj2]
        by_cases hji : i = j
        · subst hji; simp [m_upr]
        · have hji2 : ¬ j = i := fun z => hji z.symm
          simp [m_upr, hji, hji2]
    · rw [if_neg (fun z => hlt ((nI_ltI (by omega) (by omega)).mp z))]
      have hm : s.cd.modify i (fun x => (x.1, nI s.cd.length, x.2.2)) = s.cd := by
        apply List.ext_getElem?
        intro j
        rw [List.getElem?_modify]
        by_cases hji : i = j
        · subst hji
          rw [List.getElem?_eq_none (by omega)]
          simp
        · simp [hji]
      rw [hm]
      exact ⟨q1, q2, q3, q4, ⟨c1, c2, c3⟩, q5⟩
  · subst q
    refine ⟨rfl, ?_, ?_⟩ <;> · unfold leadF; repeat' split
                               all_goals simp [m_upr]
theorem CX.sst {tx : List Nat} {m : Nat} {I0 : Nat → Nat → Int32} {L0 : Nat → Nat → Int64} {r : JRs} {I : Nat → Nat → Int32} {L : Nat → Nat → Int64} {x y : Int32} (h : CX tx m I0 L0 r I L) (hxy : ∀ s, r = .ok s → x = y) : CX tx m I0 L0 (jsst y r) (m_up I 18 2 x) L := by
  refine h.gen (Fr.rf.up rfl) Fr.rf (by simp [BD, m_upr]) (fun s e q hm => ?_) (fun e q => by subst q; simp [jsst, jb, m_upr])
  subst e
  have := hxy s rfl
  subst this
  obtain ⟨q1, q2, q3, q4⟩ := q
  refine ⟨by simpa [m_upr, JSt.k, JSt.sm, JSt.set, JSt.nm, JSt.cd, JSt.u, JSt.val, JSt.wk, JSt.wsm, JSt.wset, JSt.wnm, JSt.wcd, JSt.wu] using q1, by simpa [m_upr, JSt.k, JSt.sm, JSt.set, JSt.nm, JSt.cd, JSt.u, JSt.val, JSt.wk, JSt.wsm, JSt.wset, JSt.wnm, JSt.wcd, JSt.wu] using q2, by simp [m_upr, JSt.k, JSt.sm, JSt.set, JSt.nm, JSt.cd, JSt.u, JSt.val, JSt.wk, JSt.wsm, JSt.wset, JSt.wnm, JSt.wcd, JSt.wu], ?_⟩
  simpa [CS, CNm, CCd, CU, CAr, CLb, CEn, m_upr, JSt.k, JSt.sm, JSt.set, JSt.nm, JSt.cd, JSt.u, JSt.val, JSt.wk, JSt.wsm, JSt.wset, JSt.wnm, JSt.wcd, JSt.wu] using q4
theorem CX.shr {tx : List Nat} {m : Nat} {I0 : Nat → Nat → Int32} {L0 : Nat → Nat → Int64} {r : JRs} {I : Nat → Nat → Int32} {L : Nat → Nat → Int64} {c : Nat} (h : CX tx m I0 L0 r I L) (hc : c ≤ 20) (hge : jge c r) : CX tx m I0 L0 (jshr c r) (shrinkF (nI c) I) L := by
  have hFr : Fr S_jd I (shrinkF (nI c) I) := by
    unfold shrinkF
    split
    · exact Fr.rf.up rfl
    · exact (Fr.rf.up rfl).up rfl
  refine h.gen hFr Fr.rf (fun hb => ?_) (fun s e q hm => ?_) (fun e q => ?_)
  · unfold shrinkF
    obtain ⟨b1, b2, b3⟩ := hb
    split
    all_goals exact ⟨by simpa [m_upr] using b1, ⟨c, hc, by simp [m_upr]⟩, by simpa [m_upr] using b3⟩
  · subst e
    have hl : c ≤ s.nm.length := hge s rfl
    have hlt : (s.nm.take c).length = c := by rw [List.length_take]; omega
    obtain ⟨q1, q2, q3, ⟨n1, n2, n3, n4⟩, q5, q6⟩ := q
    have key : ∀ J : Nat → Nat → Int32, J 18 1 = nI c → CNm ((s.wnm (s.nm.take c)).wset (if s.set = -1 then -1 else s.set &&& ((1 <<< (nI c &&& 31)) - 1))) J L := by
      intro J hJ
      have hnm : ((s.wnm (s.nm.take c)).wset (if s.set = -1 then -1 else s.set &&& ((1 <<< (nI c &&& 31)) - 1))).nm = s.nm.take c := rfl
      unfold CNm
      rw [hnm, hlt]
      refine ⟨hJ, hc, fun j hj => ?_, fun x hx => n4 x (List.mem_of_mem_take hx)⟩
      rw [n3 j (by omega)]
      congr 2
      rw [List.getD_eq_getElem?_getD, List.getD_eq_getElem?_getD, List.getElem?_take_of_lt hj]
    show CS m ((s.wnm (s.nm.take c)).wset (if s.set = -1 then -1 else s.set &&& ((1 <<< (nI c &&& 31)) - 1))) (shrinkF (nI c) I) L
    by_cases g : s.set = -1
    · have hs : shrinkF (nI c) I = m_up I 18 1 (nI c) := by unfold shrinkF; rw [q3, if_pos g]
      rw [hs]
      refine ⟨by simpa [m_upr, JSt.k, JSt.sm, JSt.set, JSt.nm, JSt.cd, JSt.u, JSt.val, JSt.wk, JSt.wsm, JSt.wset, JSt.wnm, JSt.wcd, JSt.wu] using q1, by simpa [m_upr, JSt.k, JSt.sm, JSt.set, JSt.nm, JSt.cd, JSt.u, JSt.val, JSt.wk, JSt.wsm, JSt.wset, JSt.wnm, JSt.wcd, JSt.wu] using q2, ?_, key _ (by simp [m_upr]), by simpa [CCd, m_upr, JSt.k, JSt.sm, JSt.set, JSt.nm, JSt.cd, JSt.u, JSt.val, JSt.wk, JSt.wsm, JSt.wset, JSt.wnm, JSt.wcd, JSt.wu] using q5, by simpa [CU, CAr, CLb, CEn, m_upr, JSt.k, JSt.sm, JSt.set, JSt.nm, JSt.cd, JSt.u, JSt.val, JSt.wk, JSt.wsm, JSt.wset, JSt.wnm, JSt.wcd, JSt.wu] using q6⟩
      show _ = if s.set = -1 then -1 else _
      rw [if_pos g]
      simp [m_upr, q3, g]
    · have hs : shrinkF (nI c) I = m_up (m_up I 18 1 (nI c)) 18 2 (s.set &&& ((1 <<< (nI c &&& 31)) - 1)) := by unfold shrinkF; rw [q3, if_neg g]
      rw [hs]
      refine ⟨by simpa [m_upr, JSt.k, JSt.sm, JSt.set, JSt.nm, JSt.cd, JSt.u, JSt.val, JSt.wk, JSt.wsm, JSt.wset, JSt.wnm, JSt.wcd, JSt.wu] using q1, by simpa [m_upr, JSt.k, JSt.sm, JSt.set, JSt.nm, JSt.cd, JSt.u, JSt.val, JSt.wk, JSt.wsm, JSt.wset, JSt.wnm, JSt.wcd, JSt.wu] using q2, ?_, key _ (by simp [m_upr]), by simpa [CCd, m_upr, JSt.k, JSt.sm, JSt.set, JSt.nm, JSt.cd, JSt.u, JSt.val, JSt.wk, JSt.wsm, JSt.wset, JSt.wnm, JSt.wcd, JSt.wu] using q5, by simpa [CU, CAr, CLb, CEn, m_upr, JSt.k, JSt.sm, JSt.set, JSt.nm, JSt.cd, JSt.u, JSt.val, JSt.wk, JSt.wsm, JSt.wset, JSt.wnm, JSt.wcd, JSt.wu] using q6⟩
      show _ = if s.set = -1 then -1 else _
      rw [if_neg g]
      simp [m_upr]
  · subst q
    refine ⟨rfl, ?_, ?_⟩ <;> · unfold shrinkF; split <;> simp [m_upr]
end
section
/-! ===== the class judges a stmt: its parts ===== -/
theorem jkd_eq {tx : List Nat} {r : JRs} {a : Nat} (ha : a < 2 ^ 31) : nI (jkd tx r) = nI a ↔ jkd tx r = a := nI_eq (jkd_lt tx r) ha
theorem no_kd {tx : List Nat} {e : Nat × Nat} {a : Nat} (h : jkd tx (.error e) = a) (ha : a ≠ 0) : False := ha h.symm
theorem CX.junk {tx : List Nat} {m : Nat} {I0 : Nat → Nat → Int32} {L0 : Nat → Nat → Int64} {I : Nat → Nat → Int32} {L : Nat → Nat → Int64} {e : Nat × Nat} {I' : Nat → Nat → Int32} {L' : Nat → Nat → Int64} (h : CX tx m I0 L0 (.error e) I L) (hF : Fr S_jd I I') (hL : Fr S_jdL L L') (hB : BD I → BD I') (h9 : I' 17 9 = I 17 9) (h10 : I' 17 10 = I 17 10) : CX tx m I0 L0 (.error e) I' L' :=
  h.gen hF hL hB (fun s q => by cases q) (fun e' q => ⟨q, h9, h10⟩)
theorem nm_tok {tx : List Nat} (ht : TxOk tx) {i : Nat} (h : (tokAt tx i).1 = 16 ∨ (tokAt tx i).1 = 18) : NmOk (tokAt tx i).2.2.1 := by
  unfold tokAt at h ⊢
  by_cases h0 : tx.length ≤ i
  · rw [if_pos h0] at h; simp at h
  rw [if_neg h0] at h ⊢
  by_cases h1 : isSm (toc tx i) = 1
  · rw [if_pos h1] at h ⊢
    by_cases h8 : 8 < scan qN tx i - i
    · rw [if_pos h8] at h; simp at h
    · rw [if_neg h8] at h ⊢
      exact nm_slice ht (by omega) (by omega)
  rw [if_neg h1] at h ⊢
  by_cases h2 : isFg (toc tx i) = 1
  · rw [if_pos h2] at h
    by_cases h8 : 9 < scan qF tx i - i
    · rw [if_pos h8] at h; simp at h
    · rw [if_neg h8] at h; simp at h
  rw [if_neg h2] at h ⊢
  by_cases h3 : toc tx i = 34
  · rw [if_pos h3] at h ⊢
    by_cases h4 : toc tx (scan qT tx (i + 1)) = 34 ∧ scan qT tx (i + 1) - (i + 1) ≤ 8
    · rw [if_pos h4] at h ⊢
      exact tx_slice ht (by omega) h4.2
    · rw [if_neg h4] at h; simp at h
  rw [if_neg h3] at h ⊢
  by_cases h5 : toc tx i = 45 ∧ toc tx (i + 1) = 62
  · rw [if_pos h5] at h; simp at h
  rw [if_neg h5] at h ⊢
  by_cases h6 : sgN (toc tx i) = 28
  · rw [if_pos h6] at h; simp at h
  · rw [if_neg h6] at h
    have := (sgN_C h6).2.1
    simp only at h
    omega
theorem tk_nm {tx : List Nat} (ht : TxOk tx) {k : Nat} (h : (tk tx k).1 = 16 ∨ (tk tx k).1 = 18) : NmOk (tk tx k).2.2.1 := nm_tok ht h
theorem CX.tv {tx : List Nat} {m : Nat} {I0 : Nat → Nat → Int32} {L0 : Nat → Nat → Int64} {I : Nat → Nat → Int32} {L : Nat → Nat → Int64} {s : JSt} (h : CX tx m I0 L0 (.ok s) I L) : tvF I L = cval (tk tx s.k) := by
  have hl := h.1.1.1
  have hml := h.1.2.2.1
  have hk := h.km_ok
  unfold tvF
  rw [h.at_ok, if_neg (nI_pos (by omega)), if_pos (show nI s.k < 3001 from nI_lt (a := s.k) (b := 3001) (by omega) (by omega)), nI_clamp (by omega), (h.1.2.2.2.2 s.k hk).2.2]
theorem cval_nm {t : Tok} (h : t.1 = 16 ∨ t.1 = 18) : cval t = lN (pkB 256 t.2.2.1) := by
  unfold cval
  rw [if_neg (by omega)]
theorem cval_nr {t : Tok} (h : t.1 = 17) : cval t = lN t.2.2.2.1 := by
  unfold cval
  rw [if_pos h]
theorem c_kindX {XL : Nat} {XS : Nat → Int32} {n : Nat} {C : mC} {I : Nat → Nat → Int32} {L : Nat → Nat → Int64} {K : mK} {tx : List Nat} {m : Nat} {I0 : Nat → Nat → Int32} {L0 : Nat → Nat → Int64} {r : JRs} (hC : m_Ge XL XS (n + 1) C) (hX : CX tx m I0 L0 r I L) (hK : K (some (.int (nI (jkd tx r)))) (m_SH, I, L)) : C 5 [.ref 17] (m_SH, I, L) K := by
  refine c_kind hC ?_
  rw [hX.kd]
  exact hK
theorem CX.nr {tx : List Nat} {m : Nat} {I0 : Nat → Nat → Int32} {L0 : Nat → Nat → Int64} {r : JRs} {I : Nat → Nat → Int32} {L : Nat → Nat → Int64} (h : CX tx m I0 L0 r I L) : (if kindF I = 17 then (tvF I L).toInt32 else 0) = jnmv tx r := by
  rw [h.kd]
  unfold jnmv
  by_cases e : jkd tx r = 17
  · rw [if_pos e, if_pos (show nI (jkd tx r) = 17 by rw [e]; rfl)]
    cases r with
    | error e' => exact (no_kd e (by decide)).elim
    | ok s => rw [h.tv, cval_nr e, lN_i]; rfl
  · rw [if_neg e, if_neg (show ¬ nI (jkd tx r) = 17 from fun z => e ((jkd_eq (a := 17) (by decide)).mp z))]
theorem CX.nb {tx : List Nat} {m : Nat} {I0 : Nat → Nat → Int32} {L0 : Nat → Nat → Int64} {r : JRs} {I : Nat → Nat → Int32} {L : Nat → Nat → Int64} (h : CX tx m I0 L0 r I L) : CX tx m I0 L0 (jnmb tx r) (if kindF I = 17 then m_up I 17 8 (I 17 8 + 1) else failF 2 (I 17 8) I) L := by
  rw [h.kd]
  unfold jnmb
  by_cases e : jkd tx r = 17
  · rw [if_pos e, if_pos (show nI (jkd tx r) = 17 by rw [e]; rfl)]
    refine h.adv (fun s hs => ?_)
    subst hs
    have : (tk tx s.k).1 = 17 := e
    omega
  · rw [if_neg e, if_neg (show ¬ nI (jkd tx r) = 17 from fun z => e ((jkd_eq (a := 17) (by decide)).mp z))]
    exact h.fail (a := 2) (by decide) (by decide)
theorem c_numberX {XL : Nat} {XS : Nat → Int32} {n : Nat} {C : mC} {I : Nat → Nat → Int32} {L : Nat → Nat → Int64} {K : mK} {tx : List Nat} {m : Nat} {I0 : Nat → Nat → Int32} {L0 : Nat → Nat → Int64} {r : JRs} (hC : m_Ge XL XS (n + 2) C) (hX : CX tx m I0 L0 r I L) (hK : ∀ I', CX tx m I0 L0 (jnmb tx r) I' L → K (some (.int (jnmv tx r))) (m_SH, I', L)) : C 35 [.ref 17] (m_SH, I, L) K := by
  refine c_number hC ?_
  rw [hX.nr]
  exact hK _ hX.nb
theorem c_expectX {XL : Nat} {XS : Nat → Int32} {n : Nat} {C : mC} {I : Nat → Nat → Int32} {L : Nat → Nat → Int64} {K : mK} {tx : List Nat} {m : Nat} {I0 : Nat → Nat → Int32} {L0 : Nat → Nat → Int64} {r : JRs} {k : Nat} (hC : m_Ge XL XS (n + 2) C) (hX : CX tx m I0 L0 r I L) (hk0 : k ≠ 0) (hk : k < 27) (hK : ∀ I', CX tx m I0 L0 (jxpc tx k r) I' L → K none (m_SH, I', L)) : C 8 [.ref 17, .int (nI k)] (m_SH, I, L) K :=
  c_expect hC (hK _ (hX.xpc hk0 hk))
theorem c_failX {XL : Nat} {XS : Nat → Int32} {n : Nat} {C : mC} {I : Nat → Nat → Int32} {L : Nat → Nat → Int64} {K : mK} {tx : List Nat} {m : Nat} {I0 : Nat → Nat → Int32} {L0 : Nat → Nat → Int64} {r : JRs} {a : Nat} (hC : m_Ge XL XS (n + 1) C) (hX : CX tx m I0 L0 r I L) (ha0 : a ≠ 0) (ha : a ≤ 12) (hK : ∀ I', CX tx m I0 L0 (jfal tx a r) I' L → K none (m_SH, I', L)) : C 7 [.ref 17, .int (nI a), .int (I 17 8)] (m_SH, I, L) K :=
  c_fail hC (hK _ (hX.fail ha0 ha))
theorem c_stepX {XL : Nat} {XS : Nat → Int32} {n : Nat} {C : mC} {I : Nat → Nat → Int32} {L : Nat → Nat → Int64} {K : mK} {tx : List Nat} {m : Nat} {I0 : Nat → Nat → Int32} {L0 : Nat → Nat → Int64} {r : JRs} {k a b : Int32} (hC : m_Ge XL XS (n + 1) C) (hX : CX tx m I0 L0 r I L) (hk : vp_nar .byte k.toInt8.toInt32 = k) (hK : ∀ I', CX tx m I0 L0 (jemt k a b r) I' L → K none (m_SH, I', L)) : C 1 [.ref 13, .int k, .int a, .int b] (m_SH, I, L) K :=
  c_step hC hX.cl0 (hK _ (hX.emt hk))
theorem c_leadX {XL : Nat} {XS : Nat → Int32} {n : Nat} {C : mC} {I : Nat → Nat → Int32} {L : Nat → Nat → Int64} {K : mK} {tx : List Nat} {m : Nat} {I0 : Nat → Nat → Int32} {L0 : Nat → Nat → Int64} {r : JRs} {i : Nat} (hC : m_Ge XL XS (n + 1) C) (hX : CX tx m I0 L0 r I L) (hi : i ≤ 260) (hK : ∀ I', CX tx m I0 L0 (jled i r) I' L → K none (m_SH, I', L)) : C 2 [.ref 13, .int (nI i)] (m_SH, I, L) K := by
  obtain ⟨c, hc, e⟩ := hX.bd.1
  refine c_leadHere hC (fun _ h1 => ?_) (hK _ (hX.led hi))
  rw [e] at h1
  have := (nI_ltI (by omega) (by omega)).mp h1
  exact vp_in_nI (by omega) (by omega)
theorem c_leaveX {XL : Nat} {XS : Nat → Int32} {n : Nat} {C : mC} {I : Nat → Nat → Int32} {L : Nat → Nat → Int64} {K : mK} {tx : List Nat} {m : Nat} {I0 : Nat → Nat → Int32} {L0 : Nat → Nat → Int64} {r : JRs} {a b : Int32} (hC : m_Ge XL XS (n + 2) C) (hX : CX tx m I0 L0 r I L) (hK : ∀ I', CX tx m I0 L0 (jlve a b r) I' L → K none (m_SH, I', L)) : C 34 [.ref 17, .int a, .int b] (m_SH, I, L) K :=
  c_leave hC hX.cl0 (hK _ ((hX.emt (by decide)).sst (fun _ _ => rfl)))
theorem CX.stn {tx : List Nat} {m : Nat} {I0 : Nat → Nat → Int32} {L0 : Nat → Nat → Int64} {r : JRs} {I : Nat → Nat → Int32} {L : Nat → Nat → Int64} {a a' b : Int32} (h : CX tx m I0 L0 r I L) (ha : ∀ s, r = .ok s → a = a') : CX tx m I0 L0 (jstn a' b r) (if a < 0 then stepF 2 a b I else m_up (stepF 2 a b I) 18 2 (stepF 2 a b I 18 2 ||| (1 <<< (a &&& 31)))) L := by
  have h1 : CX tx m I0 L0 (jemt 2 a b r) (stepF 2 a b I) L := h.emt (by decide)
  cases r with
  | error e =>
    show CX tx m I0 L0 (.error e) _ L
    split
    · exact h1
    · refine CX.junk h1 (Fr.rf.up rfl) Fr.rf (by simp [BD, m_upr]) (by simp [m_upr]) (by simp [m_upr])
  | ok s =>
    have := ha s rfl
    subst this
    have h2 : jemt 2 a b (.ok s) = .ok (if s.cd.length < 260 then s.wcd (s.cd ++ [(2, a, b)]) else s) := rfl
    unfold jstn
    rw [h2] at h1 ⊢
    generalize (if s.cd.length < 260 then s.wcd (s.cd ++ [(2, a, b)]) else s) = s' at h1
    have h3 : stepF 2 a b I 18 2 = s'.set := h1.ok.2.2.1
    show CX tx m I0 L0 (.ok (s'.wset (if a < 0 then s'.set else s'.set ||| (1 <<< (a &&& 31))))) _ L
    by_cases g : a < 0
    · rw [if_pos g, if_pos g]
      exact h1
    · rw [if_neg g, if_neg g, h3]
      exact h1.sst (fun _ _ => rfl)
theorem c_setNameX {XL : Nat} {XS : Nat → Int32} {n : Nat} {C : mC} {I : Nat → Nat → Int32} {L : Nat → Nat → Int64} {K : mK} {tx : List Nat} {m : Nat} {I0 : Nat → Nat → Int32} {L0 : Nat → Nat → Int64} {r : JRs} {a a' b : Int32} (hC : m_Ge XL XS (n + 2) C) (hX : CX tx m I0 L0 r I L) (ha : ∀ s, r = .ok s → a = a') (hK : ∀ I', CX tx m I0 L0 (jstn a' b r) I' L → K none (m_SH, I', L)) : C 30 [.ref 17, .int a, .int b] (m_SH, I, L) K :=
  c_setName hC hX.cl0 (hK _ (hX.stn ha))
theorem c_findX {XL : Nat} {XS : Nat → Int32} {n : Nat} {C : mC} {I : Nat → Nat → Int32} {L : Nat → Nat → Int64} {K : mK} {tx : List Nat} {m : Nat} {I0 : Nat → Nat → Int32} {L0 : Nat → Nat → Int64} {r : JRs} (hC : m_Ge XL XS (n + 1) C) (hX : CX tx m I0 L0 r I L) (hK : ∀ v, (∀ s, r = .ok s → (tk tx s.k).1 = 16 → v = jfnd tx r) → K (some (.int v)) (m_SH, I, L)) : C 50 [.ref 18, .long (tvF I L)] (m_SH, I, L) K := by
  obtain ⟨c, hc, e⟩ := hX.bd.2.1
  refine c_find hC e hc (hK _ (fun s hs hk => ?_))
  subst hs
  obtain ⟨n1, n2, n3, n4⟩ := hX.ok.2.2.2.1
  have hcl : c = s.nm.length := (nI_eq (by omega) (by omega)).mp (e.symm.trans n1)
  subst hcl
  have hcs := tk_nm hX.1.1 (Or.inl hk)
  rw [hX.tv, cval_nm (Or.inl hk)]
  have := srch_idx (f := fun j => L 19 j == lN (pkB 256 (tk tx s.k).2.2.1)) (cs := (tk tx s.k).2.2.1) s.nm 0 (fun j hj => by
    simp only [Nat.zero_add]
    rw [n3 j hj]
    refine beq_of_iff (nm_inj8 (n4 _ ?_) hcs)
    rw [List.getD_eq_getElem?_getD, List.getElem?_eq_getElem hj]
    exact List.getElem_mem _)
  rw [this, Nat.zero_add]
  rfl
theorem c_yieldNumber {XL : Nat} {XS : Nat → Int32} {n : Nat} {C : mC} {I : Nat → Nat → Int32} {L : Nat → Nat → Int64} {K : mK} {tx : List Nat} {m : Nat} {I0 : Nat → Nat → Int32} {L0 : Nat → Nat → Int64} {r : JRs} (hC : m_Ge XL XS (n + 3) C) (hX : CX tx m I0 L0 r I L) (hK : ∀ I', CX tx m I0 L0 (jyld tx r) I' L → K none (m_SH, I', L)) : C 33 [.ref 17] (m_SH, I, L) K := by
  unfold jyld at hK
  refine e_X1_yieldNumber hC (Nat.le_of_ble_eq_true rfl) ?_
  intro C' hC' P hP
  repeat (refine hP _ ?_; conv => whnf)
  refine c_kindX hC' hX ?_
  repeat (refine hP _ ?_; conv => whnf)
  refine ⟨fun q => ?_, fun q => ?_⟩
  · have hk : jkd tx r = 25 := (jkd_eq (a := 25) (by decide)).mp q
    rw [if_pos hk] at hK
    repeat (refine hP _ ?_; conv => whnf)
    refine ⟨fun z => absurd z (by decide), fun _ => ?_⟩
    repeat (refine hP _ ?_; conv => whnf)
    refine c_numberX hC' (hX.adv (fun s hs => by subst hs; have : (tk tx s.k).1 = 25 := hk; omega)) (fun I' h' => ?_)
    repeat (refine hP _ ?_; conv => whnf)
    refine ⟨fun z => absurd z (by decide), fun _ => ?_⟩
    repeat (refine hP _ ?_; conv => whnf)
    refine c_leaveX hC' h' (fun I'' h'' => ?_)
    repeat (refine hP _ ?_; conv => whnf)
    exact hK _ h''
  · have hk : ¬ jkd tx r = 25 := fun z => q (by rw [z]; rfl)
    rw [if_neg hk] at hK
    repeat (refine hP _ ?_; conv => whnf)
    refine ⟨fun _ => ?_, fun z => absurd rfl z⟩
    repeat (refine hP _ ?_; conv => whnf)
    refine c_numberX hC' hX (fun I' h' => ?_)
    repeat (refine hP _ ?_; conv => whnf)
    refine ⟨fun _ => ?_, fun z => absurd rfl z⟩
    repeat (refine hP _ ?_; conv => whnf)
    refine c_leaveX hC' h' (fun I'' h'' => ?_)
    repeat (refine hP _ ?_; conv => whnf)
    exact hK _ h''
theorem c_isSetX {XL : Nat} {XS : Nat → Int32} {n : Nat} {C : mC} {I : Nat → Nat → Int32} {L : Nat → Nat → Int64} {K : mK} {tx : List Nat} {m : Nat} {I0 : Nat → Nat → Int32} {L0 : Nat → Nat → Int64} {r : JRs} {a : Int32} (hC : m_Ge XL XS (n + 1) C) (hX : CX tx m I0 L0 r I L) (hK : ∀ v : Int32, (∀ s, r = .ok s → (v = 0 ↔ ¬ jbit a s.set)) → K (some (.int v)) (m_SH, I, L)) : C 53 [.ref 18, .int a] (m_SH, I, L) K := by
  refine c_isSet hC (hK _ (fun s hs => ?_))
  subst hs
  have h3 := hX.ok.2.2.1
  unfold isSetF jbit
  rw [h3]
  by_cases g : a < 0
  · rw [if_pos g]; simp [g]
  · rw [if_neg g]
    by_cases g2 : (s.set.toUInt32 >>> (a.toUInt32 &&& Int32.toUInt32 31)).toInt32 &&& 1 = 1
    · rw [if_pos g2]
      exact ⟨fun z => absurd z (by decide), fun z => absurd ⟨g, g2⟩ z⟩
    · rw [if_neg g2]
      exact ⟨fun _ z => g2 z.2, fun _ => rfl⟩
theorem CX.jnk {tx : List Nat} {m : Nat} {I0 : Nat → Nat → Int32} {L0 : Nat → Nat → Int64} {I : Nat → Nat → Int32} {L : Nat → Nat → Int64} {e : Nat × Nat} {a b c : Int32} (h : CX tx m I0 L0 (.error e) I L) : CX tx m I0 L0 (.error e) (m_up (stepF a b c I) 17 8 (stepF a b c I 17 8 + 1)) L := by
  have h0 := h.cl0
  have hFr : Fr S_jd I (stepF a b c I) := by
    unfold stepF
    split
    · exact (((Fr.rf.up rfl).up rfl).up rfl).up rfl
    · exact Fr.rf
  refine h.junk (hFr.up rfl) Fr.rf (fun hb => ?_) ?_ ?_
  · unfold stepF
    split
    · rename_i hlt
      obtain ⟨⟨c, hc, e⟩, hb⟩ := hb
      rw [e] at hlt
      have := (nI_ltI (a := c) (b := 260) (by omega) (by omega)).mp hlt
      refine ⟨⟨c + 1, by omega, by simp [m_upr, e, nI_1]⟩, ?_⟩
      simpa [BD, m_upr] using hb
    · simpa [BD, m_upr] using hb
  · unfold stepF; split <;> simp [m_upr]
  · unfold stepF; split <;> simp [m_upr]
theorem c_useName {XL : Nat} {XS : Nat → Int32} {n : Nat} {C : mC} {I : Nat → Nat → Int32} {L : Nat → Nat → Int64} {K : mK} {tx : List Nat} {m : Nat} {I0 : Nat → Nat → Int32} {L0 : Nat → Nat → Int64} {r : JRs} (hC : m_Ge XL XS (n + 2) C) (hX : CX tx m I0 L0 r I L) (hK : ∀ I', CX tx m I0 L0 (juse tx r) I' L → K none (m_SH, I', L)) : C 32 [.ref 17] (m_SH, I, L) K := by
  refine e_X1_useName hC (Nat.le_of_ble_eq_true rfl) ?_
  intro C' hC' P hP
  have bad : ∀ (e : Nat × Nat) (J : Nat → Nat → Int32) (v : Int32), juse tx r = .error e → CX tx m I0 L0 (.error e) J L → P (67, [some (.ref 17), some (.int v)], [], (m_SH, J, L), 0, 0) := by
    intro e J v he hJ
    rw [he] at hK
    repeat (refine hP _ ?_; conv => whnf)
    refine c_step hC' hJ.cl0 ?_
    repeat (refine hP _ ?_; conv => whnf)
    exact hK _ hJ.jnk
  repeat (refine hP _ ?_; conv => whnf)
  refine c_kindX hC' hX ?_
  repeat (refine hP _ ?_; conv => whnf)
  refine ⟨fun q => ?_, fun q => ?_⟩
  · have hk : jkd tx r = 16 := (jkd_eq (a := 16) (by decide)).mp q
    cases r with
    | error e => exact (no_kd hk (by decide)).elim
    | ok s =>
      have hk' : (tk tx s.k).1 = 16 := hk
      repeat (refine hP _ ?_; conv => whnf)
      refine c_tokenValue hC' ?_
      repeat (refine hP _ ?_; conv => whnf)
      refine c_findX hC' hX (fun v hv => ?_)
      have hv := hv s rfl hk'
      subst hv
      repeat (refine hP _ ?_; conv => whnf)
      refine c_kindX hC' hX ?_
      repeat (refine hP _ ?_; conv => whnf)
      refine ⟨fun _ => ?_, fun z => absurd q z⟩
      repeat (refine hP _ ?_; conv => whnf)
      refine c_isSetX hC' hX (fun v hv => ?_)
      have hv := hv s rfl
      repeat (refine hP _ ?_; conv => whnf)
      refine ⟨fun z => ?_, fun z => ?_⟩
      · repeat (refine hP _ ?_; conv => whnf)
        have hu : juse tx (.ok s) = jfal tx 7 (.ok s) := by
          simp only [juse, jb]
          rw [if_neg (fun z => z hk'), if_pos (hv.mp z)]
        refine c_failX (a := 7) hC' hX (by decide) (by decide) (fun I' h' => ?_)
        exact bad _ I' _ hu h'
      · have hu : juse tx (.ok s) = jadv (jemt 1 (jfnd tx (.ok s)) 0 (.ok s)) := by
          simp only [juse, jb]
          rw [if_neg (fun z => z hk'), if_neg (fun y => z (hv.mpr y))]
        rw [hu] at hK
        repeat (refine hP _ ?_; conv => whnf)
        refine c_stepX hC' hX (by decide) (fun I' h' => ?_)
        repeat (refine hP _ ?_; conv => whnf)
        refine hK _ (h'.adv (fun s2 hs2 => ?_))
        have : s2.k = s.k := by
          simp only [jemt, jb, Except.ok.injEq] at hs2
          rw [← hs2]
          split <;> rfl
        rw [this]
        omega
  · have hk : ¬ jkd tx r = 16 := fun z => q (by rw [z]; rfl)
    repeat (refine hP _ ?_; conv => whnf)
    refine c_kindX hC' hX ?_
    repeat (refine hP _ ?_; conv => whnf)
    refine ⟨fun z => absurd z q, fun _ => ?_⟩
    repeat (refine hP _ ?_; conv => whnf)
    refine c_failX (a := 2) hC' hX (by decide) (by decide) (fun I' h' => ?_)
    iterate 1 (refine hP _ ?_; conv => whnf)
    cases r with
    | error e =>
      exact bad e I' _ rfl h'
    | ok s =>
      have hk' : ¬ (tk tx s.k).1 = 16 := hk
      have hu : juse tx (.ok s) = jfal tx 2 (.ok s) := by
        simp only [juse, jb]
        rw [if_pos hk']
      exact bad _ I' _ hu h'
end
section
theorem CX.addn {tx : List Nat} {m : Nat} {I0 : Nat → Nat → Int32} {L0 : Nat → Nat → Int64} {I : Nat → Nat → Int32} {L : Nat → Nat → Int64} {s : JSt} (h : CX tx m I0 L0 (.ok s) I L) (hk : (tk tx s.k).1 = 16) (hl : s.nm.length < 20) : CX tx m I0 L0 (.ok (s.wnm (s.nm ++ [(tk tx s.k).2.2.1]))) (m_up I 18 1 (I 18 1 + 1)) (m_upL L 19 s.nm.length (tvF I L)) := by
  have hn1 := h.ok.2.2.2.1.1
  have hcs := tk_nm h.1.1 (Or.inl hk)
  have htv := h.tv
  rw [cval_nm (Or.inl hk)] at htv
  refine h.gen (Fr.rf.up rfl) (Fr.rf.upL rfl) (fun hb => ?_) (fun s' e q hm => ?_) (fun e q => by cases q)
  · obtain ⟨b1, b2, b3⟩ := hb
    refine ⟨by simpa [m_upr] using b1, ⟨s.nm.length + 1, by omega, by simp [m_upr, hn1, nI_1]⟩, by simpa [m_upr] using b3⟩
  · cases e
    obtain ⟨q1, q2, q3, ⟨n1, n2, n3, n4⟩, q5, q6⟩ := q
    refine ⟨by simpa [m_upr, JSt.k, JSt.sm, JSt.set, JSt.nm, JSt.cd, JSt.u, JSt.val, JSt.wk, JSt.wsm, JSt.wset, JSt.wnm, JSt.wcd, JSt.wu] using q1, by simpa [m_upr, JSt.k, JSt.sm, JSt.set, JSt.nm, JSt.cd, JSt.u, JSt.val, JSt.wk, JSt.wsm, JSt.wset, JSt.wnm, JSt.wcd, JSt.wu] using q2, by simpa [m_upr, JSt.k, JSt.sm, JSt.set, JSt.nm, JSt.cd, JSt.u, JSt.val, JSt.wk, JSt.wsm, JSt.wset, JSt.wnm, JSt.wcd, JSt.wu] using q3, ?_, by simpa [CCd, m_upr, JSt.k, JSt.sm, JSt.set, JSt.nm, JSt.cd, JSt.u, JSt.val, JSt.wk, JSt.wsm, JSt.wset, JSt.wnm, JSt.wcd, JSt.wu] using q5, by simpa [CU, CAr, CLb, CEn, m_upr, m_uprL, JSt.k, JSt.sm, JSt.set, JSt.nm, JSt.cd, JSt.u, JSt.val, JSt.wk, JSt.wsm, JSt.wset, JSt.wnm, JSt.wcd, JSt.wu] using q6⟩
    have hnm : (s.wnm (s.nm ++ [(tk tx s.k).2.2.1])).nm = s.nm ++ [(tk tx s.k).2.2.1] := rfl
    unfold CNm
    rw [hnm, List.length_append, List.length_singleton]
    refine ⟨by simp [m_upr, n1, nI_1], by omega, fun j hj => ?_, fun x hx => ?_⟩
    · rw [m_uprL, if_pos rfl]
      by_cases hj2 : j = s.nm.length
      · subst hj2
        rw [if_pos rfl, htv]
        congr 2
        rw [List.getD_eq_getElem?_getD, List.getElem?_append_right (Nat.le_refl _)]
        simp
      · rw [if_neg hj2, n3 j (by omega)]
        congr 2
        rw [List.getD_eq_getElem?_getD, List.getD_eq_getElem?_getD, List.getElem?_append_left (by omega)]
    · rcases List.mem_append.mp hx with hx | hx
      · exact n4 x hx
      · rw [List.mem_singleton.mp hx]; exact hcs
theorem c_let {XL : Nat} {XS : Nat → Int32} {n : Nat} {C : mC} {I : Nat → Nat → Int32} {L : Nat → Nat → Int64} {K : mK} {tx : List Nat} {m : Nat} {I0 : Nat → Nat → Int32} {L0 : Nat → Nat → Int64} {r : JRs} (hC : m_Ge XL XS (n + 3) C) (hX : CX tx m I0 L0 r I L) (hK : ∀ I' L', CX tx m I0 L0 (jlet tx r) I' L' → K none (m_SH, I', L')) : C 29 [.ref 17] (m_SH, I, L) K := by
  refine e_X1_let hC (Nat.le_of_ble_eq_true rfl) ?_
  intro C' hC' P hP
  repeat (refine hP _ ?_; conv => whnf)
  refine c_kindX hC' hX ?_
  repeat (refine hP _ ?_; conv => whnf)
  refine ⟨fun q => ?_, fun q => ?_⟩
  · have hk : jkd tx r = 16 := (jkd_eq (a := 16) (by decide)).mp q
    cases r with
    | error e => exact (no_kd hk (by decide)).elim
    | ok s =>
      have hk' : (tk tx s.k).1 = 16 := hk
      have hu : jlet tx (.ok s) = if ¬ jfnd tx (.ok s) < 0 then jfal tx 6 (.ok s) else if 20 ≤ s.nm.length then jfal tx 12 (.ok s) else (if jkd tx (jadv (.ok (s.wnm (s.nm ++ [(tk tx s.k).2.2.1])))) = 24 then jstn (nI s.nm.length) (jnmv tx (jadv (jadv (.ok (s.wnm (s.nm ++ [(tk tx s.k).2.2.1])))))) (jnmb tx (jadv (jadv (.ok (s.wnm (s.nm ++ [(tk tx s.k).2.2.1])))))) else jadv (.ok (s.wnm (s.nm ++ [(tk tx s.k).2.2.1])))) := by
        simp only [jlet, jb]
        rw [if_neg (fun z => z hk')]
      rw [hu] at hK
      have hn1 := hX.ok.2.2.2.1.1
      have hn2 := hX.ok.2.2.2.1.2.1
      repeat (refine hP _ ?_; conv => whnf)
      refine c_tokenValue hC' ?_
      repeat (refine hP _ ?_; conv => whnf)
      refine c_findX hC' hX (fun v hv => ?_)
      have hv := hv s rfl hk'
      subst hv
      repeat (refine hP _ ?_; conv => whnf)
      refine ⟨fun z => ?_, fun z => ?_⟩
      · rw [if_neg (fun y => y z)] at hK
        repeat (refine hP _ ?_; conv => whnf)
        rw [hn1]
        refine ⟨fun y => ?_, fun y => ?_⟩
        · have hl : s.nm.length < 20 := (nI_ltI (a := s.nm.length) (b := 20) (by omega) (by omega)).mp y
          rw [if_neg (by omega)] at hK
          repeat (refine hP _ ?_; conv => whnf)
          refine c_tokenValue hC' ?_
          repeat (refine hP _ ?_; conv => whnf)
          refine c_add hC' (by rw [hn1]; exact nI_pos (by omega)) (by rw [hn1]; exact y) ?_
          have ha := hX.addn hk' hl
          have e1 : I 18 1 + 1 - 1 = nI s.nm.length := by
            rw [hn1, nI_1, show (1 : Int32) = nI 1 from rfl, sub_nI (by omega)]
            rfl
          have e2 : (I 18 1).toNatClampNeg = s.nm.length := by rw [hn1, nI_clamp (by omega)]
          rw [e1, e2]
          have ha2 := ha.adv (fun s2 hs2 => by cases hs2; have : (tk tx (s.wnm (s.nm ++ [(tk tx s.k).2.2.1])).k).1 = 16 := hk'; omega)
          repeat (refine hP _ ?_; conv => whnf)
          refine c_kindX hC' ha2 ?_
          repeat (refine hP _ ?_; conv => whnf)
          refine ⟨fun w => ?_, fun w => ?_⟩
          · have hk2 := (jkd_eq (a := 24) (by decide)).mp w
            rw [if_pos hk2] at hK
            repeat (refine hP _ ?_; conv => whnf)
            refine c_numberX hC' (ha2.adv (fun s2 hs2 => by rw [hs2] at hk2; have : (tk tx s2.k).1 = 24 := hk2; omega)) (fun I' h' => ?_)
            repeat (refine hP _ ?_; conv => whnf)
            refine c_setNameX hC' h' (fun _ _ => rfl) (fun I'' h'' => ?_)
            repeat (refine hP _ ?_; conv => whnf)
            exact hK _ _ h''
          · rw [if_neg (fun y => w (by rw [y]; rfl))] at hK
            repeat (refine hP _ ?_; conv => whnf)
            exact hK _ _ ha2
        · have hl : 20 ≤ s.nm.length := by
            by_cases g : 20 ≤ s.nm.length
            · exact g
            · exact absurd (nI_lt (a := s.nm.length) (b := 20) (by omega) (by omega)) y
          rw [if_pos hl] at hK
          repeat (refine hP _ ?_; conv => whnf)
          refine c_failX (a := 12) hC' hX (by decide) (by decide) (fun I' h' => ?_)
          repeat (refine hP _ ?_; conv => whnf)
          exact hK _ _ h'
      · rw [if_pos z] at hK
        repeat (refine hP _ ?_; conv => whnf)
        refine c_failX (a := 6) hC' hX (by decide) (by decide) (fun I' h' => ?_)
        repeat (refine hP _ ?_; conv => whnf)
        exact hK _ _ h'
  · have hk : ¬ jkd tx r = 16 := fun z => q (by rw [z]; rfl)
    have hu : jlet tx r = jfal tx 2 r := by
      cases r with
      | error e => rfl
      | ok s =>
        have hk' : ¬ (tk tx s.k).1 = 16 := hk
        simp only [jlet, jb]
        rw [if_pos hk']
    rw [hu] at hK
    repeat (refine hP _ ?_; conv => whnf)
    refine c_failX (a := 2) hC' hX (by decide) (by decide) (fun I' h' => ?_)
    repeat (refine hP _ ?_; conv => whnf)
    exact hK _ _ h'
theorem c_simple {XL : Nat} {XS : Nat → Int32} {n : Nat} {C : mC} {I : Nat → Nat → Int32} {L : Nat → Nat → Int64} {K : mK} {tx : List Nat} {m : Nat} {I0 : Nat → Nat → Int32} {L0 : Nat → Nat → Int64} {r : JRs} (hC : m_Ge XL XS (n + 3) C) (hX : CX tx m I0 L0 r I L) (hk0 : jkd tx r < 27) (hK : ∀ I', CX tx m I0 L0 (jsmp tx r) I' L → K none (m_SH, I', L)) : C 31 [.ref 17] (m_SH, I, L) K := by
  unfold jsmp at hK
  have hA := hX.adv (fun s hs => by subst hs; have : (tk tx s.k).1 < 27 := hk0; omega)
  refine e_X1_simple hC (Nat.le_of_ble_eq_true rfl) ?_
  intro C' hC' P hP
  repeat (refine hP _ ?_; conv => whnf)
  refine c_kindX hC' hX ?_
  repeat (refine hP _ ?_; conv => whnf)
  refine c_tokenValue hC' ?_
  repeat (refine hP _ ?_; conv => whnf)
  refine c_findX hC' hX (fun v hv => ?_)
  repeat (refine hP _ ?_; conv => whnf)
  refine ⟨fun q => ?_, fun q => ?_⟩
  · rw [if_pos ((jkd_eq (a := 8) (by decide)).mp q)] at hK
    repeat (refine hP _ ?_; conv => whnf)
    refine c_numberX hC' hA (fun I' h' => ?_)
    repeat (refine hP _ ?_; conv => whnf)
    refine c_stepX hC' h' (by decide) (fun I'' h'' => ?_)
    repeat (refine hP _ ?_; conv => whnf)
    exact hK _ h''
  · rw [if_neg (fun z => q (by rw [z]; rfl))] at hK
    repeat (refine hP _ ?_; conv => whnf)
    refine ⟨fun q => ?_, fun q => ?_⟩
    · rw [if_pos ((jkd_eq (a := 10) (by decide)).mp q)] at hK
      repeat (refine hP _ ?_; conv => whnf)
      refine c_useName hC' hA (fun I'' h'' => ?_)
      repeat (refine hP _ ?_; conv => whnf)
      exact hK _ h''
    · rw [if_neg (fun z => q (by rw [z]; rfl))] at hK
      repeat (refine hP _ ?_; conv => whnf)
      refine ⟨fun q => ?_, fun q => ?_⟩
      · have hk := (jkd_eq (a := 16) (by decide)).mp q
        rw [if_pos hk] at hK
        repeat (refine hP _ ?_; conv => whnf)
        refine c_expectX (k := 24) hC' hA (by decide) (by decide) (fun I' h' => ?_)
        repeat (refine hP _ ?_; conv => whnf)
        refine c_numberX hC' h' (fun I'' h'' => ?_)
        repeat (refine hP _ ?_; conv => whnf)
        refine c_setNameX (a' := jfnd tx r) hC' h'' (fun s hs => ?_) (fun I3 h3 => ?_)
        · cases r with
          | error e => exact (no_kd hk (by decide)).elim
          | ok s2 => exact hv s2 rfl hk
        · repeat (refine hP _ ?_; conv => whnf)
          exact hK _ h3
      · rw [if_neg (fun z => q (by rw [z]; rfl))] at hK
        repeat (refine hP _ ?_; conv => whnf)
        refine ⟨fun q => ?_, fun q => ?_⟩
        · rw [if_pos ((jkd_eq (a := 11) (by decide)).mp q)] at hK
          repeat (refine hP _ ?_; conv => whnf)
          refine c_leaveX hC' hA (fun I'' h'' => ?_)
          repeat (refine hP _ ?_; conv => whnf)
          exact hK _ h''
        · rw [if_neg (fun z => q (by rw [z]; rfl))] at hK
          repeat (refine hP _ ?_; conv => whnf)
          refine c_numberX hC' hA (fun I' h' => ?_)
          repeat (refine hP _ ?_; conv => whnf)
          refine c_leaveX hC' h' (fun I'' h'' => ?_)
          repeat (refine hP _ ?_; conv => whnf)
          exact hK _ h''
theorem CX.stm_er {tx : List Nat} {m : Nat} {I0 : Nat → Nat → Int32} {L0 : Nat → Nat → Int64} {I : Nat → Nat → Int32} {L : Nat → Nat → Int64} {e : Nat × Nat} {x : Int32} (h : CX tx m I0 L0 (.error e) I L) : CX tx m I0 L0 (.error e) (m_up I 8 6 x) L :=
  h.junk (Fr.rf.up rfl) Fr.rf (by simp [BD, m_upr]) (by simp [m_upr]) (by simp [m_upr])
theorem CX.stm_ok {tx : List Nat} {m : Nat} {I0 : Nat → Nat → Int32} {L0 : Nat → Nat → Int64} {I : Nat → Nat → Int32} {L : Nat → Nat → Int64} {s : JSt} (h : CX tx m I0 L0 (.ok s) I L) (hs : s.sm < 120) : CX tx m I0 L0 (.ok (s.wsm (s.sm + 1))) (m_up I 8 6 (I 8 6 + 1)) L := by
  refine h.gen (Fr.rf.up rfl) Fr.rf (by simp [BD, m_upr]) (fun s' e q hm => ?_) (fun e q => by cases q)
  cases e
  obtain ⟨q1, ⟨a1, a2⟩, q3⟩ := q
  refine ⟨by simpa [m_upr, JSt.k, JSt.sm, JSt.set, JSt.nm, JSt.cd, JSt.u, JSt.val, JSt.wk, JSt.wsm, JSt.wset, JSt.wnm, JSt.wcd, JSt.wu] using q1, ⟨by simp [m_upr, a1, nI_1, JSt.k, JSt.sm, JSt.set, JSt.nm, JSt.cd, JSt.u, JSt.val, JSt.wk, JSt.wsm, JSt.wset, JSt.wnm, JSt.wcd, JSt.wu], hs⟩, ?_⟩
  simpa [CS, CNm, CCd, CU, CAr, CLb, CEn, m_upr, JSt.k, JSt.sm, JSt.set, JSt.nm, JSt.cd, JSt.u, JSt.val, JSt.wk, JSt.wsm, JSt.wset, JSt.wnm, JSt.wcd, JSt.wu] using q3
theorem c_isReachedX {XL : Nat} {XS : Nat → Int32} {n : Nat} {C : mC} {I : Nat → Nat → Int32} {L : Nat → Nat → Int64} {K : mK} {tx : List Nat} {m : Nat} {I0 : Nat → Nat → Int32} {L0 : Nat → Nat → Int64} {r : JRs} (hC : m_Ge XL XS (n + 1) C) (hX : CX tx m I0 L0 r I L) (hK : ∀ v : Int32, (∀ s, r = .ok s → (v = 0 ↔ s.set = -1)) → K (some (.int v)) (m_SH, I, L)) : C 55 [.ref 18] (m_SH, I, L) K := by
  refine c_isReached hC (hK _ (fun s hs => ?_))
  subst hs
  rw [hX.ok.2.2.1]
  by_cases g : s.set = -1
  · rw [if_pos g]; simp [g]
  · rw [if_neg g]; simp [g]
theorem c_openStmt {XL : Nat} {XS : Nat → Int32} {n : Nat} {C : mC} {I : Nat → Nat → Int32} {L : Nat → Nat → Int64} {K : mK} {tx : List Nat} {m : Nat} {I0 : Nat → Nat → Int32} {L0 : Nat → Nat → Int64} {r : JRs} {d : Nat} (hC : m_Ge XL XS (n + 2) C) (hX : CX tx m I0 L0 r I L) (hd : d ≤ 11) (hK : ∀ I', CX tx m I0 L0 (jopn tx d r) I' L → K none (m_SH, I', L)) : C 25 [.ref 17, .int (nI d)] (m_SH, I, L) K := by
  refine e_X1_openStmt hC (Nat.le_of_ble_eq_true rfl) ?_
  intro C' hC' P hP
  have tail : ∀ (J : Nat → Nat → Int32) (l2 : Option Value), CX tx m I0 L0 (jopn tx d r) (m_up J 8 6 (J 8 6 + 1)) L → P (146, [some (.ref 17), some (.int (nI d)), l2], [], (m_SH, J, L), 0, 0) := by
    intro J l2 hJ
    repeat (refine hP _ ?_; conv => whnf)
    exact hK _ hJ
  have bad : ∀ (a : Nat) (l2 : Option Value), (∀ s, r = .ok s → jopn tx d r = jfal tx a r) → a ≠ 0 → a ≤ 12 → ∀ J, CX tx m I0 L0 (jfal tx a r) J L → P (146, [some (.ref 17), some (.int (nI d)), l2], [], (m_SH, J, L), 0, 0) := by
    intro a l2 ha ha0 ha1 J hJ
    refine tail J l2 ?_
    cases r with
    | error e => exact CX.stm_er hJ
    | ok s =>
      rw [ha s rfl]
      exact CX.stm_er hJ
  have main : ∀ (w : Int32), (∀ s, r = .ok s → (w = 0 ↔ ¬ (if s.val = 0 then (tk tx s.k).1 = 12 else (tk tx s.k).1 = 11))) → P (42, [some (.ref 17), some (.int (nI d)), some (.int w)], [], (m_SH, I, L), 0, 0) := by
    intro w hw
    have rest : (∀ s, r = .ok s → ¬ ((tk tx s.k).1 = 16 ∧ jfnd tx r < 0)) → P (78, [some (.ref 17), some (.int (nI d)), some (.int w)], [], (m_SH, I, L), 0, 0) := by
      intro h16
      repeat (refine hP _ ?_; conv => whnf)
      refine ⟨fun q => ?_, fun q => ?_⟩
      · repeat (refine hP _ ?_; conv => whnf)
        refine c_isReachedX hC' hX (fun v hv => ?_)
        repeat (refine hP _ ?_; conv => whnf)
        refine ⟨fun y => ?_, fun y => ?_⟩
        · repeat (refine hP _ ?_; conv => whnf)
          refine c_failX (a := 9) hC' hX (by decide) (by decide) (fun I' h' => ?_)
          iterate 1 (refine hP _ ?_; conv => whnf)
          refine bad 9 _ (fun s hs => ?_) (by decide) (by decide) I' h'
          subst hs
          simp only [jopn, jb]
          rw [if_neg (h16 s rfl), if_neg ((hw s rfl).mp q), if_pos ((hv s rfl).mp y)]
        · have fin : (∀ s, r = .ok s → ¬ (120 ≤ s.sm ∨ 10 < d)) → P (146, [some (.ref 17), some (.int (nI d)), some (.int w)], [], (m_SH, I, L), 0, 0) := by
            intro h12
            refine tail I _ ?_
            cases r with
            | error e => exact CX.stm_er hX
            | ok s =>
              have := h12 s rfl
              have hu : jopn tx d (.ok s) = .ok (s.wsm (s.sm + 1)) := by
                simp only [jopn, jb]
                rw [if_neg (h16 s rfl), if_neg ((hw s rfl).mp q), if_neg (fun z => y ((hv s rfl).mpr z)), if_neg this]
              rw [hu]
              exact hX.stm_ok (by omega)
          have f12 : (∀ s, r = .ok s → (120 ≤ s.sm ∨ 10 < d)) → P (136, [some (.ref 17), some (.int (nI d)), some (.int w)], [], (m_SH, I, L), 0, 0) := by
            intro h12
            repeat (refine hP _ ?_; conv => whnf)
            refine c_failX (a := 12) hC' hX (by decide) (by decide) (fun I' h' => ?_)
            refine bad 12 _ (fun s hs => ?_) (by decide) (by decide) I' h'
            subst hs
            simp only [jopn, jb]
            rw [if_neg (h16 s rfl), if_neg ((hw s rfl).mp q), if_neg (fun z => y ((hv s rfl).mpr z)), if_pos (h12 s rfl)]
          repeat (refine hP _ ?_; conv => whnf)
          refine ⟨fun z => ?_, fun z => ?_⟩
          · repeat (refine hP _ ?_; conv => whnf)
            refine ⟨fun y2 => ?_, fun y2 => ?_⟩
            · refine f12 (fun s hs => Or.inr ?_)
              exact (nI_ltI (a := 10) (b := d) (by omega) (by omega)).mp y2
            · refine fin (fun s hs => ?_)
              subst hs
              have e1 := hX.ok.2.1.1
              have e2 := hX.ok.2.1.2
              rw [e1] at z
              have := (nI_ltI (a := s.sm) (b := 120) (by omega) (by omega)).mp z
              have : ¬ 10 < d := fun g => y2 (nI_lt (a := 10) g (by omega))
              omega
          · refine f12 (fun s hs => Or.inl ?_)
            subst hs
            have e1 := hX.ok.2.1.1
            rw [e1] at z
            by_cases g : 120 ≤ s.sm
            · exact g
            · exact absurd (nI_lt (a := s.sm) (b := 120) (by omega) (by omega)) z
      · repeat (refine hP _ ?_; conv => whnf)
        refine c_failX (a := 8) hC' hX (by decide) (by decide) (fun I' h' => ?_)
        iterate 1 (refine hP _ ?_; conv => whnf)
        refine bad 8 _ (fun s hs => ?_) (by decide) (by decide) I' h'
        subst hs
        simp only [jopn, jb]
        rw [if_neg (h16 s rfl), if_pos]
        by_cases g : (if s.val = 0 then (tk tx s.k).1 = 12 else (tk tx s.k).1 = 11)
        · exact g
        · exact absurd ((hw s rfl).mpr g) q
    repeat (refine hP _ ?_; conv => whnf)
    refine c_kindX hC' hX ?_
    repeat (refine hP _ ?_; conv => whnf)
    refine ⟨fun q => ?_, fun q => ?_⟩
    · have hk := (jkd_eq (a := 16) (by decide)).mp q
      cases r with
      | error e => exact (no_kd hk (by decide)).elim
      | ok s =>
        repeat (refine hP _ ?_; conv => whnf)
        refine c_tokenValue hC' ?_
        repeat (refine hP _ ?_; conv => whnf)
        refine c_findX hC' hX (fun v hv => ?_)
        have hv := hv s rfl hk
        subst hv
        repeat (refine hP _ ?_; conv => whnf)
        refine ⟨fun z => ?_, fun z => ?_⟩
        · repeat (refine hP _ ?_; conv => whnf)
          refine c_failX (a := 7) hC' hX (by decide) (by decide) (fun I' h' => ?_)
          iterate 1 (refine hP _ ?_; conv => whnf)
          refine bad 7 _ (fun s hs => ?_) (by decide) (by decide) I' h'
          cases hs
          simp only [jopn, jb]
          rw [if_pos ⟨hk, z⟩]
        · exact rest (fun s2 hs2 y => z (by cases hs2; exact y.2))
    · exact rest (fun s hs y => q (by subst hs; show nI (tk tx s.k).1 = 16; rw [y.1]; rfl))
  repeat (refine hP _ ?_; conv => whnf)
  refine ⟨fun q => ?_, fun q => ?_⟩
  · repeat (refine hP _ ?_; conv => whnf)
    refine c_kindX hC' hX ?_
    repeat (refine hP _ ?_; conv => whnf)
    refine ⟨fun y => ?_, fun y => ?_⟩
    · iterate 3 (refine hP _ ?_; conv => whnf)
      refine main 1 (fun s hs => ⟨fun z => absurd z (by decide), fun z => absurd ?_ z⟩)
      subst hs
      rw [if_pos (show s.val = 0 from hX.ok.2.2.2.2.2.1.1.symm.trans q)]
      exact (jkd_eq (a := 12) (by decide)).mp y
    · iterate 2 (refine hP _ ?_; conv => whnf)
      refine main 0 (fun s hs => ⟨fun _ => ?_, fun _ => rfl⟩)
      subst hs
      rw [if_pos (show s.val = 0 from hX.ok.2.2.2.2.2.1.1.symm.trans q)]
      exact fun z => y (by show nI (tk tx s.k).1 = 12; rw [z]; rfl)
  · repeat (refine hP _ ?_; conv => whnf)
    refine c_kindX hC' hX ?_
    repeat (refine hP _ ?_; conv => whnf)
    refine ⟨fun y => ?_, fun y => ?_⟩
    · iterate 3 (refine hP _ ?_; conv => whnf)
      refine main 1 (fun s hs => ⟨fun z => absurd z (by decide), fun z => absurd ?_ z⟩)
      subst hs
      rw [if_neg (show ¬ s.val = 0 from fun z => q (hX.ok.2.2.2.2.2.1.1.trans z))]
      exact (jkd_eq (a := 11) (by decide)).mp y
    · iterate 3 (refine hP _ ?_; conv => whnf)
      refine main 0 (fun s hs => ⟨fun _ => ?_, fun _ => rfl⟩)
      subst hs
      rw [if_neg (show ¬ s.val = 0 from fun z => q (hX.ok.2.2.2.2.2.1.1.trans z))]
      exact fun z => y (by show nI (tk tx s.k).1 = 11; rw [z]; rfl)
end
section
/-! ===== the class judges a stmt ===== -/
def HSt (XL : Nat) (XS : Nat → Int32) (tx : List Nat) (m : Nat) (I0 : Nat → Nat → Int32) (L0 : Nat → Nat → Int64) (f : Nat) : Prop := ∀ (C : mC) (K : mK) (r : JRs) (I : Nat → Nat → Int32) (L : Nat → Nat → Int64), m_Ge XL XS (3 * f + 4) C → CX tx m I0 L0 r I L → (∀ I' L', CX tx m I0 L0 (jstmt tx f r) I' L' → K none (m_SH, I', L')) → C 26 [.ref 17, .int (nI (11 - f))] (m_SH, I, L) K
theorem bgF_jbgn {tx : List Nat} {r : JRs} : bgF (nI (jkd tx r)) = if jbgn (jkd tx r) = true then 1 else 0 := by
  have h : ∀ k : Fin 29, bgF (nI k.val) = if jbgn k.val = true then 1 else 0 := by decide +kernel
  exact h ⟨jkd tx r, jkd_29 tx r⟩
theorem c_beginsX {XL : Nat} {XS : Nat → Int32} {n : Nat} {C : mC} {I : Nat → Nat → Int32} {L : Nat → Nat → Int64} {K : mK} {tx : List Nat} {r : JRs} (hC : m_Ge XL XS (n + 1) C) (hK : K (some (.int (if jbgn (jkd tx r) = true then 1 else 0))) (m_SH, I, L)) : C 24 [.int (nI (jkd tx r))] (m_SH, I, L) K := by
  refine c_beginsStmt hC ?_
  rw [bgF_jbgn]
  exact hK
theorem c_stmts_of {XL : Nat} {XS : Nat → Int32} {C : mC} {K : mK} {tx : List Nat} {m : Nat} {I0 : Nat → Nat → Int32} {L0 : Nat → Nat → Int64} {r : JRs} {I : Nat → Nat → Int32} {L : Nat → Nat → Int64} {f : Nat} (H : HSt XL XS tx m I0 L0 f) (hC : m_Ge XL XS (3 * f + 4 + 1) C) (hX : CX tx m I0 L0 r I L) (hK : ∀ I' L', CX tx m I0 L0 (jloop tx (jstmt tx f) 121 r) I' L' → K none (m_SH, I', L')) : C 23 [.ref 17, .int (nI (11 - f))] (m_SH, I, L) K := by
  refine e_X1_stmts hC (Nat.le_of_ble_eq_true rfl) ?_
  intro C' hC' P hP
  have loop : ∀ (i c : Nat) (q : JRs) (J : Nat → Nat → Int32) (M : Nat → Nat → Int64), c + i = 121 → CX tx m I0 L0 q J M → (∀ I' L', CX tx m I0 L0 (jloop tx (jstmt tx f) i q) I' L' → K none (m_SH, I', L')) → P (2, [some (.ref 17), some (.int (nI (11 - f))), some (.int (nI c))], [], (m_SH, J, M), 0, 0) := by
    intro i
    induction i with
    | zero =>
      intro c q J M hc hq hk
      repeat (refine hP _ ?_; conv => whnf)
      refine ⟨fun _ => ?_, fun z => absurd (nI_lt (a := 120) (b := c) (by omega) (by omega)) z⟩
      repeat (refine hP _ ?_; conv => whnf)
      exact hk _ _ hq
    | succ i ih =>
      intro c q J M hc hq hk
      repeat (refine hP _ ?_; conv => whnf)
      refine ⟨fun z => absurd ((nI_ltI (a := 120) (b := c) (by omega) (by omega)).mp z) (by omega), fun _ => ?_⟩
      repeat (refine hP _ ?_; conv => whnf)
      refine c_kindX hC' hq ?_
      repeat (refine hP _ ?_; conv => whnf)
      refine c_beginsX hC' ?_
      by_cases g : jbgn (jkd tx q) = true
      · have hu : jloop tx (jstmt tx f) (i + 1) q = jloop tx (jstmt tx f) i (jstmt tx f q) := by
          rw [jloop, if_pos g]
        rw [hu] at hk
        rw [if_pos g]
        repeat (refine hP _ ?_; conv => whnf)
        refine ⟨fun z => absurd z (by decide), fun _ => ?_⟩
        repeat (refine hP _ ?_; conv => whnf)
        refine H _ _ q J M hC' hq (fun I' L' h' => ?_)
        iterate 2 (refine hP _ ?_; conv => whnf)
        have e := ih (c + 1) _ I' L' (by omega) h' hk
        rw [← nI_1] at e
        exact e
      · have hu : jloop tx (jstmt tx f) (i + 1) q = q := by
          rw [jloop, if_neg g]
        rw [hu] at hk
        rw [if_neg g]
        repeat (refine hP _ ?_; conv => whnf)
        refine ⟨fun _ => ?_, fun z => absurd rfl z⟩
        repeat (refine hP _ ?_; conv => whnf)
        exact hk _ _ hq
  iterate 2 (refine hP _ ?_; conv => whnf)
  exact loop 121 0 r I L (by omega) hX hK
theorem c_block_of {XL : Nat} {XS : Nat → Int32} {C : mC} {K : mK} {tx : List Nat} {m : Nat} {I0 : Nat → Nat → Int32} {L0 : Nat → Nat → Int64} {I : Nat → Nat → Int32} {L : Nat → Nat → Int64} {f : Nat} {s : JSt} (H : HSt XL XS tx m I0 L0 f) (hf : f ≤ 10) (hC : m_Ge XL XS (3 * f + 4 + 2) C) (hX : CX tx m I0 L0 (.ok s) I L) (hk : (tk tx s.k).1 = 19) (hK : ∀ I' L', CX tx m I0 L0 (jblk tx (jstmt tx f) (.ok s)) I' L' → K none (m_SH, I', L')) : C 27 [.ref 17, .int (nI (10 - f))] (m_SH, I, L) K := by
  have hn1 := hX.ok.2.2.2.1.1
  have hn2 := hX.ok.2.2.2.1.2.1
  refine e_X1_block hC (Nat.le_of_ble_eq_true rfl) ?_
  intro C' hC' P hP
  repeat (refine hP _ ?_; conv => whnf)
  rw [hn1, nI_1, show 10 - f + 1 = 11 - f by omega]
  refine c_stmts_of H hC' (hX.adv (fun s2 hs2 => by cases hs2; omega)) (fun I' L' h' => ?_)
  repeat (refine hP _ ?_; conv => whnf)
  refine c_expectX (n := 3 * f + 3) (k := 20) hC' h' (by decide) (by decide) (fun I2 h2 => ?_)
  repeat (refine hP _ ?_; conv => whnf)
  refine c_shrink hC' ?_
  repeat (refine hP _ ?_; conv => whnf)
  exact hK _ _ (h2.shr hn2 (jge_xpc (jge_loop (jge_stmt f _) 121 _ (jge_adv (jge_ok (Nat.le_refl _))))))
theorem CX.gs {tx : List Nat} {m : Nat} {I0 : Nat → Nat → Int32} {L0 : Nat → Nat → Int64} {I : Nat → Nat → Int32} {L : Nat → Nat → Int64} {s : JSt} (h : CX tx m I0 L0 (.ok s) I L) : I 18 2 = s.set := h.ok.2.2.1
theorem c_branches_of {XL : Nat} {XS : Nat → Int32} {C : mC} {K : mK} {tx : List Nat} {m : Nat} {I0 : Nat → Nat → Int32} {L0 : Nat → Nat → Int64} {I : Nat → Nat → Int32} {L : Nat → Nat → Int64} {f : Nat} {s : JSt} (H : HSt XL XS tx m I0 L0 f) (hf : f ≤ 10) (hC : m_Ge XL XS (3 * f + 4 + 1) C) (hX : CX tx m I0 L0 (.ok s) I L) (hk : (tk tx s.k).1 = 14) (hK : ∀ I' L', CX tx m I0 L0 (jbrn tx (jstmt tx f) (.ok s)) I' L' → K none (m_SH, I', L')) : C 28 [.ref 17, .int (nI (10 - f))] (m_SH, I, L) K := by
  have hc1 := hX.ok.2.2.2.2.1.1
  have hc2 := hX.ok.2.2.2.2.1.2.1
  unfold jbrn at hK
  refine e_X1_branches hC (Nat.le_of_ble_eq_true rfl) ?_
  intro C' hC' P hP
  repeat (refine hP _ ?_; conv => whnf)
  refine c_stepX (n := 3 * f + 3) hC' hX (by decide) (fun Ia ha => ?_)
  have hb := ha.adv (fun s2 hs2 => by
    have : s2.k = s.k := by
      simp only [jemt, jb, Except.ok.injEq] at hs2
      rw [← hs2]
      split <;> rfl
    rw [this]
    omega)
  repeat (refine hP _ ?_; conv => whnf)
  rw [hc1, nI_1, show 10 - f + 1 = 11 - f by omega, hX.gs]
  refine H _ _ _ _ _ hC' hb (fun I1 L1 h1 => ?_)
  have h1' : CX tx m I0 L0 (jbr1 (jstmt tx f) (.ok s)) I1 L1 := h1
  clear h1
  have hs1 : CX tx m I0 L0 (jsst (jgs (.ok s)) (jbr1 (jstmt tx f) (.ok s))) (m_up I1 18 2 s.set) L1 := h1'.sst (fun _ _ => rfl)
  repeat (refine hP _ ?_; conv => whnf)
  refine c_kindX (n := 3 * f + 3) hC' hs1 ?_
  repeat (refine hP _ ?_; conv => whnf)
  have fin : ∀ (q : JRs) (J : Nat → Nat → Int32) (M : Nat → Nat → Int64) (l5 : Option Value), (∀ e, jbr1 (jstmt tx f) (.ok s) = .error e → ∀ s', ¬ q = .ok s') → CX tx m I0 L0 q J M → (∀ I' L', CX tx m I0 L0 (jsst (jgs q &&& jgs (jbr1 (jstmt tx f) (.ok s))) q) I' L' → K none (m_SH, I', L')) → P (154, [some (.ref 17), some (.int (nI (10 - f))), some (.int s.set), some (.int (nI s.cd.length)), some (.int (I1 18 2)), l5], [], (m_SH, J, M), 0, 0) := by
    intro q J M l5 hq hJ hk
    repeat (refine hP _ ?_; conv => whnf)
    refine hk _ _ (hJ.sst (fun s' hs' => ?_))
    subst hs'
    generalize hg : jbr1 (jstmt tx f) (.ok s) = r1 at h1' hq ⊢
    cases r1 with
    | error e => exact absurd rfl (hq e rfl s')
    | ok s1 => rw [hJ.gs, h1'.gs]; rfl
  refine ⟨fun z => ?_, fun z => ?_⟩
  · have hk15 := (jkd_eq (a := 15) (by decide)).mp z
    rw [if_pos hk15] at hK
    simp only at hK
    generalize hg : jbr1 (jstmt tx f) (.ok s) = r1 at h1' hs1 hk15 fin
    cases r1 with
    | error e => exact (no_kd hk15 (by decide)).elim
    | ok s1 =>
      have hk15' : (tk tx s1.k).1 = 15 := hk15
      have hcl := h1'.ok.2.2.2.2.1.1
      have hcl2 := h1'.ok.2.2.2.2.1.2.1
      repeat (refine hP _ ?_; conv => whnf)
      refine c_stepX (n := 3 * f + 3) hC' hs1 (by decide) (fun I2 h2 => ?_)
      repeat (refine hP _ ?_; conv => whnf)
      refine c_leadX (n := 3 * f + 3) hC' h2 hc2 (fun I3 h3 => ?_)
      have h4 := h3.adv (fun s2 hs2 => by
        have : s2.k = s1.k := by
          simp only [jemt, jled, jsst, jb, Except.ok.injEq] at hs2
          rw [← hs2]
          split <;> rfl
        rw [this]
        omega)
      repeat (refine hP _ ?_; conv => whnf)
      rw [nI_1, show 10 - f + 1 = 11 - f by omega, show m_up I1 18 2 s.set 13 3 = nI s1.cd.length by rw [← hcl]; simp [m_upr]]
      refine H _ _ _ _ _ hC' h4 (fun I5 L5 h5 => ?_)
      repeat (refine hP _ ?_; conv => whnf)
      refine c_leadX (n := 3 * f + 3) hC' h5 hcl2 (fun I6 h6 => ?_)
      iterate 1 (refine hP _ ?_; conv => whnf)
      refine fin _ I6 L5 _ (fun e he => by cases he) h6 (fun I' L' h' => hK I' L' ?_)
      have e2 : jbr2 (jstmt tx f) (.ok s) = jstmt tx f (jadv (jled s.cd.length (jemt 4 0 0 (jsst s.set (.ok s1))))) := by
        unfold jbr2
        rw [hg]
        rfl
      rw [e2, hg]
      exact h'
  · rw [if_neg (fun y => z (by rw [y]; rfl))] at hK
    simp only at hK
    repeat (refine hP _ ?_; conv => whnf)
    refine c_leadX (n := 3 * f + 3) hC' hs1 hc2 (fun I6 h6 => ?_)
    refine fin _ I6 L1 _ (fun e he s' hs' => ?_) h6 hK
    rw [he] at hs'
    cases hs'
theorem jbgn_lt {k : Nat} (hk : k < 29) (h : jbgn k = true) : k < 27 := by
  have : ∀ k : Fin 29, jbgn k.val = true → k.val < 27 := by decide
  exact this ⟨k, hk⟩ h
theorem jfal_kd {tx : List Nat} {a : Nat} {r : JRs} : jkd tx (jfal tx a r) = 0 := by
  cases r <;> rfl
theorem jopn_lt {tx : List Nat} {d : Nat} {r : JRs} : jkd tx (jopn tx d (jst1 tx r)) < 27 := by
  unfold jst1
  by_cases g : jbgn (jkd tx r) = true
  · rw [if_pos g]
    have h1 := jbgn_lt (jkd_29 tx r) g
    cases r with
    | error e => exact h1
    | ok s =>
      simp only [jopn, jb]
      repeat' split
      all_goals first | (rw [jfal_kd]; decide) | exact h1
  · rw [if_neg g]
    cases r with
    | error e => exact (by decide : 0 < 27)
    | ok s => exact (by decide : 0 < 27)
theorem c_stmt {XL : Nat} {XS : Nat → Int32} {tx : List Nat} {m : Nat} {I0 : Nat → Nat → Int32} {L0 : Nat → Nat → Int64} : ∀ (f : Nat), f ≤ 11 → HSt XL XS tx m I0 L0 f
  | 0, _ => by
    intro C K r I L hC hX hK
    unfold jstmt at hK
    refine e_X1_stmt hC (Nat.le_of_ble_eq_true rfl) ?_
    intro C' hC' P hP
    have go : ∀ J, CX tx m I0 L0 (jst1 tx r) J L → P (19, [some (.ref 17), some (.int (nI 11))], [], (m_SH, J, L), 0, 0) := by
      intro J h1
      repeat (refine hP _ ?_; conv => whnf)
      refine c_openStmt (d := 11) (n := 1) hC' h1 (by decide) (fun I' h' => ?_)
      repeat (refine hP _ ?_; conv => whnf)
      refine ⟨fun _ => ?_, fun _ => ?_⟩
      · repeat (refine hP _ ?_; conv => whnf)
        refine ⟨fun _ => ?_, fun z => absurd (by decide) z⟩
        repeat (refine hP _ ?_; conv => whnf)
        exact hK _ _ h'
      · repeat (refine hP _ ?_; conv => whnf)
        exact hK _ _ h'
    repeat (refine hP _ ?_; conv => whnf)
    refine c_kindX hC' hX ?_
    repeat (refine hP _ ?_; conv => whnf)
    refine c_beginsX hC' ?_
    unfold jst1 at go
    by_cases g : jbgn (jkd tx r) = true
    · rw [if_pos g] at go ⊢
      repeat (refine hP _ ?_; conv => whnf)
      refine ⟨fun z => absurd z (by decide), fun _ => ?_⟩
      exact go _ hX
    · rw [if_neg g] at go ⊢
      repeat (refine hP _ ?_; conv => whnf)
      refine ⟨fun _ => ?_, fun z => absurd rfl z⟩
      repeat (refine hP _ ?_; conv => whnf)
      refine c_failX (a := 2) hC' hX (by decide) (by decide) (fun I' h' => ?_)
      exact go _ h'
  | f + 1, hf => by
    have H : HSt XL XS tx m I0 L0 f := c_stmt f (by omega)
    intro C K r I L hC hX hK
    unfold jstmt at hK
    have hC2 : m_Ge XL XS ((3 * f + 6) + 1) C := hC.le (by omega)
    refine e_X1_stmt hC2 (Nat.le_of_ble_eq_true rfl) ?_
    intro C' hC' P hP
    rw [show 11 - (f + 1) = 10 - f by omega] at hK ⊢
    have go : ∀ J, CX tx m I0 L0 (jst1 tx r) J L → P (19, [some (.ref 17), some (.int (nI (10 - f)))], [], (m_SH, J, L), 0, 0) := by
      intro J h1
      repeat (refine hP _ ?_; conv => whnf)
      refine c_openStmt (d := 10 - f) (n := 3 * f + 4) hC' h1 (by omega) (fun I' h' => ?_)
      have hbg : jkd tx (jopn tx (10 - f) (jst1 tx r)) < 27 := jopn_lt
      generalize jopn tx (10 - f) (jst1 tx r) = r2 at h' hK hbg
      repeat (refine hP _ ?_; conv => whnf)
      refine ⟨fun z => ?_, fun z => ?_⟩
      · obtain ⟨s, hs⟩ := h'.ft.mp z
        subst hs
        simp only [jb] at hK
        repeat (refine hP _ ?_; conv => whnf)
        refine ⟨fun y => absurd ((nI_ltI (a := 10) (b := 10 - f) (by omega) (by omega)).mp y) (by omega), fun _ => ?_⟩
        repeat (refine hP _ ?_; conv => whnf)
        refine c_kindX hC' h' ?_
        have hkd : jkd tx (.ok s) = (tk tx s.k).1 := rfl
        rw [hkd]
        repeat (refine hP _ ?_; conv => whnf)
        refine ⟨fun y => ?_, fun y9 => ?_⟩
        · have hk : (tk tx s.k).1 = 9 := (jkd_eq (tx := tx) (r := .ok s) (a := 9) (by decide)).mp y
          rw [if_neg (by omega), if_neg (by omega), if_pos hk] at hK
          repeat (refine hP _ ?_; conv => whnf)
          refine c_let (n := 3 * f + 3) hC' (h'.adv (fun s2 hs2 => by cases hs2; omega)) (fun I2 L2 h2 => ?_)
          repeat (refine hP _ ?_; conv => whnf)
          refine c_expectX (k := 22) (n := 3 * f + 4) hC' h2 (by decide) (by decide) (fun I3 h3 => ?_)
          repeat (refine hP _ ?_; conv => whnf)
          exact hK _ _ h3
        have y9' : ¬ (tk tx s.k).1 = 9 := fun w => y9 (by rw [w]; rfl)
        rw [if_neg y9'] at hK
        refine ⟨fun y => ?_, fun y12 => ?_⟩
        · have hk : (tk tx s.k).1 = 12 := (jkd_eq (tx := tx) (r := .ok s) (a := 12) (by decide)).mp y
          rw [if_neg (by omega), if_neg (by omega), if_pos hk] at hK
          repeat (refine hP _ ?_; conv => whnf)
          refine c_yieldNumber (n := 3 * f + 3) hC' (h'.adv (fun s2 hs2 => by cases hs2; omega)) (fun I2 h2 => ?_)
          repeat (refine hP _ ?_; conv => whnf)
          refine c_expectX (k := 22) (n := 3 * f + 4) hC' h2 (by decide) (by decide) (fun I3 h3 => ?_)
          repeat (refine hP _ ?_; conv => whnf)
          exact hK _ _ h3
        have y12' : ¬ (tk tx s.k).1 = 12 := fun w => y12 (by rw [w]; rfl)
        rw [if_neg y12'] at hK
        refine ⟨fun y => ?_, fun y14 => ?_⟩
        · have hk : (tk tx s.k).1 = 14 := (jkd_eq (tx := tx) (r := .ok s) (a := 14) (by decide)).mp y
          rw [if_neg (by omega), if_pos hk] at hK
          repeat (refine hP _ ?_; conv => whnf)
          refine c_branches_of H (by omega) (hC'.le (by omega)) h' hk (fun I2 L2 h2 => ?_)
          repeat (refine hP _ ?_; conv => whnf)
          exact hK _ _ h2
        have y14' : ¬ (tk tx s.k).1 = 14 := fun w => y14 (by rw [w]; rfl)
        rw [if_neg y14'] at hK
        refine ⟨fun y => ?_, fun y19 => ?_⟩
        · have hk : (tk tx s.k).1 = 19 := (jkd_eq (tx := tx) (r := .ok s) (a := 19) (by decide)).mp y
          rw [if_pos hk] at hK
          repeat (refine hP _ ?_; conv => whnf)
          refine c_block_of H (by omega) hC' h' hk (fun I2 L2 h2 => ?_)
          repeat (refine hP _ ?_; conv => whnf)
          exact hK _ _ h2
        have y19' : ¬ (tk tx s.k).1 = 19 := fun w => y19 (by rw [w]; rfl)
        rw [if_neg y19'] at hK
        repeat (refine hP _ ?_; conv => whnf)
        refine c_simple (n := 3 * f + 3) hC' h' ?_ (fun I2 h2 => ?_)
        · exact hbg
        · repeat (refine hP _ ?_; conv => whnf)
          refine c_expectX (k := 22) (n := 3 * f + 4) hC' h2 (by decide) (by decide) (fun I3 h3 => ?_)
          repeat (refine hP _ ?_; conv => whnf)
          exact hK _ _ h3
      · repeat (refine hP _ ?_; conv => whnf)
        cases r2 with
        | error e => exact hK _ _ h'
        | ok s => exact absurd h'.ok.1.1 z
    repeat (refine hP _ ?_; conv => whnf)
    refine c_kindX hC' hX ?_
    repeat (refine hP _ ?_; conv => whnf)
    refine c_beginsX hC' ?_
    unfold jst1 at go
    by_cases g : jbgn (jkd tx r) = true
    · rw [if_pos g] at go ⊢
      repeat (refine hP _ ?_; conv => whnf)
      refine ⟨fun z => absurd z (by decide), fun _ => ?_⟩
      exact go _ hX
    · rw [if_neg g] at go ⊢
      repeat (refine hP _ ?_; conv => whnf)
      refine ⟨fun _ => ?_, fun z => absurd rfl z⟩
      repeat (refine hP _ ?_; conv => whnf)
      refine c_failX (a := 2) hC' hX (by decide) (by decide) (fun I' h' => ?_)
      exact go _ h'
end
section
/-! ===== the reference's world and that state ===== -/
def S_st : Nat → Nat → Bool := fun p q => (p == 30 && (q == 3 || q == 4 || q == 5 || q == 7 || q == 8 || q == 9 || q == 26 || q == 33 || q == 35 || q == 36 || q == 44 || q == 45)) || (41 ≤ p && p ≤ 43) || (45 ≤ p && p ≤ 51)
def S_stL : Nat → Nat → Bool := fun p q => (p == 30 && q == 6) || p == 44
def RTok (tx : List Nat) (k : Nat) (I : Nat → Nat → Int32) (L : Nat → Nat → Int64) : Prop := MT (tk tx k) I L ∧ (¬ (tk tx k).1 = 28 → I 30 3 = nI (tke tx (k + 1)))
/-- a step of the class's code, as the reference has it -/
def mcd (x : Int32 × Int32 × Int32) : Int32 × Int32 × Int32 :=
  if x.1 = 0 then (0, x.2.1, 0) else if x.1 = 1 then (1, x.2.1, 0) else if x.1 = 2 then (2, x.2.1, x.2.2) else if x.1 = 3 then (6, x.2.1, 0) else if x.1 = 4 then (7, x.2.1, 0)
  else if x.2.1 = 1 then (3, 0, 0) else if x.2.1 = 2 then (4, x.2.2, 0) else (5, x.2.2, 0)
/-- kind, what was SET, a number -/
abbrev Fm : Type := Nat × Int32 × Nat
def dep : List Fm → Nat
  | [] => 0
  | x :: r => (if x.1 = 1 ∨ x.1 = 2 ∨ x.1 = 3 then 1 else 0) + dep r
def bitsB (c : Nat) (x : Int32) : Prop := ∃ b, b < 2 ^ c ∧ x = nI b
def kAt (cd : List (Int32 × Int32 × Int32)) (i : Nat) (k : Int32) : Prop := cd[i]?.map (fun x => x.1) = some k
def FrS (I : Nat → Nat → Int32) (n : List (Int32 × Int32 × Int32)) : Nat → List Fm → Prop
  | _, [] => True
  | c, x :: r => (x.1 < 5 ∧ I 45 r.length = nI x.1) ∧ (x.1 = 1 → I 47 r.length = nI x.2.2 ∧ x.2.2 ≤ c) ∧ (x.1 = 2 → I 48 r.length = x.2.1 ∧ I 50 r.length = nI x.2.2 ∧ kAt n x.2.2 3 ∧ bitsB c x.2.1) ∧
    (x.1 = 3 → I 49 r.length = x.2.1 ∧ I 51 r.length = nI x.2.2 ∧ kAt n x.2.2 4 ∧ (x.2.1 = -1 ∨ bitsB c x.2.1) ∧ I 46 r.length = (if x.2.1 = -1 then 0 else 1)) ∧ FrS I n (if x.1 = 1 then x.2.2 else c) r
def RNm (s : JSt) (I : Nat → Nat → Int32) (L : Nat → Nat → Int64) : Prop := I 30 35 = nI s.nm.length ∧ s.nm.length ≤ 20 ∧ (∀ j, j < s.nm.length → L 44 j = lN (pkB 128 (s.nm.getD j []))) ∧ (∀ c ∈ s.nm, NmOk c)
def RCd (s : JSt) (I : Nat → Nat → Int32) : Prop := I 30 33 = nI s.cd.length ∧ (∀ j x, s.cd[j]? = some x → (I 41 j, I 42 j, I 43 j) = mcd x)
def RK (st : List Fm) (s : JSt) (I : Nat → Nat → Int32) : Prop := I 30 44 = nI st.length ∧ I 30 45 = nI (dep st) ∧ st.length ≤ 20 ∧ dep st ≤ 20 ∧ FrS I s.cd s.nm.length st
def RS (tx : List Nat) (m : Nat) (u0 : JU) (st : List Fm) (s : JSt) (I : Nat → Nat → Int32) (L : Nat → Nat → Int64) : Prop := (RTok tx s.k I L ∧ I 30 8 = 0 ∧ s.k ≤ m) ∧ (I 30 26 = nI s.sm ∧ s.sm ≤ 120) ∧ (I 30 36 = s.set ∧ I 30 16 = s.val ∧ s.u = u0) ∧ RNm s I L ∧ RCd s I ∧ RK st s I
def RE (b : Nat) (e : Nat × Nat) (I : Nat → Nat → Int32) : Prop := e.1 ≠ 0 ∧ e.1 ≤ 12 ∧ I 30 8 = nI e.1 ∧ I 30 9 = nI e.2 ∧ ∃ c, c ≤ b ∧ I 30 33 = nI c
def RX (tx : List Nat) (m : Nat) (I0 : Nat → Nat → Int32) (L0 : Nat → Nat → Int64) (u0 : JU) (b : Nat) (st : List Fm) (r : JRs) (I : Nat → Nat → Int32) (L : Nat → Nat → Int64) : Prop :=
  (TxOk tx ∧ TkM tx m ∧ m ≤ tx.length ∧ TxM tx I0 ∧ WdM L0) ∧ Fr S_st I0 I ∧ Fr S_stL L0 L ∧ b ≤ 600 ∧ (match r with
  | .ok s => RS tx m u0 st s I L ∧ s.cd.length ≤ b
  | .error e => RE b e I)
/-! what the token is -/
def tcl (k : Nat) : Int32 := if k < 16 then 5 else if k = 16 then 1 else if k = 17 then 2 else if k = 18 then 3 else if k ≤ 26 then 4 else if k = 27 then 0 else 6
theorem MT.cl {t : Tok} {I : Nat → Nat → Int32} {L : Nat → Nat → Int64} (h : MT t I L) (ht : t.1 < 29) : I 30 4 = tcl t.1 := by
  obtain ⟨-, h27, h28, hw, h16, h17, h18, h19, h20, h21, h22, h23, h24, h25, h26⟩ := h
  unfold tcl
  repeat' split
  · exact (hw (by assumption)).1
  · exact (h16 (by assumption)).1
  · exact (h17 (by assumption)).1
  · exact (h18 (by assumption)).1
  · have : t.1 = 19 ∨ t.1 = 20 ∨ t.1 = 21 ∨ t.1 = 22 ∨ t.1 = 23 ∨ t.1 = 24 ∨ t.1 = 25 ∨ t.1 = 26 := by omega
    rcases this with g | g | g | g | g | g | g | g
    · exact (h19 g).1
    · exact (h20 g).1
    · exact (h21 g).1
    · exact (h22 g).1
    · exact (h23 g).1
    · exact (h24 g).1
    · exact (h25 g).1
    · exact (h26 g).1
  · exact h27 (by assumption)
  · exact h28 (by omega)
theorem MT.sgv {t : Tok} {I : Nat → Nat → Int32} {L : Nat → Nat → Int64} (h : MT t I L) (h1 : 19 ≤ t.1) (h2 : t.1 ≤ 26) : I 30 7 = sgC t.1 := by
  obtain ⟨-, h27, h28, hw, h16, h17, h18, h19, h20, h21, h22, h23, h24, h25, h26⟩ := h
  have : t.1 = 19 ∨ t.1 = 20 ∨ t.1 = 21 ∨ t.1 = 22 ∨ t.1 = 23 ∨ t.1 = 24 ∨ t.1 = 25 ∨ t.1 = 26 := by omega
  rcases this with g | g | g | g | g | g | g | g
  · rw [(h19 g).2, g]; rfl
  · rw [(h20 g).2, g]; rfl
  · rw [(h21 g).2, g]; rfl
  · rw [(h22 g).2, g]; rfl
  · rw [(h23 g).2, g]; rfl
  · rw [(h24 g).2, g]; rfl
  · rw [(h25 g).2, g]; rfl
  · rw [(h26 g).2, g]; rfl
theorem tcl_sg {k : Nat} (hk : k < 29) : tcl k = 4 ↔ 19 ≤ k ∧ k ≤ 26 := by
  have : ∀ k : Fin 29, tcl k.val = 4 ↔ 19 ≤ k.val ∧ k.val ≤ 26 := by decide +kernel
  exact this ⟨k, hk⟩
theorem tcl_eq {k : Nat} (hk : k < 29) : (tcl k = 5 ↔ k < 16) ∧ (tcl k = 1 ↔ k = 16) ∧ (tcl k = 2 ↔ k = 17) ∧ (tcl k = 3 ↔ k = 18) ∧ (tcl k = 0 ↔ k = 27) ∧ (tcl k = 6 ↔ k = 28) := by
  have : ∀ k : Fin 29, (tcl k.val = 5 ↔ k.val < 16) ∧ (tcl k.val = 1 ↔ k.val = 16) ∧ (tcl k.val = 2 ↔ k.val = 17) ∧ (tcl k.val = 3 ↔ k.val = 18) ∧ (tcl k.val = 0 ↔ k.val = 27) ∧ (tcl k.val = 6 ↔ k.val = 28) := by decide +kernel
  exact this ⟨k, hk⟩
theorem MT.sign {t : Tok} {I : Nat → Nat → Int32} {L : Nat → Nat → Int64} {k : Nat} (h : MT t I L) (ht : t.1 < 29) (h1 : 19 ≤ k) (h2 : k ≤ 26) : isSgF (sgC k) I = if t.1 = k then 1 else 0 := by
  unfold isSgF
  rw [h.cl ht]
  by_cases g : 19 ≤ t.1 ∧ t.1 ≤ 26
  · rw [if_pos ((tcl_sg ht).mpr g), h.sgv g.1 g.2]
    have : ∀ a b : Fin 27, 19 ≤ a.val → 19 ≤ b.val → (sgC a.val = sgC b.val ↔ a.val = b.val) := by decide +kernel
    have := this ⟨t.1, by omega⟩ ⟨k, by omega⟩ g.1 h1
    by_cases e : t.1 = k
    · rw [if_pos e, if_pos (this.mpr e)]
    · rw [if_neg e, if_neg (fun z => e (this.mp z))]
  · rw [if_neg (fun z => g ((tcl_sg ht).mp z)), if_neg (by omega)]
theorem MT.word {t : Tok} {I : Nat → Nat → Int32} {L : Nat → Nat → Int64} {w : Nat} (h : MT t I L) (ht : t.1 < 29) (h0 : 0 < t.1) (hw : w < 15) : isWdF (nI w) I = if t.1 = w + 1 then 1 else 0 := by
  unfold isWdF
  rw [h.cl ht]
  by_cases g : t.1 < 16
  · rw [if_pos ((tcl_eq ht).1.mpr g), (h.2.2.2.1 g).2]
    have e := nI_eq (a := t.1 - 1) (b := w) (by omega) (by omega)
    by_cases q : t.1 = w + 1
    · rw [if_pos q, if_pos (e.mpr (by omega))]
    · rw [if_neg q, if_neg (fun z => q (by have := e.mp z; omega))]
  · rw [if_neg (fun z => g ((tcl_eq ht).1.mp z)), if_neg (by omega)]
theorem tok_pos (tx : List Nat) (i : Nat) : 0 < (tokAt tx i).1 := by
  unfold tokAt
  repeat' split
  all_goals simp only
  all_goals first | omega | (have := (sgN_C (by assumption)).2.1; omega)
theorem tk_pos (tx : List Nat) (k : Nat) : 0 < (tk tx k).1 := tok_pos tx _
theorem tk_29 (tx : List Nat) (k : Nat) : (tk tx k).1 < 29 := tok_lt29 tx _
theorem tke_le {tx : List Nat} {m : Nat} (hm : TkM tx m) : ∀ k, k ≤ m → tke tx k ≤ tx.length
  | 0, _ => Nat.zero_le _
  | k + 1, hk => by
    have h1 := tke_le hm k (by omega)
    have hb := scan_le (q := qB) h1
    have h2 := hm.2 k (by omega)
    have hlt : scan qB tx (tke tx k) < tx.length := by
      by_cases hz : scan qB tx (tke tx k) < tx.length
      · exact hz
      · exact absurd ((tk_27 (by omega)).mpr (by omega)) h2.1
    exact (tokAt_end hlt h2.2).2.1
theorem r_nextK {XL : Nat} {XS : Nat → Int32} {n : Nat} {C : mC} {I : Nat → Nat → Int32} {L : Nat → Nat → Int64} {K : mK} {tx : List Nat} {m k : Nat} (hC : m_Ge XL XS (n + 3) C) (ht : TxOk tx) (hm : TkM tx m) (hk : k < m) (hT : TxM tx I) (hw : WdM L) (h3 : I 30 3 = nI (tke tx (k + 1)))
    (hK : ∀ I' L', RTok tx (k + 1) I' L' → Fr S_nx I I' → Fr S_nxL L L' → K none (m_SH, I', L')) : C 107 [.ref 30] (m_SH, I, L) K :=
  r_next hC ht hT hw (tke_le hm _ hk) h3 (fun I' L' a b c d => hK I' L' ⟨a, b⟩ c d)
end
section
/-! ===== the reference judges a stmt: its parts ===== -/
theorem FrS.fr {I I' : Nat → Nat → Int32} {n : List (Int32 × Int32 × Int32)} (hI : ∀ p j, 45 ≤ p → p ≤ 51 → I' p j = I p j) : ∀ (st : List Fm) (c : Nat), FrS I n c st → FrS I' n c st
  | [], _, _ => trivial
  | x :: r, c, h => by
    obtain ⟨a1, a2, a3, a4, a5⟩ := h
    refine ⟨?_, ?_, ?_, ?_, FrS.fr hI r _ a5⟩
    · rw [hI 45 _ (by decide) (by decide)]; exact a1
    · rw [hI 47 _ (by decide) (by decide)]; exact a2
    · rw [hI 48 _ (by decide) (by decide), hI 50 _ (by decide) (by decide)]; exact a3
    · rw [hI 49 _ (by decide) (by decide), hI 51 _ (by decide) (by decide), hI 46 _ (by decide) (by decide)]; exact a4
theorem bitsB.mono {c d : Nat} {x : Int32} (h : bitsB c x) (hcd : c ≤ d) : bitsB d x := by
  obtain ⟨b, hb, e⟩ := h
  exact ⟨b, Nat.lt_of_lt_of_le hb (Nat.pow_le_pow_right (by decide) hcd), e⟩
theorem FrS.mono {I : Nat → Nat → Int32} {n n' : List (Int32 × Int32 × Int32)} (hn : ∀ i k, kAt n i k → kAt n' i k) : ∀ (st : List Fm) (c d : Nat), c ≤ d → FrS I n c st → FrS I n' d st
  | [], _, _, _, _ => trivial
  | x :: r, c, d, hcd, h => by
    obtain ⟨a1, a2, a3, a4, a5⟩ := h
    refine ⟨a1, fun q => ⟨(a2 q).1, Nat.le_trans (a2 q).2 hcd⟩, fun q => ⟨(a3 q).1, (a3 q).2.1, hn _ _ (a3 q).2.2.1, (a3 q).2.2.2.mono hcd⟩, fun q => ⟨(a4 q).1, (a4 q).2.1, hn _ _ (a4 q).2.2.1, (a4 q).2.2.2.1.imp id (fun z => z.mono hcd), (a4 q).2.2.2.2⟩, ?_⟩
    by_cases g : x.1 = 1
    · rw [if_pos g] at a5 ⊢
      exact FrS.mono hn r _ _ (Nat.le_refl _) a5
    · rw [if_neg g] at a5 ⊢
      exact FrS.mono hn r _ _ hcd a5
theorem MT.fr {t : Tok} {I I' : Nat → Nat → Int32} {L L' : Nat → Nat → Int64} (h : MT t I L) (h4 : I' 30 4 = I 30 4) (h5 : I' 30 5 = I 30 5) (h7 : I' 30 7 = I 30 7) (h6 : L' 30 6 = L 30 6) : MT t I' L' := by
  unfold MT at h ⊢
  rw [h4, h5, h7, h6]
  exact h
theorem RTok.fr {tx : List Nat} {k : Nat} {I I' : Nat → Nat → Int32} {L L' : Nat → Nat → Int64} (h : RTok tx k I L) (h3 : I' 30 3 = I 30 3) (h4 : I' 30 4 = I 30 4) (h5 : I' 30 5 = I 30 5) (h7 : I' 30 7 = I 30 7) (h6 : L' 30 6 = L 30 6) : RTok tx k I' L' :=
  ⟨h.1.fr h4 h5 h7 h6, fun q => by rw [h3]; exact h.2 q⟩
theorem RX.ok {tx : List Nat} {m : Nat} {I0 : Nat → Nat → Int32} {L0 : Nat → Nat → Int64} {u0 : JU} {b : Nat} {st : List Fm} {I : Nat → Nat → Int32} {L : Nat → Nat → Int64} {s : JSt} (h : RX tx m I0 L0 u0 b st (.ok s) I L) : RS tx m u0 st s I L := h.2.2.2.2.1
theorem RX.cdb {tx : List Nat} {m : Nat} {I0 : Nat → Nat → Int32} {L0 : Nat → Nat → Int64} {u0 : JU} {b : Nat} {st : List Fm} {I : Nat → Nat → Int32} {L : Nat → Nat → Int64} {s : JSt} (h : RX tx m I0 L0 u0 b st (.ok s) I L) : s.cd.length ≤ b := h.2.2.2.2.2
theorem RX.er {tx : List Nat} {m : Nat} {I0 : Nat → Nat → Int32} {L0 : Nat → Nat → Int64} {u0 : JU} {b : Nat} {st : List Fm} {I : Nat → Nat → Int32} {L : Nat → Nat → Int64} {e : Nat × Nat} (h : RX tx m I0 L0 u0 b st (.error e) I L) : RE b e I := h.2.2.2.2
theorem RX.txm {tx : List Nat} {m : Nat} {I0 : Nat → Nat → Int32} {L0 : Nat → Nat → Int64} {u0 : JU} {b : Nat} {st : List Fm} {r : JRs} {I : Nat → Nat → Int32} {L : Nat → Nat → Int64} (h : RX tx m I0 L0 u0 b st r I L) : TxM tx I := h.1.2.2.2.1.fr h.2.1 rfl (fun _ => rfl)
theorem RX.wdm {tx : List Nat} {m : Nat} {I0 : Nat → Nat → Int32} {L0 : Nat → Nat → Int64} {u0 : JU} {b : Nat} {st : List Fm} {r : JRs} {I : Nat → Nat → Int32} {L : Nat → Nat → Int64} (h : RX tx m I0 L0 u0 b st r I L) : WdM L := h.1.2.2.2.2.fr h.2.2.1 (fun _ => rfl)
theorem RX.mk {tx : List Nat} {m : Nat} {I0 : Nat → Nat → Int32} {L0 : Nat → Nat → Int64} {u0 : JU} {b : Nat} {st : List Fm} {r : JRs} {I : Nat → Nat → Int32} {L : Nat → Nat → Int64} {b' : Nat} {st' : List Fm} {r' : JRs} {I' : Nat → Nat → Int32} {L' : Nat → Nat → Int64} (h : RX tx m I0 L0 u0 b st r I L) (hF : Fr S_st I I') (hL : Fr S_stL L L') (hb : b' ≤ 600)
    (hr : match r' with | .ok s => RS tx m u0 st' s I' L' ∧ s.cd.length ≤ b' | .error e => RE b' e I') : RX tx m I0 L0 u0 b' st' r' I' L' :=
  ⟨h.1, h.2.1.tr hF, h.2.2.1.tr hL, hb, hr⟩
theorem RX.mono {tx : List Nat} {m : Nat} {I0 : Nat → Nat → Int32} {L0 : Nat → Nat → Int64} {u0 : JU} {b : Nat} {st : List Fm} {r : JRs} {I : Nat → Nat → Int32} {L : Nat → Nat → Int64} {b' : Nat} (h : RX tx m I0 L0 u0 b st r I L) (hb : b ≤ b') (hb' : b' ≤ 600) : RX tx m I0 L0 u0 b' st r I L := by
  refine ⟨h.1, h.2.1, h.2.2.1, hb', ?_⟩
  have h5 := h.2.2.2.2
  cases r with
  | ok s => exact ⟨h5.1, Nat.le_trans h5.2 hb⟩
  | error e =>
    obtain ⟨a1, a2, a3, a4, c, hc, e⟩ := h5
    exact ⟨a1, a2, a3, a4, c, Nat.le_trans hc hb, e⟩
theorem RX.any {tx : List Nat} {m : Nat} {I0 : Nat → Nat → Int32} {L0 : Nat → Nat → Int64} {u0 : JU} {b : Nat} {st : List Fm} {I : Nat → Nat → Int32} {L : Nat → Nat → Int64} {st' : List Fm} {e : Nat × Nat} (h : RX tx m I0 L0 u0 b st (.error e) I L) : RX tx m I0 L0 u0 b st' (.error e) I L := ⟨h.1, h.2.1, h.2.2.1, h.2.2.2.1, h.2.2.2.2⟩
theorem S_nx_st {p q : Nat} (h : S_st p q = false) : S_nx p q = false := by
  unfold S_st at h
  unfold S_nx
  by_cases g : p = 30
  · subst g
    simp at h ⊢
    omega
  · simp [g]
theorem S_nxL_st {p q : Nat} (h : S_stL p q = false) : S_nxL p q = false := by
  unfold S_stL at h
  unfold S_nxL
  simp at h ⊢
  exact h.1
theorem RS.nx {tx : List Nat} {m : Nat} {u0 : JU} {st : List Fm} {s : JSt} {I I' : Nat → Nat → Int32} {L L' : Nat → Nat → Int64} (h : RS tx m u0 st s I L) (hk : s.k + 1 ≤ m) (hT : RTok tx (s.k + 1) I' L') (hF : Fr S_nx I I') (hL : Fr S_nxL L L') : RS tx m u0 st (s.wk (s.k + 1)) I' L' := by
  obtain ⟨⟨a1, a2, a3⟩, ⟨b1, b2⟩, ⟨c1, c2, c3⟩, ⟨d1, d2, d3, d4⟩, ⟨e1, e2⟩, f1, f2, f3, f4, f5⟩ := h
  refine ⟨⟨hT, ?_, hk⟩, ⟨?_, b2⟩, ⟨?_, ?_, c3⟩, ⟨?_, d2, fun j hj => ?_, d4⟩, ⟨?_, fun j x hx => ?_⟩, ?_, ?_, f3, f4, FrS.fr (fun p j h1 h2 => ?_) st _ f5⟩
  · rw [hF 30 8 rfl]; exact a2
  · rw [hF 30 26 rfl]; exact b1
  · rw [hF 30 36 rfl]; exact c1
  · rw [hF 30 16 rfl]; exact c2
  · rw [hF 30 35 rfl]; exact d1
  · rw [hL 44 j rfl]; exact d3 j hj
  · rw [hF 30 33 rfl]; exact e1
  · rw [hF 41 j rfl, hF 42 j rfl, hF 43 j rfl]; exact e2 j x hx
  · rw [hF 30 44 rfl]; exact f1
  · rw [hF 30 45 rfl]; exact f2
  · refine hF p j ?_
    unfold S_nx
    have : (p == 30) = false := by simp; omega
    rw [this]; rfl
theorem r_nextX {XL : Nat} {XS : Nat → Int32} {n : Nat} {C : mC} {I : Nat → Nat → Int32} {L : Nat → Nat → Int64} {K : mK} {tx : List Nat} {m : Nat} {I0 : Nat → Nat → Int32} {L0 : Nat → Nat → Int64} {u0 : JU} {b : Nat} {st : List Fm} {s : JSt} (hC : m_Ge XL XS (n + 3) C) (hX : RX tx m I0 L0 u0 b st (.ok s) I L) (h27 : (tk tx s.k).1 < 27) (hK : ∀ I' L', RX tx m I0 L0 u0 b st (jadv (.ok s)) I' L' → K none (m_SH, I', L')) : C 107 [.ref 30] (m_SH, I, L) K := by
  have h := hX.ok
  have hk : s.k < m := tk_lt hX.1.2.1 h.1.2.2 (by omega) (by omega)
  refine r_nextK hC hX.1.1 hX.1.2.1 hk hX.txm hX.wdm (h.1.1.2 (by omega)) (fun I' L' hT hF hL => ?_)
  exact hK I' L' (hX.mk (hF.mono (fun _ _ => S_nx_st)) (hL.mono (fun _ _ => S_nxL_st)) hX.2.2.2.1 ⟨h.nx hk hT hF hL, hX.cdb⟩)
theorem RX.cl {tx : List Nat} {m : Nat} {I0 : Nat → Nat → Int32} {L0 : Nat → Nat → Int64} {u0 : JU} {b : Nat} {st : List Fm} {I : Nat → Nat → Int32} {L : Nat → Nat → Int64} {s : JSt} (h : RX tx m I0 L0 u0 b st (.ok s) I L) : I 30 4 = tcl (tk tx s.k).1 := h.ok.1.1.1.cl (tk_29 tx _)
theorem r_isSignX {XL : Nat} {XS : Nat → Int32} {n : Nat} {C : mC} {I : Nat → Nat → Int32} {L : Nat → Nat → Int64} {K : mK} {tx : List Nat} {m : Nat} {I0 : Nat → Nat → Int32} {L0 : Nat → Nat → Int64} {u0 : JU} {b : Nat} {st : List Fm} {s : JSt} {k : Nat} (hC : m_Ge XL XS (n + 1) C) (hX : RX tx m I0 L0 u0 b st (.ok s) I L) (h1 : 19 ≤ k) (h2 : k ≤ 26) (hK : K (some (.int (if (tk tx s.k).1 = k then 1 else 0))) (m_SH, I, L)) : C 114 [.ref 30, .int (sgC k)] (m_SH, I, L) K := by
  refine r_isSign hC ?_
  rw [hX.ok.1.1.1.sign (tk_29 tx _) h1 h2]
  exact hK
theorem r_isWordX {XL : Nat} {XS : Nat → Int32} {n : Nat} {C : mC} {I : Nat → Nat → Int32} {L : Nat → Nat → Int64} {K : mK} {tx : List Nat} {m : Nat} {I0 : Nat → Nat → Int32} {L0 : Nat → Nat → Int64} {u0 : JU} {b : Nat} {st : List Fm} {s : JSt} {w : Nat} (hC : m_Ge XL XS (n + 1) C) (hX : RX tx m I0 L0 u0 b st (.ok s) I L) (hw : w < 15) (hK : K (some (.int (if (tk tx s.k).1 = w + 1 then 1 else 0))) (m_SH, I, L)) : C 115 [.ref 30, .int (nI w)] (m_SH, I, L) K := by
  refine r_isWord hC ?_
  rw [hX.ok.1.1.1.word (tk_29 tx _) (tk_pos tx _) hw]
  exact hK
theorem RX.fail {tx : List Nat} {m : Nat} {I0 : Nat → Nat → Int32} {L0 : Nat → Nat → Int64} {u0 : JU} {b : Nat} {st : List Fm} {I : Nat → Nat → Int32} {L : Nat → Nat → Int64} {s : JSt} {a : Nat} {v : Int32} (h : RX tx m I0 L0 u0 b st (.ok s) I L) (ha0 : a ≠ 0) (ha : a ≤ 12) (hv : v = nI (if a = 2 ∧ (tk tx s.k).1 = 28 then 1 else a)) : RX tx m I0 L0 u0 b st (jfal tx a (.ok s)) (wrF v (I 30 5) I) L := by
  have h0 := h.ok.1.2.1
  have h5 := h.ok.1.1.1.1
  have hcd := h.ok.2.2.2.2.1.1
  have e : wrF v (I 30 5) I = m_up (m_up I 30 8 v) 30 9 (I 30 5) := by
    unfold wrF
    rw [if_pos h0]
  rw [e]
  refine h.mk ((Fr.rf.up rfl).up rfl) Fr.rf h.2.2.2.1 ?_
  show RE b _ _
  refine ⟨?_, ?_, by simp [m_upr, hv], by simp [m_upr, h5], s.cd.length, h.cdb, by simp [m_upr, hcd]⟩
  · simp only
    split <;> omega
  · simp only
    split <;> omega
theorem r_wrongX {XL : Nat} {XS : Nat → Int32} {n : Nat} {C : mC} {I : Nat → Nat → Int32} {L : Nat → Nat → Int64} {K : mK} {tx : List Nat} {m : Nat} {I0 : Nat → Nat → Int32} {L0 : Nat → Nat → Int64} {u0 : JU} {b : Nat} {st : List Fm} {s : JSt} {a : Nat} (hC : m_Ge XL XS (n + 1) C) (hX : RX tx m I0 L0 u0 b st (.ok s) I L) (ha2 : a ≠ 2) (ha0 : a ≠ 0) (ha : a ≤ 12) (hK : ∀ I', RX tx m I0 L0 u0 b st (jfal tx a (.ok s)) I' L → K none (m_SH, I', L)) : C 111 [.ref 30, .int (nI a)] (m_SH, I, L) K :=
  r_wrong hC (hK _ (hX.fail ha0 ha (by rw [if_neg (fun z => ha2 z.1)])))
theorem r_cannotX {XL : Nat} {XS : Nat → Int32} {n : Nat} {C : mC} {I : Nat → Nat → Int32} {L : Nat → Nat → Int64} {K : mK} {tx : List Nat} {m : Nat} {I0 : Nat → Nat → Int32} {L0 : Nat → Nat → Int64} {u0 : JU} {b : Nat} {st : List Fm} {s : JSt} (hC : m_Ge XL XS (n + 2) C) (hX : RX tx m I0 L0 u0 b st (.ok s) I L) (hK : ∀ I', RX tx m I0 L0 u0 b st (jfal tx 2 (.ok s)) I' L → K none (m_SH, I', L)) : C 113 [.ref 30] (m_SH, I, L) K := by
  refine r_cannot hC (hK _ ?_)
  unfold canF
  refine hX.fail (by decide) (by decide) ?_
  rw [hX.cl]
  have := (tcl_eq (tk_29 tx s.k)).2.2.2.2.2
  by_cases g : (tk tx s.k).1 = 28
  · rw [if_pos (this.mpr g), if_pos ⟨rfl, g⟩]; rfl
  · rw [if_neg (fun z => g (this.mp z)), if_neg (fun z => g z.2)]; rfl
theorem RX.flt_er {tx : List Nat} {m : Nat} {I0 : Nat → Nat → Int32} {L0 : Nat → Nat → Int64} {u0 : JU} {b : Nat} {st : List Fm} {I : Nat → Nat → Int32} {L : Nat → Nat → Int64} {e : Nat × Nat} (h : RX tx m I0 L0 u0 b st (.error e) I L) : 0 < I 30 8 ∧ ¬ I 30 8 = 0 := by
  obtain ⟨a1, a2, a3, -⟩ := h.er
  rw [a3]
  exact ⟨nI_lt (a := 0) (b := e.1) (by omega) (by omega), fun z => a1 ((nI_eq (a := e.1) (b := 0) (by omega) (by omega)).mp z)⟩
theorem RX.flt_ok {tx : List Nat} {m : Nat} {I0 : Nat → Nat → Int32} {L0 : Nat → Nat → Int64} {u0 : JU} {b : Nat} {st : List Fm} {I : Nat → Nat → Int32} {L : Nat → Nat → Int64} {s : JSt} (h : RX tx m I0 L0 u0 b st (.ok s) I L) : I 30 8 = 0 := h.ok.1.2.1
theorem r_wantsSignX {XL : Nat} {XS : Nat → Int32} {n : Nat} {C : mC} {I : Nat → Nat → Int32} {L : Nat → Nat → Int64} {K : mK} {tx : List Nat} {m : Nat} {I0 : Nat → Nat → Int32} {L0 : Nat → Nat → Int64} {u0 : JU} {b : Nat} {st : List Fm} {r : JRs} {k : Nat} (hC : m_Ge XL XS (n + 4) C) (hX : RX tx m I0 L0 u0 b st r I L) (h1 : 19 ≤ k) (h2 : k ≤ 26) (hK : ∀ I' L', RX tx m I0 L0 u0 b st (jxpc tx k r) I' L' → K none (m_SH, I', L')) : C 116 [.ref 30, .int (sgC k)] (m_SH, I, L) K := by
  refine e_X9_wantsSign hC (Nat.le_of_ble_eq_true rfl) ?_
  intro C' hC' P hP
  repeat (refine hP _ ?_; conv => whnf)
  cases r with
  | error e =>
    refine ⟨fun _ => ?_, fun z => absurd hX.flt_er.1 z⟩
    repeat (refine hP _ ?_; conv => whnf)
    exact hK _ _ (by rw [jxpc_er]; exact hX)
  | ok s =>
    refine ⟨fun z => absurd z (by rw [hX.flt_ok]; decide), fun _ => ?_⟩
    repeat (refine hP _ ?_; conv => whnf)
    refine r_isSignX (n := n + 2) hC' hX h1 h2 ?_
    unfold jxpc at hK
    by_cases g : (tk tx s.k).1 = k
    · rw [if_pos (show jkd tx (.ok s) = k from g)] at hK
      rw [if_pos g]
      repeat (refine hP _ ?_; conv => whnf)
      refine ⟨fun z => absurd z (by decide), fun _ => ?_⟩
      repeat (refine hP _ ?_; conv => whnf)
      refine r_nextX hC' hX (by omega) (fun I' L' h' => ?_)
      repeat (refine hP _ ?_; conv => whnf)
      exact hK _ _ h'
    · rw [if_neg (show ¬ jkd tx (.ok s) = k from g)] at hK
      rw [if_neg g]
      repeat (refine hP _ ?_; conv => whnf)
      refine ⟨fun _ => ?_, fun z => absurd rfl z⟩
      repeat (refine hP _ ?_; conv => whnf)
      refine r_cannotX hC' hX (fun I' h' => ?_)
      repeat (refine hP _ ?_; conv => whnf)
      exact hK _ _ h'
theorem r_numberX {XL : Nat} {XS : Nat → Int32} {n : Nat} {C : mC} {I : Nat → Nat → Int32} {L : Nat → Nat → Int64} {K : mK} {tx : List Nat} {m : Nat} {I0 : Nat → Nat → Int32} {L0 : Nat → Nat → Int64} {u0 : JU} {b : Nat} {st : List Fm} {r : JRs} (hC : m_Ge XL XS (n + 4) C) (hX : RX tx m I0 L0 u0 b st r I L) (hK : ∀ I' L', RX tx m I0 L0 u0 b st (jnmb tx r) I' L' → K (some (.int (jnmv tx r))) (m_SH, I', L')) : C 117 [.ref 30] (m_SH, I, L) K := by
  refine e_X9_number hC (Nat.le_of_ble_eq_true rfl) ?_
  intro C' hC' P hP
  repeat (refine hP _ ?_; conv => whnf)
  cases r with
  | error e =>
    refine ⟨fun _ => ?_, fun z => absurd hX.flt_er.1 z⟩
    repeat (refine hP _ ?_; conv => whnf)
    exact hK _ _ (by rw [jnmb_er]; exact hX)
  | ok s =>
    refine ⟨fun z => absurd z (by rw [hX.flt_ok]; decide), fun _ => ?_⟩
    repeat (refine hP _ ?_; conv => whnf)
    rw [hX.cl]
    unfold jnmb jnmv at hK
    have ht := (tcl_eq (tk_29 tx s.k)).2.2.1
    refine ⟨fun z => ?_, fun z => ?_⟩
    · have g := ht.mp z
      rw [if_pos (show jkd tx (.ok s) = 17 from g), if_pos (show jkd tx (.ok s) = 17 from g)] at hK
      have hv : I 30 7 = nI (jnum tx (.ok s)) := (hX.ok.1.1.1.2.2.2.2.2.1 g).2
      repeat (refine hP _ ?_; conv => whnf)
      refine r_nextX hC' hX (by omega) (fun I' L' h' => ?_)
      repeat (refine hP _ ?_; conv => whnf)
      rw [hv]
      exact hK _ _ h'
    · have g : ¬ (tk tx s.k).1 = 17 := fun y => z (ht.mpr y)
      rw [if_neg (show ¬ jkd tx (.ok s) = 17 from g), if_neg (show ¬ jkd tx (.ok s) = 17 from g)] at hK
      repeat (refine hP _ ?_; conv => whnf)
      refine r_cannotX hC' hX (fun I' h' => ?_)
      repeat (refine hP _ ?_; conv => whnf)
      exact hK _ _ h'
def jsgv (tx : List Nat) (r : JRs) : Int32 := if jkd tx r = 25 then -(jnmv tx (jadv r)) else jnmv tx r
def jsgn (tx : List Nat) (r : JRs) : JRs := if jkd tx r = 25 then jnmb tx (jadv r) else jnmb tx r
theorem r_signedX {XL : Nat} {XS : Nat → Int32} {n : Nat} {C : mC} {I : Nat → Nat → Int32} {L : Nat → Nat → Int64} {K : mK} {tx : List Nat} {m : Nat} {I0 : Nat → Nat → Int32} {L0 : Nat → Nat → Int64} {u0 : JU} {b : Nat} {st : List Fm} {r : JRs} (hC : m_Ge XL XS (n + 5) C) (hX : RX tx m I0 L0 u0 b st r I L) (hK : ∀ I' L', RX tx m I0 L0 u0 b st (jsgn tx r) I' L' → K (some (.int (jsgv tx r))) (m_SH, I', L')) : C 118 [.ref 30] (m_SH, I, L) K := by
  refine e_X9_signed hC (Nat.le_of_ble_eq_true rfl) ?_
  intro C' hC' P hP
  unfold jsgn jsgv at hK
  have nomin : ¬ jkd tx r = 25 → P (20, [some (.ref 30), none, none], [], (m_SH, I, L), 0, 0) := by
    intro g
    rw [if_neg g, if_neg g] at hK
    repeat (refine hP _ ?_; conv => whnf)
    refine ⟨fun _ => ?_, fun z => absurd rfl z⟩
    repeat (refine hP _ ?_; conv => whnf)
    refine r_numberX hC' hX (fun I' L' h' => ?_)
    repeat (refine hP _ ?_; conv => whnf)
    refine ⟨fun _ => ?_, fun z => absurd rfl z⟩
    repeat (refine hP _ ?_; conv => whnf)
    exact hK _ _ h'
  repeat (refine hP _ ?_; conv => whnf)
  cases r with
  | error e =>
    refine ⟨fun z => absurd z hX.flt_er.2, fun _ => ?_⟩
    exact nomin (fun z => no_kd z (by decide))
  | ok s =>
    refine ⟨fun _ => ?_, fun z => absurd hX.flt_ok z⟩
    repeat (refine hP _ ?_; conv => whnf)
    refine r_isSignX (k := 25) (n := n + 3) hC' hX (by decide) (by decide) ?_
    by_cases g : (tk tx s.k).1 = 25
    · rw [if_pos (show jkd tx (.ok s) = 25 from g), if_pos (show jkd tx (.ok s) = 25 from g)] at hK
      rw [if_pos g]
      repeat (refine hP _ ?_; conv => whnf)
      refine ⟨fun z => absurd z (by decide), fun _ => ?_⟩
      repeat (refine hP _ ?_; conv => whnf)
      refine ⟨fun z => absurd z (by decide), fun _ => ?_⟩
      repeat (refine hP _ ?_; conv => whnf)
      refine r_nextX (n := n + 1) hC' hX (by omega) (fun I' L' h' => ?_)
      repeat (refine hP _ ?_; conv => whnf)
      refine r_numberX hC' h' (fun I' L' h' => ?_)
      repeat (refine hP _ ?_; conv => whnf)
      refine ⟨fun z => absurd z (by decide), fun _ => ?_⟩
      repeat (refine hP _ ?_; conv => whnf)
      exact hK _ _ h'
    · rw [if_neg g]
      repeat (refine hP _ ?_; conv => whnf)
      refine ⟨fun _ => ?_, fun z => absurd rfl z⟩
      exact nomin g
end
section
/-! ===== what is SET, bit by bit ===== -/
theorem nI_and (a b : Nat) : nI a &&& nI b = nI (a &&& b) := by
  apply Int32.toBitVec_inj.mp
  rw [Int32.toBitVec_and]
  show BitVec.ofNat 32 a &&& BitVec.ofNat 32 b = BitVec.ofNat 32 (a &&& b)
  apply BitVec.eq_of_toNat_eq
  rw [BitVec.toNat_and, BitVec.toNat_ofNat, BitVec.toNat_ofNat, BitVec.toNat_ofNat, Nat.and_mod_two_pow]
theorem nI_or (a b : Nat) : nI a ||| nI b = nI (a ||| b) := by
  apply Int32.toBitVec_inj.mp
  rw [Int32.toBitVec_or]
  show BitVec.ofNat 32 a ||| BitVec.ofNat 32 b = BitVec.ofNat 32 (a ||| b)
  apply BitVec.eq_of_toNat_eq
  rw [BitVec.toNat_or, BitVec.toNat_ofNat, BitVec.toNat_ofNat, BitVec.toNat_ofNat, Nat.or_mod_two_pow]
theorem i_and_m1 (x : Int32) : x &&& -1 = x := by
  apply Int32.toBitVec_inj.mp
  rw [Int32.toBitVec_and]
  show x.toBitVec &&& BitVec.allOnes 32 = x.toBitVec
  exact BitVec.and_allOnes
theorem i_and_comm (x y : Int32) : x &&& y = y &&& x := by
  apply Int32.toBitVec_inj.mp
  rw [Int32.toBitVec_and, Int32.toBitVec_and]
  exact BitVec.and_comm _ _
theorem i_m1_and (x : Int32) : -1 &&& x = x := by rw [i_and_comm, i_and_m1]
theorem bitsB.ne {c : Nat} {x : Int32} (hc : c ≤ 20) (h : bitsB c x) : ¬ x = -1 := by
  obtain ⟨b, hb, e⟩ := h
  have : 2 ^ c ≤ 2 ^ 20 := Nat.pow_le_pow_right (by decide) hc
  rw [e]
  exact nI_nm1 (by omega)
theorem bitsB.and {c : Nat} {x y : Int32} (hx : x = -1 ∨ bitsB c x) (hy : bitsB c y) : bitsB c (x &&& y) := by
  rcases hx with h | ⟨a, ha, e⟩
  · rw [h, i_m1_and]; exact hy
  · obtain ⟨b, hb, e2⟩ := hy
    rw [e, e2, nI_and]
    exact ⟨a &&& b, Nat.lt_of_le_of_lt Nat.and_le_left ha, rfl⟩
theorem sh_nI {k : Nat} (hk : k < 32) : (1 : Int32) <<< (nI k &&& 31) = nI (2 ^ k) := by
  have : ∀ k : Fin 32, (1 : Int32) <<< (nI k.val &&& 31) = nI (2 ^ k.val) := by decide +kernel
  exact this ⟨k, hk⟩
theorem sh1_nI {k : Nat} (hk : k < 32) : (1 : Int32) <<< (nI k &&& 31) - 1 = nI (2 ^ k - 1) := by
  have : ∀ k : Fin 32, (1 : Int32) <<< (nI k.val &&& 31) - 1 = nI (2 ^ k.val - 1) := by decide +kernel
  exact this ⟨k, hk⟩
theorem shx_nI {k : Nat} (hk : k < 32) : ((1 : Int32) <<< (nI k &&& 31)) ^^^ -1 = nI (2 ^ 32 - 1 - 2 ^ k) := by
  have : ∀ k : Fin 32, ((1 : Int32) <<< (nI k.val &&& 31)) ^^^ -1 = nI (2 ^ 32 - 1 - 2 ^ k.val) := by decide +kernel
  exact this ⟨k, hk⟩
theorem bitsB.mask {c k : Nat} {x : Int32} (hk : k < 32) (h : bitsB c x) : bitsB k (x &&& ((1 : Int32) <<< (nI k &&& 31) - 1)) := by
  obtain ⟨b, hb, e⟩ := h
  rw [sh1_nI hk, e, nI_and, Nat.and_two_pow_sub_one_eq_mod]
  exact ⟨b % 2 ^ k, Nat.mod_lt _ (Nat.two_pow_pos k), rfl⟩
theorem bitsB.mask_id {k : Nat} {x : Int32} (hk : k < 32) (h : bitsB k x) : x &&& ((1 : Int32) <<< (nI k &&& 31) - 1) = x := by
  obtain ⟨b, hb, e⟩ := h
  rw [sh1_nI hk, e, nI_and, Nat.and_two_pow_sub_one_eq_mod, Nat.mod_eq_of_lt hb]
theorem bitsB.clr {k : Nat} {x : Int32} (hk : k < 32) (h : bitsB k x) : x &&& (((1 : Int32) <<< (nI k &&& 31)) ^^^ -1) = x := by
  obtain ⟨b, hb, e⟩ := h
  rw [shx_nI hk, e, nI_and]
  congr 1
  apply Nat.eq_of_testBit_eq
  intro i
  rw [Nat.testBit_and]
  by_cases hi : i < k
  · have h1 : (2 ^ 32 - 1 - 2 ^ k).testBit i = true := by
      have : ∀ k : Fin 32, ∀ i : Fin 32, i.val < k.val → (2 ^ 32 - 1 - 2 ^ k.val).testBit i.val = true := by decide +kernel
      exact this ⟨k, hk⟩ ⟨i, by omega⟩ hi
    rw [h1, Bool.and_true]
  · have h1 : b.testBit i = false := Nat.testBit_lt_two_pow (Nat.lt_of_lt_of_le hb (Nat.pow_le_pow_right (by decide) (by omega)))
    rw [h1, Bool.false_and]
theorem bitsB.ins {c k : Nat} {x : Int32} (hk : k < c) (hc : c < 32) (h : bitsB c x) : bitsB c (x ||| (1 <<< (nI k &&& 31))) := by
  obtain ⟨b, hb, e⟩ := h
  rw [sh_nI (by omega), e, nI_or]
  exact ⟨b ||| 2 ^ k, Nat.or_lt_two_pow hb (Nat.pow_lt_pow_right (by decide) hk), rfl⟩
def bt (x : Int32) (i : Nat) : Bool := x.toBitVec.getLsbD i
theorem b_ext {x y : Int32} (h : ∀ i, i < 32 → bt x i = bt y i) : x = y := Int32.toBitVec_inj.mp (BitVec.eq_of_getLsbD_eq (fun i hi => h i hi))
theorem b_or (x y : Int32) (i : Nat) : bt (x ||| y) i = (bt x i || bt y i) := by unfold bt; rw [Int32.toBitVec_or, BitVec.getLsbD_or]
theorem b_and (x y : Int32) (i : Nat) : bt (x &&& y) i = (bt x i && bt y i) := by unfold bt; rw [Int32.toBitVec_and, BitVec.getLsbD_and]
theorem b_xor (x y : Int32) (i : Nat) : bt (x ^^^ y) i = (bt x i ^^ bt y i) := by unfold bt; rw [Int32.toBitVec_xor, BitVec.getLsbD_xor]
theorem b_big {x : Int32} {i : Nat} (h : 32 ≤ i) : bt x i = false := BitVec.getLsbD_of_ge _ _ h
theorem b_255 (i : Nat) : bt 255 i = decide (i < 8) := by
  rcases Nat.lt_or_ge i 32 with h | h
  · exact (by decide +kernel : ∀ i, i < 32 → bt 255 i = decide (i < 8)) i h
  · rw [b_big h, decide_eq_false (by omega)]
theorem b_65535 (i : Nat) : bt 65535 i = decide (i < 16) := by
  rcases Nat.lt_or_ge i 32 with h | h
  · exact (by decide +kernel : ∀ i, i < 32 → bt 65535 i = decide (i < 16)) i h
  · rw [b_big h, decide_eq_false (by omega)]
theorem b_m1 : ∀ i, i < 32 → bt (-1) i = true := by decide +kernel
theorem b_0 (i : Nat) : bt 0 i = false := BitVec.getLsbD_zero
theorem s_l : ∀ n, n < 32 → ((nI n &&& 31).toBitVec.smod 32).toNat = n := by decide +kernel
theorem s_u : ∀ n, n < 32 → (((nI n).toUInt32 &&& Int32.toUInt32 31).toBitVec % 32).toNat = n := by decide +kernel
theorem b_shl (n : Nat) (hn : n < 32) (x : Int32) {i : Nat} (hi : i < 32) : bt (x <<< (nI n &&& 31)) i = (decide (n ≤ i) && bt x (i - n)) := by
  unfold bt
  rw [Int32.toBitVec_shiftLeft]
  show (x.toBitVec <<< ((nI n &&& 31).toBitVec.smod 32).toNat).getLsbD i = _
  rw [s_l n hn, BitVec.getLsbD_shiftLeft]
  rcases Nat.lt_or_ge i n with h | h
  · simp [h, Nat.not_le.mpr h]
  · simp [hi, h, Nat.not_lt.mpr h]
theorem b_ushr (n : Nat) (hn : n < 32) (x : Int32) (i : Nat) : bt ((x.toUInt32 >>> ((nI n).toUInt32 &&& Int32.toUInt32 31)).toInt32) i = bt x (n + i) := by
  show (x.toUInt32 >>> ((nI n).toUInt32 &&& Int32.toUInt32 31)).toBitVec.getLsbD i = x.toUInt32.toBitVec.getLsbD (n + i)
  rw [UInt32.toBitVec_shiftRight]
  show (x.toUInt32.toBitVec >>> (((nI n).toUInt32 &&& Int32.toUInt32 31).toBitVec % 32).toNat).getLsbD i = _
  rw [s_u n hn, BitVec.getLsbD_ushiftRight]
theorem b_sshr (n : Nat) (hn : n < 32) (x : Int32) {i : Nat} (hi : i < 32) : bt (x >>> (nI n &&& 31)) i = if n + i < 32 then bt x (n + i) else bt x 31 := by
  unfold bt
  rw [Int32.toBitVec_shiftRight]
  show (x.toBitVec.sshiftRight ((nI n &&& 31).toBitVec.smod 32).toNat).getLsbD i = _
  rw [s_l n hn, BitVec.getLsbD_sshiftRight, BitVec.msb_eq_getLsbD_last]
  simp [hi]
theorem bt_1 (i : Nat) (hi : i < 32) : bt 1 i = decide (i = 0) := by
  have : ∀ i : Fin 32, bt 1 i.val = decide (i.val = 0) := by decide +kernel
  exact this ⟨i, hi⟩
theorem and1_0 (y : Int32) : y &&& 1 = 0 ↔ bt y 0 = false := by
  constructor
  · intro h
    have := congrArg (fun z => bt z 0) h
    simp only [b_and, b_0, bt_1 0 (by decide)] at this
    simpa using this
  · intro h
    apply b_ext
    intro i hi
    rw [b_and, b_0, bt_1 i hi]
    by_cases g : i = 0
    · subst g; rw [h]; rfl
    · simp [g]
theorem and1_1 (y : Int32) : y &&& 1 = 1 ↔ bt y 0 = true := by
  constructor
  · intro h
    have := congrArg (fun z => bt z 0) h
    simp only [b_and, bt_1 0 (by decide)] at this
    simpa using this
  · intro h
    apply b_ext
    intro i hi
    rw [b_and, bt_1 i hi]
    by_cases g : i = 0
    · subst g; rw [h]; rfl
    · simp [g]
/-- the reference's test of a bit is the class's -/
theorem bit_same {k : Nat} {x : Int32} (hk : k < 20) : (x >>> (nI k &&& 31) &&& 1 = 0) ↔ ¬ jbit (nI k) x := by
  have hn : ¬ nI k < 0 := nI_pos (by omega)
  have key : (x >>> (nI k &&& 31) &&& 1 = 0) ↔ ¬ ((x.toUInt32 >>> ((nI k).toUInt32 &&& Int32.toUInt32 31)).toInt32 &&& 1 = 1) := by
    rw [and1_0, and1_1, b_ushr k (by omega), b_sshr k (by omega) x (by decide), if_pos (by omega)]
    simp
  unfold jbit
  constructor
  · intro z y; exact key.mp z y.2
  · intro z; exact key.mpr (fun y => z ⟨hn, y⟩)
end
section
/-! ===== through: what stands behind a stmt ===== -/
def sled (i : Nat) (s : JSt) : JSt := s.wcd (s.cd.modify i (fun x => (x.1, nI s.cd.length, x.2.2)))
def semt (k a b : Int32) (s : JSt) : JSt := s.wcd (s.cd ++ [(k, a, b)])
def thr (tx : List Nat) : List Fm → JSt → JSt × List Fm
  | [], s => (s, [])
  | x :: r, s => if x.1 = 2 then (if (tk tx s.k).1 = 15 then (((sled x.2.2 (semt 4 0 0 s)).wset x.2.1).wk (s.k + 1), (3, s.set, s.cd.length) :: r) else thr tx r ((sled x.2.2 s).wset (s.set &&& x.2.1)))
    else if x.1 = 3 then thr tx r ((sled x.2.2 s).wset (s.set &&& x.2.1)) else (s, x :: r)
def SetOk (s : JSt) : Prop := s.set = -1 ∨ bitsB s.nm.length s.set
def nth : List Fm → Nat
  | [] => 0
  | x :: r => (if x.1 = 2 then 1 else 0) + nth r
def lst : List Fm → Prop
  | [] => False
  | x :: r => (¬ x.1 = 2 ∧ ¬ x.1 = 3) ∨ lst r
/-- the list on top knows whether one can go on there -/
def Ends (st : List Fm) (s : JSt) (I : Nat → Nat → Int32) : Prop := match st with
  | [] => True
  | x :: r => ¬ x.1 = 2 → ¬ x.1 = 3 → I 46 r.length = if s.set = -1 then 0 else 1
theorem kAt_mod {cd : List (Int32 × Int32 × Int32)} {j i : Nat} {k : Int32} {v : Int32} (h : kAt cd i k) : kAt (cd.modify j (fun x => (x.1, v, x.2.2))) i k := by
  unfold kAt at h ⊢
  rw [List.getElem?_modify]
  cases hx : cd[i]? with
  | none => rw [hx] at h; cases h
  | some x =>
    rw [hx] at h
    by_cases e : j = i
    · simpa [e] using h
    · simpa [e] using h
theorem kAt_app {cd : List (Int32 × Int32 × Int32)} {i : Nat} {k : Int32} {v : Int32 × Int32 × Int32} (h : kAt cd i k) : kAt (cd ++ [v]) i k := by
  unfold kAt at h ⊢
  cases hx : cd[i]? with
  | none => rw [hx] at h; cases h
  | some x =>
    have hi : i < cd.length := by
      by_cases g : i < cd.length
      · exact g
      · rw [List.getElem?_eq_none (by omega)] at hx; cases hx
    rw [List.getElem?_append_left hi]
    exact h
theorem kAt_lt {cd : List (Int32 × Int32 × Int32)} {i : Nat} {k : Int32} (h : kAt cd i k) : i < cd.length := by
  unfold kAt at h
  by_cases g : i < cd.length
  · exact g
  · rw [List.getElem?_eq_none (by omega)] at h; cases h
theorem kAt_some {cd : List (Int32 × Int32 × Int32)} {i : Nat} {k : Int32} (h : kAt cd i k) : ∃ a b, cd[i]? = some (k, a, b) := by
  unfold kAt at h
  cases hx : cd[i]? with
  | none => rw [hx] at h; cases h
  | some x =>
    rw [hx] at h
    obtain ⟨a, b, c⟩ := x
    simp only [Option.map_some, Option.some.injEq] at h
    exact ⟨b, c, by rw [h]⟩
/-- leading a step on -/
theorem RCd.led {s : JSt} {I : Nat → Nat → Int32} {i : Nat} {k : Int32} (h : RCd s I) (hk : kAt s.cd i k) (hk3 : k = 3 ∨ k = 4) : RCd (sled i s) (m_up I 42 i (nI s.cd.length)) := by
  obtain ⟨h1, h2⟩ := h
  have hl : (sled i s).cd = s.cd.modify i (fun x => (x.1, nI s.cd.length, x.2.2)) := rfl
  refine ⟨?_, fun j x hx => ?_⟩
  · rw [hl, List.length_modify]; simpa [m_upr] using h1
  · rw [hl, List.getElem?_modify] at hx
    by_cases e : i = j
    · subst e
      obtain ⟨a, b, hab⟩ := kAt_some hk
      rw [hab] at hx
      simp only [if_true] at hx
      have hx : some (k, nI s.cd.length, b) = some x := hx
      have hx := Option.some.inj hx
      have h3 := h2 i _ hab
      subst hx
      rcases hk3 with g | g
      · subst g
        simp only [mcd] at h3 ⊢
        simp at h3 ⊢
        simp [m_upr, h3]
      · subst g
        simp only [mcd] at h3 ⊢
        simp at h3 ⊢
        simp [m_upr, h3]
    · simp only [e, if_false] at hx
      have h3 := h2 j x (by simpa using hx)
      have e2 : ¬ j = i := fun z => e z.symm
      simpa [m_upr, e2] using h3
theorem RCd.emt {s : JSt} {I : Nat → Nat → Int32} {k a b ka kb kc : Int32} (h : RCd s I) (hl : s.cd.length < 2 ^ 31) (he : mcd (k, a, b) = (ka, kb, kc)) : RCd (semt k a b s) (emF ka kb kc I) := by
  obtain ⟨h1, h2⟩ := h
  have hcd : (semt k a b s).cd = s.cd ++ [(k, a, b)] := rfl
  unfold emF
  rw [h1, nI_clamp hl]
  refine ⟨?_, fun j x hx => ?_⟩
  · rw [hcd, List.length_append]; simp [m_upr, nI_1]
  · rw [hcd] at hx
    by_cases g : j < s.cd.length
    · rw [List.getElem?_append_left g] at hx
      have g2 : ¬ j = s.cd.length := by omega
      simpa [m_upr, g2] using h2 j x hx
    · by_cases g2 : j = s.cd.length
      · subst g2
        simp at hx
        subst hx
        rw [he]
        simp [m_upr]
      · rw [List.getElem?_eq_none (by rw [List.length_append]; simp; omega)] at hx
        cases hx
theorem RX.fct {tx : List Nat} {m : Nat} {I0 : Nat → Nat → Int32} {L0 : Nat → Nat → Int64} {u0 : JU} {b : Nat} {st : List Fm} {I : Nat → Nat → Int32} {L : Nat → Nat → Int64} {s : JSt} (h : RX tx m I0 L0 u0 b st (.ok s) I L) : I 30 44 = nI st.length ∧ I 30 36 = s.set ∧ I 30 33 = nI s.cd.length ∧ I 30 35 = nI s.nm.length ∧ s.nm.length ≤ 20 ∧ st.length ≤ 20 := by
  obtain ⟨-, -, ⟨c1, c2, c3⟩, ⟨d1, d2, -⟩, ⟨e1, e2⟩, f1, f2, f3, f4, f5⟩ := h.ok
  exact ⟨f1, c1, e1, d1, d2, f3⟩
theorem FrS_low : ∀ (q : List Fm) (c : Nat) (J J' : Nat → Nat → Int32) (cd : List (Int32 × Int32 × Int32)), (∀ p j, 45 ≤ p → p ≤ 51 → j < q.length → J' p j = J p j) → FrS J cd c q → FrS J' cd c q
  | [], _, _, _, _, _, _ => trivial
  | y :: q, c, J, J', cd, hJ, hq => by
    obtain ⟨z1, z2, z3, z4, z5⟩ := hq
    have hq : q.length < (y :: q).length := by simp
    refine ⟨?_, ?_, ?_, ?_, FrS_low q _ _ _ _ (fun p j h1 h2 h3 => hJ p j h1 h2 (by simp; omega)) z5⟩
    · rw [hJ 45 _ (by decide) (by decide) hq]; exact z1
    · rw [hJ 47 _ (by decide) (by decide) hq]; exact z2
    · rw [hJ 48 _ (by decide) (by decide) hq, hJ 50 _ (by decide) (by decide) hq]; exact z3
    · rw [hJ 49 _ (by decide) (by decide) hq, hJ 51 _ (by decide) (by decide) hq, hJ 46 _ (by decide) (by decide) hq]; exact z4
theorem nth_cons {x : Fm} {r : List Fm} : nth (x :: r) = (if x.1 = 2 then 1 else 0) + nth r := rfl
theorem dep_cons {x : Fm} {r : List Fm} : dep (x :: r) = (if x.1 = 1 ∨ x.1 = 2 ∨ x.1 = 3 then 1 else 0) + dep r := rfl
theorem dep_le {x : Fm} {r : List Fm} : dep r ≤ dep (x :: r) := by
  rw [dep_cons]
  omega
theorem RX.popn {tx : List Nat} {m : Nat} {I0 : Nat → Nat → Int32} {L0 : Nat → Nat → Int64} {u0 : JU} {b : Nat} {I : Nat → Nat → Int32} {L : Nat → Nat → Int64} {s : JSt} {x : Fm} {r : List Fm} {k : Int32} {v : Int32} (h : RX tx m I0 L0 u0 b (x :: r) (.ok s) I L) (hx : x.1 = 2 ∨ x.1 = 3) (hk : kAt s.cd x.2.2 k) (hk3 : k = 3 ∨ k = 4) :
    RX tx m I0 L0 u0 b r (.ok ((sled x.2.2 s).wset v)) (popF (m_up (m_up I 42 x.2.2 (nI s.cd.length)) 30 36 v)) L := by
  obtain ⟨f44, f36, f33, f35, fn, fst⟩ := h.fct
  have hlen : (x :: r).length = r.length + 1 := rfl
  have hcdb := h.cdb
  obtain ⟨⟨q1, q2, q3⟩, ⟨b1, b2⟩, ⟨c1, c2, c3⟩, ⟨d1, d2, d3, d4⟩, e, ⟨g1, g2, g3, g4, ⟨a1, a2, a3, a4, a5⟩⟩⟩ := h.ok
  have fi : I 30 44 - 1 = nI r.length := by
    rw [f44, hlen, show (1 : Int32) = nI 1 from rfl, sub_nI (by omega)]
    rfl
  have hp : popF (m_up (m_up I 42 x.2.2 (nI s.cd.length)) 30 36 v) = m_up (m_up (m_up (m_up I 42 x.2.2 (nI s.cd.length)) 30 36 v) 30 44 (nI r.length)) 30 45 (nI (dep r)) := by
    unfold popF
    have e1 : m_up (m_up I 42 x.2.2 (nI s.cd.length)) 30 36 v 30 44 = I 30 44 := by simp [m_upr]
    have e2 : m_up (m_up I 42 x.2.2 (nI s.cd.length)) 30 36 v 30 45 = nI (dep (x :: r)) := by simp [m_upr, g2]
    have e3 : m_up (m_up I 42 x.2.2 (nI s.cd.length)) 30 36 v 45 r.length = nI x.1 := by simp [m_upr, a1.2]
    rw [e1, fi, nI_clamp (by omega), e2, e3]
    congr 1
    have hd : dep (x :: r) = dep r + 1 := by
      rw [dep_cons, if_pos (by omega)]
      omega
    rw [hd] at g4 ⊢
    rcases hx with g | g
    · rw [g, if_neg (by decide), if_pos (by decide), show (1 : Int32) = nI 1 from rfl, sub_nI (by omega)]; rfl
    · rw [g, if_neg (by decide), if_neg (by decide), if_pos (by decide), show (1 : Int32) = nI 1 from rfl, sub_nI (by omega)]; rfl
  rw [hp]
  have hcd : ((sled x.2.2 s).wset v).cd = s.cd.modify x.2.2 (fun y => (y.1, nI s.cd.length, y.2.2)) := rfl
  refine h.mk ((((Fr.rf.up rfl).up rfl).up rfl).up rfl) Fr.rf h.2.2.2.1 ⟨⟨⟨?_, ?_, q3⟩, ⟨?_, b2⟩, ⟨?_, ?_, c3⟩, ⟨?_, d2, d3, d4⟩, ?_, ?_, ?_, by omega, by have := dep_le (x := x) (r := r); omega, ?_⟩, ?_⟩
  · exact q1.fr (by simp [m_upr]) (by simp [m_upr]) (by simp [m_upr]) (by simp [m_upr]) rfl
  · simp [m_upr]; exact q2
  · simp [m_upr]; exact b1
  · simp [m_upr]; rfl
  · simp [m_upr]; exact c2
  · simp [m_upr]; exact d1
  · have := e.led hk hk3
    unfold RCd at this ⊢
    refine ⟨by have h7 := this.1; simp [m_upr] at h7 ⊢; exact h7, fun j y hy => ?_⟩
    simpa [m_upr] using this.2 j y hy
  · simp [m_upr]
  · simp [m_upr]
  · rw [if_neg (by omega)] at a5
    refine FrS.mono (fun i k hq => by rw [hcd]; exact kAt_mod hq) r _ _ (Nat.le_refl _) (FrS.fr (fun p j h1 h2 => ?_) r _ a5)
    have : ¬ p = 30 := by omega
    have : ¬ p = 42 := by omega
    simp [m_upr, *]
  · rw [hcd, List.length_modify]; exact hcdb
theorem RX.elsn {tx : List Nat} {m : Nat} {I0 : Nat → Nat → Int32} {L0 : Nat → Nat → Int64} {u0 : JU} {b : Nat} {I : Nat → Nat → Int32} {L : Nat → Nat → Int64} {s : JSt} {x : Fm} {r : List Fm} {can : Int32} (h : RX tx m I0 L0 u0 b (x :: r) (.ok s) I L) (hb : b + 1 ≤ 600) (hs : SetOk s) (hx : x.1 = 2) (hk : kAt s.cd x.2.2 3) (hcan : can = if s.set = -1 then 0 else 1) :
    RX tx m I0 L0 u0 (b + 1) ((3, s.set, s.cd.length) :: r) (.ok ((sled x.2.2 (semt 4 0 0 s)).wset x.2.1)) (m_up (m_up (m_up (m_up (emF 7 0 0 (m_up (m_up I 46 r.length can) 49 r.length s.set)) 51 r.length (nI s.cd.length)) 42 x.2.2 (nI (s.cd.length + 1))) 30 36 x.2.1) 45 r.length 3) L := by
  obtain ⟨f44, f36, f33, f35, fn, fst⟩ := h.fct
  have hlen : (x :: r).length = r.length + 1 := rfl
  have hcdb := h.cdb
  have hb6 := h.2.2.2.1
  obtain ⟨⟨q1, q2, q3⟩, ⟨b1, b2⟩, ⟨c1, c2, c3⟩, ⟨d1, d2, d3, d4⟩, e, ⟨g1, g2, g3, g4, ⟨a1, a2, a3, a4, a5⟩⟩⟩ := h.ok
  have e0 : RCd s (m_up (m_up I 46 r.length can) 49 r.length s.set) := by
    unfold RCd at e ⊢
    refine ⟨by simpa [m_upr] using e.1, fun j y hy => ?_⟩
    simpa [m_upr] using e.2 j y hy
  have e1 := e0.emt (k := 4) (a := 0) (b := 0) (ka := 7) (kb := 0) (kc := 0) (by omega) rfl
  have e2 : RCd (semt 4 0 0 s) (m_up (emF 7 0 0 (m_up (m_up I 46 r.length can) 49 r.length s.set)) 51 r.length (nI s.cd.length)) := by
    unfold RCd at e1 ⊢
    refine ⟨by simpa [m_upr] using e1.1, fun j y hy => ?_⟩
    simpa [m_upr] using e1.2 j y hy
  have hk' : kAt (semt 4 0 0 s).cd x.2.2 3 := kAt_app hk
  have e3 := e2.led hk' (Or.inl rfl)
  have hl1 : (semt 4 0 0 s).cd.length = s.cd.length + 1 := by
    show (s.cd ++ [_]).length = _
    rw [List.length_append]; rfl
  rw [hl1] at e3
  have hcd : ((sled x.2.2 (semt 4 0 0 s)).wset x.2.1).cd = (s.cd ++ [(4, 0, 0)]).modify x.2.2 (fun y => (y.1, nI (s.cd ++ [(4, 0, 0)]).length, y.2.2)) := rfl
  have hF : Fr S_st I (m_up (m_up (m_up (m_up (emF 7 0 0 (m_up (m_up I 46 r.length can) 49 r.length s.set)) 51 r.length (nI s.cd.length)) 42 x.2.2 (nI (s.cd.length + 1))) 30 36 x.2.1) 45 r.length 3) := by
    unfold emF
    exact (((((((((Fr.rf.up rfl).up rfl).up rfl).up rfl).up rfl).up rfl).up rfl).up rfl).up rfl).up rfl
  refine h.mk hF Fr.rf hb ⟨⟨⟨?_, ?_, q3⟩, ⟨?_, b2⟩, ⟨?_, ?_, c3⟩, ⟨?_, d2, d3, d4⟩, ?_, ?_, ?_, by exact g3, ?_, ?_⟩, ?_⟩
  · exact q1.fr (by simp [emF, m_upr]) (by simp [emF, m_upr]) (by simp [emF, m_upr]) (by simp [emF, m_upr]) rfl
  · simp [emF, m_upr]; exact q2
  · simp [emF, m_upr]; exact b1
  · simp [m_upr]; rfl
  · simp [emF, m_upr]; exact c2
  · simp [emF, m_upr]; exact d1
  · unfold RCd at e3 ⊢
    refine ⟨by have h7 := e3.1; simp [m_upr] at h7 ⊢; exact h7, fun j y hy => ?_⟩
    simpa [m_upr] using e3.2 j y hy
  · simp [emF, m_upr]; exact g1
  · have hd : dep (x :: r) = dep ((3, s.set, s.cd.length) :: r) := by
      rw [dep_cons, dep_cons, if_pos (by omega), if_pos (by simp)]
    rw [← hd]
    simp [emF, m_upr]; exact g2
  · have hd : dep (x :: r) = dep ((3, s.set, s.cd.length) :: r) := by
      rw [dep_cons, dep_cons, if_pos (by omega), if_pos (by simp)]
    rw [← hd]
    exact g4
  · refine ⟨⟨by simp, by simp [m_upr]; rfl⟩, fun z => absurd z (by simp), fun z => absurd z (by simp), fun _ => ⟨by simp [emF, m_upr], by simp [m_upr], ?_, hs, by simp [emF, m_upr, hcan]⟩, ?_⟩
    · rw [hcd]
      refine kAt_mod ?_
      unfold kAt
      simp
    · rw [if_neg (by simp)]
      rw [if_neg (by omega)] at a5
      refine FrS.mono (fun i k hq => by rw [hcd]; exact kAt_mod (kAt_app hq)) r _ _ (Nat.le_refl _) (FrS_low r _ I _ s.cd (fun p j h1 h2 h3 => ?_) a5)
      have : ¬ p = 30 := by omega
      have : ¬ p = 41 := by omega
      have : ¬ p = 42 := by omega
      have : ¬ p = 43 := by omega
      have : ¬ j = r.length := by omega
      simp [emF, m_upr, *]
  · rw [hcd, List.length_modify, List.length_append]
    have := hcdb
    simp only [List.length_singleton]
    omega
theorem RX.ends46 {tx : List Nat} {m : Nat} {I0 : Nat → Nat → Int32} {L0 : Nat → Nat → Int64} {u0 : JU} {b : Nat} {I : Nat → Nat → Int32} {L : Nat → Nat → Int64} {s : JSt} {x : Fm} {r : List Fm} {v : Int32} (h : RX tx m I0 L0 u0 b (x :: r) (.ok s) I L) (hb : b + 1 ≤ 600) (hx : ¬ x.1 = 3) : RX tx m I0 L0 u0 (b + 1) (x :: r) (.ok s) (m_up I 46 r.length v) L := by
  have hcdb := h.cdb
  obtain ⟨⟨q1, q2, q3⟩, ⟨b1, b2⟩, ⟨c1, c2, c3⟩, ⟨d1, d2, d3, d4⟩, e, ⟨g1, g2, g3, g4, ⟨a1, a2, a3, a4, a5⟩⟩⟩ := h.ok
  refine h.mk (Fr.rf.up rfl) Fr.rf hb ⟨⟨⟨?_, ?_, q3⟩, ⟨?_, b2⟩, ⟨?_, ?_, c3⟩, ⟨?_, d2, d3, d4⟩, ?_, ?_, ?_, g3, g4, ⟨?_, ?_, ?_, fun z => absurd z hx, ?_⟩⟩, by omega⟩
  · exact q1.fr (by simp [m_upr]) (by simp [m_upr]) (by simp [m_upr]) (by simp [m_upr]) rfl
  · simp [m_upr]; exact q2
  · simp [m_upr]; exact b1
  · simp [m_upr]; exact c1
  · simp [m_upr]; exact c2
  · simp [m_upr]; exact d1
  · unfold RCd at e ⊢
    refine ⟨by simpa [m_upr] using e.1, fun j y hy => ?_⟩
    simpa [m_upr] using e.2 j y hy
  · simp [m_upr]; simpa using g1
  · simp [m_upr]; exact g2
  · simpa [m_upr] using a1
  · simpa [m_upr] using a2
  · simpa [m_upr] using a3
  · refine FrS_low r _ I _ s.cd (fun p j h1 h2 h3 => ?_) a5
    have : ¬ j = r.length := by omega
    simp [m_upr, *]
set_option maxHeartbeats 1000000 in
theorem r_through {XL : Nat} {XS : Nat → Int32} {n : Nat} {C : mC} {I : Nat → Nat → Int32} {L : Nat → Nat → Int64} {K : mK} {tx : List Nat} {m : Nat} {I0 : Nat → Nat → Int32} {L0 : Nat → Nat → Int64} {u0 : JU} {b : Nat} {st : List Fm} {s : JSt} (hC : m_Ge XL XS (n + 4) C) (hX : RX tx m I0 L0 u0 b st (.ok s) I L) (hb : b + 1 ≤ 600) (hs : SetOk s) (hl : lst st) (hn : s.cd.length + nth st ≤ 260)
    (hK : ∀ I' L', RX tx m I0 L0 u0 (b + 1) (thr tx st s).2 (.ok (thr tx st s).1) I' L' → Ends (thr tx st s).2 (thr tx st s).1 I' → SetOk (thr tx st s).1 → K none (m_SH, I', L')) : C 129 [.ref 30, .int (if s.set = -1 then 0 else 1)] (m_SH, I, L) K := by
  refine e_X9_through hC (Nat.le_of_ble_eq_true rfl) ?_
  intro C' hC' P hP
  have loop : ∀ (st : List Fm) (s : JSt) (J : Nat → Nat → Int32) (e0 : Int32) (l4 : Option Value), RX tx m I0 L0 u0 b st (.ok s) J L → SetOk s → lst st → s.cd.length + nth st ≤ 260 → (∀ I' L', RX tx m I0 L0 u0 (b + 1) (thr tx st s).2 (.ok (thr tx st s).1) I' L' → Ends (thr tx st s).2 (thr tx st s).1 I' → SetOk (thr tx st s).1 → K none (m_SH, I', L')) →
      P (4, [some (.ref 30), some (.int e0), some (.int (if s.set = -1 then 0 else 1)), some (.int 1), l4], [], (m_SH, J, L), 0, 0) := by
    intro st
    induction st with
    | nil => intro s J e0 l4 h1 h2 h3; exact h3.elim
    | cons x r ih =>
      intro s J e0 l4 hJ hs hl hn hk
      obtain ⟨f44, f36, f33, f35, fn, fst⟩ := hJ.fct
      have hlen : (x :: r).length = r.length + 1 := rfl
      have fr : r.length < 20 := by omega
      have fi : J 30 44 - 1 = nI r.length := by
        rw [f44, hlen, ← nI_1]
        show nI r.length + 1 - 1 = nI r.length
        rw [nI_1, show (1 : Int32) = nI 1 from rfl, sub_nI (by omega)]
        rfl
      obtain ⟨a1, a2, a3, a4, a5⟩ := hJ.ok.2.2.2.2.2.2.2.2.2
      repeat (refine hP _ ?_; conv => whnf)
      refine ⟨fun z => absurd z (by decide), fun _ => ?_⟩
      repeat (refine hP _ ?_; conv => whnf)
      rw [fi]
      refine ⟨vp_in_nI (by omega) (by omega), ?_⟩
      rw [nI_clamp (by omega), a1.2]
      have hcan : vp_nar .boolean (if s.set = -1 then 0 else 1) = (if s.set = -1 then 0 else 1) := by split <;> rfl
      by_cases g2 : x.1 = 2
      · obtain ⟨t1, t2, t3, t4⟩ := a3 g2
        have hl' : lst r := by
          rcases hl with z | z
          · exact absurd g2 z.1
          · exact z
        have hnn : nth (x :: r) = 1 + nth r := by
          rw [nth_cons, if_pos g2]
        have hact := kAt_lt t3
        repeat (refine hP _ ?_; conv => whnf)
        refine ⟨fun _ => ?_, fun z => absurd (show nI x.1 = 2 by rw [g2]; rfl) z⟩
        repeat (refine hP _ ?_; conv => whnf)
        refine r_isWordX (w := 14) (n := n + 2) hC' hJ (by decide) ?_
        by_cases g15 : (tk tx s.k).1 = 15
        · have ht : thr tx (x :: r) s = (((sled x.2.2 (semt 4 0 0 s)).wset x.2.1).wk (s.k + 1), (3, s.set, s.cd.length) :: r) := by rw [thr, if_pos g2, if_pos g15]
          rw [ht] at hk
          rw [if_pos g15]
          repeat (refine hP _ ?_; conv => whnf)
          refine ⟨fun z => absurd z (by decide), fun _ => ?_⟩
          repeat (refine hP _ ?_; conv => whnf)
          refine ⟨vp_in_nI (by omega) (by omega), ?_⟩
          rw [nI_clamp (by omega), hcan]
          repeat (refine hP _ ?_; conv => whnf)
          refine ⟨vp_in_nI (by omega) (by omega), ?_⟩
          rw [nI_clamp (by omega), show m_up J 46 r.length (if s.set = -1 then 0 else 1) 30 36 = s.set by rw [m_upr, if_neg (by decide)]; exact f36]
          repeat (refine hP _ ?_; conv => whnf)
          refine r_emit (n := n + 2) hC' (by simp [m_upr, f33]; exact vp_in_nI (by omega) (by omega)) ?_
          rw [show m_up (m_up J 46 r.length (if s.set = -1 then 0 else 1)) 49 r.length s.set 30 33 + 1 - 1 = nI s.cd.length by
            simp [m_upr, f33]]
          repeat (refine hP _ ?_; conv => whnf)
          refine ⟨vp_in_nI (by omega) (by omega), ?_⟩
          rw [nI_clamp (by omega)]
          repeat (refine hP _ ?_; conv => whnf)
          refine ⟨vp_in_nI (by omega) (by omega), ?_⟩
          rw [nI_clamp (by omega), show m_up (emF 7 0 0 (m_up (m_up J 46 r.length (if s.set = -1 then 0 else 1)) 49 r.length s.set)) 51 r.length (nI s.cd.length) 50 r.length = nI x.2.2 by simp [emF, m_upr, t2]]
          repeat (refine hP _ ?_; conv => whnf)
          refine ⟨vp_in_nI (by omega) (by omega), ?_⟩
          rw [nI_clamp (by omega), show m_up (emF 7 0 0 (m_up (m_up J 46 r.length (if s.set = -1 then 0 else 1)) 49 r.length s.set)) 51 r.length (nI s.cd.length) 30 33 = nI (s.cd.length + 1) by simp [emF, m_upr, f33, nI_1]]
          repeat (refine hP _ ?_; conv => whnf)
          refine ⟨vp_in_nI (by omega) (by omega), ?_⟩
          rw [nI_clamp (by omega), show m_up (m_up (emF 7 0 0 (m_up (m_up J 46 r.length (if s.set = -1 then 0 else 1)) 49 r.length s.set)) 51 r.length (nI s.cd.length)) 42 x.2.2 (nI (s.cd.length + 1)) 48 r.length = x.2.1 by simp [emF, m_upr, t1]]
          repeat (refine hP _ ?_; conv => whnf)
          refine ⟨vp_in_nI (by omega) (by omega), ?_⟩
          rw [nI_clamp (by omega)]
          repeat (refine hP _ ?_; conv => whnf)
          have hE := hJ.elsn hb hs g2 t3 rfl
          refine r_nextX (n := n) hC' hE (by show (tk tx s.k).1 < 27; omega) (fun I' L' h' => ?_)
          repeat (refine hP _ ?_; conv => whnf)
          exact hk _ _ h' (fun _ z => absurd rfl z) (Or.inr t4)
        · have ht : thr tx (x :: r) s = thr tx r ((sled x.2.2 s).wset (s.set &&& x.2.1)) := by rw [thr, if_pos g2, if_neg g15]
          rw [ht] at hk
          rw [if_neg g15]
          repeat (refine hP _ ?_; conv => whnf)
          refine ⟨fun _ => ?_, fun z => absurd rfl z⟩
          repeat (refine hP _ ?_; conv => whnf)
          refine ⟨vp_in_nI (by omega) (by omega), ?_⟩
          rw [nI_clamp (by omega), a1.2]
          repeat (refine hP _ ?_; conv => whnf)
          refine ⟨fun _ => ?_, fun z => absurd (show nI x.1 = 2 by rw [g2]; rfl) z⟩
          repeat (refine hP _ ?_; conv => whnf)
          refine ⟨vp_in_nI (by omega) (by omega), ?_⟩
          rw [nI_clamp (by omega), t2]
          repeat (refine hP _ ?_; conv => whnf)
          refine ⟨vp_in_nI (by omega) (by omega), ?_⟩
          rw [nI_clamp (by omega), f33]
          repeat (refine hP _ ?_; conv => whnf)
          refine ⟨vp_in_nI (by omega) (by omega), ?_⟩
          rw [nI_clamp (by omega), show m_up J 42 x.2.2 (nI s.cd.length) 48 r.length = x.2.1 by simp [m_upr, t1]]
          have hp := hJ.popn (v := s.set &&& x.2.1) (Or.inl g2) t3 (Or.inl rfl)
          repeat (refine hP _ ?_; conv => whnf)
          rw [show m_up J 42 x.2.2 (nI s.cd.length) 30 36 = s.set by simp [m_upr, f36]]
          refine r_pop (n := n + 2) hC' (by simp [m_upr]; rw [fi]; exact vp_in_nI (by omega) (by omega)) ?_
          iterate 2 (refine hP _ ?_; conv => whnf)
          have hbits : bitsB s.nm.length (s.set &&& x.2.1) := bitsB.and hs t4
          have e := ih ((sled x.2.2 s).wset (s.set &&& x.2.1)) _ e0 (some (.int (nI r.length))) hp (Or.inr hbits) hl' (by show (s.cd.modify _ _).length + nth r ≤ 260; rw [List.length_modify]; omega) hk
          rw [if_neg (show ¬ ((sled x.2.2 s).wset (s.set &&& x.2.1)).set = -1 from hbits.ne fn)] at e
          exact e
      · have hne2 : ¬ nI x.1 = 2 := fun z => g2 ((nI_eq (a := x.1) (b := 2) (by omega) (by omega)).mp z)
        repeat (refine hP _ ?_; conv => whnf)
        refine ⟨fun z => absurd z hne2, fun _ => ?_⟩
        repeat (refine hP _ ?_; conv => whnf)
        refine ⟨vp_in_nI (by omega) (by omega), ?_⟩
        rw [nI_clamp (by omega), a1.2]
        repeat (refine hP _ ?_; conv => whnf)
        refine ⟨fun z => absurd z hne2, fun _ => ?_⟩
        repeat (refine hP _ ?_; conv => whnf)
        refine ⟨vp_in_nI (by omega) (by omega), ?_⟩
        rw [nI_clamp (by omega), a1.2]
        repeat (refine hP _ ?_; conv => whnf)
        by_cases g3 : x.1 = 3
        · obtain ⟨t1, t2, t3, t4, t5⟩ := a4 g3
          have hl' : lst r := by
            rcases hl with z | z
            · exact absurd g3 z.2
            · exact z
          have hnn : nth (x :: r) = 0 + nth r := by
            rw [nth_cons, if_neg g2]
          have hact := kAt_lt t3
          have ht : thr tx (x :: r) s = thr tx r ((sled x.2.2 s).wset (s.set &&& x.2.1)) := by rw [thr, if_neg g2, if_pos g3]
          rw [ht] at hk
          refine ⟨fun _ => ?_, fun z => absurd (show nI x.1 = 3 by rw [g3]; rfl) z⟩
          repeat (refine hP _ ?_; conv => whnf)
          refine ⟨vp_in_nI (by omega) (by omega), ?_⟩
          rw [nI_clamp (by omega), t2]
          repeat (refine hP _ ?_; conv => whnf)
          refine ⟨vp_in_nI (by omega) (by omega), ?_⟩
          rw [nI_clamp (by omega), f33]
          repeat (refine hP _ ?_; conv => whnf)
          refine ⟨vp_in_nI (by omega) (by omega), ?_⟩
          rw [nI_clamp (by omega), show m_up J 42 x.2.2 (nI s.cd.length) 49 r.length = x.2.1 by simp [m_upr, t1]]
          repeat (refine hP _ ?_; conv => whnf)
          rw [show m_up J 42 x.2.2 (nI s.cd.length) 30 36 = s.set by simp [m_upr, f36]]
          have hp := hJ.popn (v := s.set &&& x.2.1) (Or.inr g3) t3 (Or.inr rfl)
          have hset : SetOk ((sled x.2.2 s).wset (s.set &&& x.2.1)) := by
            rcases t4 with z | z
            · show s.set &&& x.2.1 = -1 ∨ bitsB s.nm.length (s.set &&& x.2.1)
              rw [z, i_and_m1]
              exact hs
            · exact Or.inr (bitsB.and hs z)
          have e := ih ((sled x.2.2 s).wset (s.set &&& x.2.1)) _ e0 (some (.int (nI r.length))) hp hset hl' (by show (s.cd.modify _ _).length + nth r ≤ 260; rw [List.length_modify]; omega) hk
          have hset2 : ((sled x.2.2 s).wset (s.set &&& x.2.1)).set = s.set &&& x.2.1 := rfl
          rw [hset2] at e
          have hv : (if s.set &&& x.2.1 = -1 then (0 : Int32) else 1) = if s.set = -1 then (if x.2.1 = -1 then 0 else 1) else 1 := by
            by_cases z : s.set = -1
            · rw [z, i_m1_and, if_pos rfl]
            · rw [if_neg z]
              rcases t4 with y | y
              · rw [y, i_and_m1, if_neg z]
              · rw [if_neg ((bitsB.and hs y).ne fn)]
          have fin : ∀ (can : Int32), can = (if s.set &&& x.2.1 = -1 then 0 else 1) → P (224, [some (.ref 30), some (.int e0), some (.int (if s.set = -1 then 0 else 1)), some (.int 1), some (.int (nI r.length))], [.int can], (m_SH, m_up (m_up J 42 x.2.2 (nI s.cd.length)) 30 36 (s.set &&& x.2.1), L), 0, 0) := by
            intro can hcan
            subst hcan
            repeat (refine hP _ ?_; conv => whnf)
            refine r_pop (n := n + 2) hC' (by simp [m_upr]; rw [fi]; exact vp_in_nI (by omega) (by omega)) ?_
            iterate 2 (refine hP _ ?_; conv => whnf)
            exact e
          refine ⟨fun z => ?_, fun z => ?_⟩
          · repeat (refine hP _ ?_; conv => whnf)
            refine ⟨vp_in_nI (by omega) (by omega), ?_⟩
            rw [nI_clamp (by omega), show m_up (m_up J 42 x.2.2 (nI s.cd.length)) 30 36 (s.set &&& x.2.1) 46 r.length = if x.2.1 = -1 then 0 else 1 by simp [m_upr, t5]]
            repeat (refine hP _ ?_; conv => whnf)
            have hs1 : s.set = -1 := by
              by_cases y : s.set = -1
              · exact y
              · rw [if_neg y] at z; exact absurd z (by decide)
            refine ⟨fun y => ?_, fun y => ?_⟩
            · iterate 1 (refine hP _ ?_; conv => whnf)
              refine fin 0 ?_
              rw [hv, if_pos hs1, y]
            · iterate 2 (refine hP _ ?_; conv => whnf)
              refine fin 1 ?_
              rw [hv, if_pos hs1]
              by_cases w : x.2.1 = -1
              · rw [if_pos w] at y; exact absurd rfl y
              · rw [if_neg w]
          · have hs1 : ¬ s.set = -1 := by
              intro y
              rw [if_pos y] at z; exact absurd rfl z
            iterate 2 (refine hP _ ?_; conv => whnf)
            refine fin 1 ?_
            rw [hv, if_neg hs1]
        · have hne3 : ¬ nI x.1 = 3 := fun z => g3 ((nI_eq (a := x.1) (b := 3) (by omega) (by omega)).mp z)
          have ht : thr tx (x :: r) s = (s, x :: r) := by rw [thr, if_neg g2, if_neg g3]
          rw [ht] at hk
          refine ⟨fun z => absurd z hne3, fun _ => ?_⟩
          repeat (refine hP _ ?_; conv => whnf)
          refine ⟨vp_in_nI (by omega) (by omega), ?_⟩
          rw [nI_clamp (by omega), hcan]
          repeat (refine hP _ ?_; conv => whnf)
          refine ⟨fun _ => ?_, fun z => absurd rfl z⟩
          repeat (refine hP _ ?_; conv => whnf)
          refine hk _ _ ?_ (fun _ _ => by simp [m_upr]) hs
          exact hJ.ends46 hb g3
  iterate 4 (refine hP _ ?_; conv => whnf)
  exact loop st s I _ none hX hs hl hn hK
end
