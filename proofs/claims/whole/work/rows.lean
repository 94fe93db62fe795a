section
-- ===== PART A: goes FIRST, ahead of the names: the tables' words, and 'selects' of the private methods out of them =====
/-- a private method of a class that the tables say can be made, by its rows of tables_1 -/
def lw_okq (q : MethodName × Nat) : Prop := (q.1.cls ≠ "java/lang/invoke/MethodHandle" ∧ q.1.cls ≠ "java/lang/invoke/VarHandle") ∧ Cond.instantiable q.1.cls q.2 ∈ tables_1 ∧ Cond.privateMethod q.1 ∈ tables_1 ∧ Cond.instanceMethod q.1 ∈ tables_1
theorem lw_p0 : lw_okq (⟨"SwitchRules$Tokens", "keep", "(IIJ)V"⟩, 5) := ⟨⟨by decide +kernel, by decide +kernel⟩, List.mem_of_getElem? (i := 40) (by decide +kernel), List.mem_of_getElem? (i := 384) (by decide +kernel), List.mem_of_getElem? (i := 385) (by decide +kernel)⟩
theorem lw_p1 : lw_okq (⟨"SwitchRules$Tokens", "cutOne", "(LSwitchRules$Octets;II)I"⟩, 5) := ⟨⟨by decide +kernel, by decide +kernel⟩, List.mem_of_getElem? (i := 40) (by decide +kernel), List.mem_of_getElem? (i := 388) (by decide +kernel), List.mem_of_getElem? (i := 389) (by decide +kernel)⟩
theorem lw_p2 : lw_okq (⟨"SwitchRules$Tokens", "cutName", "(LSwitchRules$Octets;I)I"⟩, 5) := ⟨⟨by decide +kernel, by decide +kernel⟩, List.mem_of_getElem? (i := 40) (by decide +kernel), List.mem_of_getElem? (i := 395) (by decide +kernel), List.mem_of_getElem? (i := 396) (by decide +kernel)⟩
theorem lw_p3 : lw_okq (⟨"SwitchRules$Tokens", "nameKind", "(J)I"⟩, 5) := ⟨⟨by decide +kernel, by decide +kernel⟩, List.mem_of_getElem? (i := 40) (by decide +kernel), List.mem_of_getElem? (i := 407) (by decide +kernel), List.mem_of_getElem? (i := 408) (by decide +kernel)⟩
theorem lw_p4 : lw_okq (⟨"SwitchRules$Tokens", "cutNumber", "(LSwitchRules$Octets;I)I"⟩, 5) := ⟨⟨by decide +kernel, by decide +kernel⟩, List.mem_of_getElem? (i := 40) (by decide +kernel), List.mem_of_getElem? (i := 411) (by decide +kernel), List.mem_of_getElem? (i := 412) (by decide +kernel)⟩
theorem lw_p5 : lw_okq (⟨"SwitchRules$Tokens", "cutText", "(LSwitchRules$Octets;I)I"⟩, 5) := ⟨⟨by decide +kernel, by decide +kernel⟩, List.mem_of_getElem? (i := 40) (by decide +kernel), List.mem_of_getElem? (i := 416) (by decide +kernel), List.mem_of_getElem? (i := 417) (by decide +kernel)⟩
theorem lw_p6 : lw_okq (⟨"SwitchRules$Judge", "kind", "()I"⟩, 11) := ⟨⟨by decide +kernel, by decide +kernel⟩, List.mem_of_getElem? (i := 232) (by decide +kernel), List.mem_of_getElem? (i := 446) (by decide +kernel), List.mem_of_getElem? (i := 447) (by decide +kernel)⟩
theorem lw_p7 : lw_okq (⟨"SwitchRules$Judge", "enumeration", "()V"⟩, 11) := ⟨⟨by decide +kernel, by decide +kernel⟩, List.mem_of_getElem? (i := 232) (by decide +kernel), List.mem_of_getElem? (i := 450) (by decide +kernel), List.mem_of_getElem? (i := 451) (by decide +kernel)⟩
theorem lw_p8 : lw_okq (⟨"SwitchRules$Judge", "fail", "(II)V"⟩, 11) := ⟨⟨by decide +kernel, by decide +kernel⟩, List.mem_of_getElem? (i := 232) (by decide +kernel), List.mem_of_getElem? (i := 454) (by decide +kernel), List.mem_of_getElem? (i := 455) (by decide +kernel)⟩
theorem lw_p9 : lw_okq (⟨"SwitchRules$Judge", "tokenValue", "()J"⟩, 11) := ⟨⟨by decide +kernel, by decide +kernel⟩, List.mem_of_getElem? (i := 232) (by decide +kernel), List.mem_of_getElem? (i := 458) (by decide +kernel), List.mem_of_getElem? (i := 459) (by decide +kernel)⟩
theorem lw_p10 : lw_okq (⟨"SwitchRules$Judge", "findEnumeration", "(J)I"⟩, 11) := ⟨⟨by decide +kernel, by decide +kernel⟩, List.mem_of_getElem? (i := 232) (by decide +kernel), List.mem_of_getElem? (i := 462) (by decide +kernel), List.mem_of_getElem? (i := 463) (by decide +kernel)⟩
theorem lw_p11 : lw_okq (⟨"SwitchRules$Judge", "expect", "(I)V"⟩, 11) := ⟨⟨by decide +kernel, by decide +kernel⟩, List.mem_of_getElem? (i := 232) (by decide +kernel), List.mem_of_getElem? (i := 466) (by decide +kernel), List.mem_of_getElem? (i := 467) (by decide +kernel)⟩
theorem lw_p12 : lw_okq (⟨"SwitchRules$Judge", "constants", "(I)V"⟩, 11) := ⟨⟨by decide +kernel, by decide +kernel⟩, List.mem_of_getElem? (i := 232) (by decide +kernel), List.mem_of_getElem? (i := 470) (by decide +kernel), List.mem_of_getElem? (i := 471) (by decide +kernel)⟩
theorem lw_p13 : lw_okq (⟨"SwitchRules$Judge", "constant", "(I)V"⟩, 11) := ⟨⟨by decide +kernel, by decide +kernel⟩, List.mem_of_getElem? (i := 232) (by decide +kernel), List.mem_of_getElem? (i := 474) (by decide +kernel), List.mem_of_getElem? (i := 475) (by decide +kernel)⟩
theorem lw_p14 : lw_okq (⟨"SwitchRules$Judge", "constantCount", "(I)I"⟩, 11) := ⟨⟨by decide +kernel, by decide +kernel⟩, List.mem_of_getElem? (i := 232) (by decide +kernel), List.mem_of_getElem? (i := 478) (by decide +kernel), List.mem_of_getElem? (i := 479) (by decide +kernel)⟩
theorem lw_p15 : lw_okq (⟨"SwitchRules$Judge", "findConstant", "(IJ)I"⟩, 11) := ⟨⟨by decide +kernel, by decide +kernel⟩, List.mem_of_getElem? (i := 232) (by decide +kernel), List.mem_of_getElem? (i := 482) (by decide +kernel), List.mem_of_getElem? (i := 483) (by decide +kernel)⟩
def lw_privs_1 : List (MethodName × Nat) := [(⟨"SwitchRules$Tokens", "keep", "(IIJ)V"⟩, 5), (⟨"SwitchRules$Tokens", "cutOne", "(LSwitchRules$Octets;II)I"⟩, 5), (⟨"SwitchRules$Tokens", "cutName", "(LSwitchRules$Octets;I)I"⟩, 5), (⟨"SwitchRules$Tokens", "nameKind", "(J)I"⟩, 5), (⟨"SwitchRules$Tokens", "cutNumber", "(LSwitchRules$Octets;I)I"⟩, 5), (⟨"SwitchRules$Tokens", "cutText", "(LSwitchRules$Octets;I)I"⟩, 5), (⟨"SwitchRules$Judge", "kind", "()I"⟩, 11), (⟨"SwitchRules$Judge", "enumeration", "()V"⟩, 11), (⟨"SwitchRules$Judge", "fail", "(II)V"⟩, 11), (⟨"SwitchRules$Judge", "tokenValue", "()J"⟩, 11), (⟨"SwitchRules$Judge", "findEnumeration", "(J)I"⟩, 11), (⟨"SwitchRules$Judge", "expect", "(I)V"⟩, 11), (⟨"SwitchRules$Judge", "constants", "(I)V"⟩, 11), (⟨"SwitchRules$Judge", "constant", "(I)V"⟩, 11), (⟨"SwitchRules$Judge", "constantCount", "(I)I"⟩, 11), (⟨"SwitchRules$Judge", "findConstant", "(IJ)I"⟩, 11)]
theorem lw_r1 : ∀ q ∈ lw_privs_1, lw_okq q := List.forall_mem_cons.mpr ⟨lw_p0, List.forall_mem_cons.mpr ⟨lw_p1, List.forall_mem_cons.mpr ⟨lw_p2, List.forall_mem_cons.mpr ⟨lw_p3, List.forall_mem_cons.mpr ⟨lw_p4, List.forall_mem_cons.mpr ⟨lw_p5, List.forall_mem_cons.mpr ⟨lw_p6, List.forall_mem_cons.mpr ⟨lw_p7, List.forall_mem_cons.mpr ⟨lw_p8, List.forall_mem_cons.mpr ⟨lw_p9, List.forall_mem_cons.mpr ⟨lw_p10, List.forall_mem_cons.mpr ⟨lw_p11, List.forall_mem_cons.mpr ⟨lw_p12, List.forall_mem_cons.mpr ⟨lw_p13, List.forall_mem_cons.mpr ⟨lw_p14, List.forall_mem_cons.mpr ⟨lw_p15, fun _ h => absurd h List.not_mem_nil⟩⟩⟩⟩⟩⟩⟩⟩⟩⟩⟩⟩⟩⟩⟩⟩
theorem lw_p16 : lw_okq (⟨"SwitchRules$Judge", "chooseEnumeration", "()V"⟩, 11) := ⟨⟨by decide +kernel, by decide +kernel⟩, List.mem_of_getElem? (i := 232) (by decide +kernel), List.mem_of_getElem? (i := 490) (by decide +kernel), List.mem_of_getElem? (i := 491) (by decide +kernel)⟩
theorem lw_p17 : lw_okq (⟨"SwitchRules$Judge", "arm", "(I)V"⟩, 11) := ⟨⟨by decide +kernel, by decide +kernel⟩, List.mem_of_getElem? (i := 232) (by decide +kernel), List.mem_of_getElem? (i := 498) (by decide +kernel), List.mem_of_getElem? (i := 499) (by decide +kernel)⟩
theorem lw_p18 : lw_okq (⟨"SwitchRules$Judge", "labels", "()V"⟩, 11) := ⟨⟨by decide +kernel, by decide +kernel⟩, List.mem_of_getElem? (i := 232) (by decide +kernel), List.mem_of_getElem? (i := 506) (by decide +kernel), List.mem_of_getElem? (i := 507) (by decide +kernel)⟩
theorem lw_p19 : lw_okq (⟨"SwitchRules$Judge", "oneLabel", "()V"⟩, 11) := ⟨⟨by decide +kernel, by decide +kernel⟩, List.mem_of_getElem? (i := 232) (by decide +kernel), List.mem_of_getElem? (i := 510) (by decide +kernel), List.mem_of_getElem? (i := 511) (by decide +kernel)⟩
theorem lw_p20 : lw_okq (⟨"SwitchRules$Unit", "labelWith", "(J)I"⟩, 14) := ⟨⟨by decide +kernel, by decide +kernel⟩, List.mem_of_getElem? (i := 135) (by decide +kernel), List.mem_of_getElem? (i := 518) (by decide +kernel), List.mem_of_getElem? (i := 519) (by decide +kernel)⟩
theorem lw_p21 : lw_okq (⟨"SwitchRules$Judge", "stmts", "(I)V"⟩, 11) := ⟨⟨by decide +kernel, by decide +kernel⟩, List.mem_of_getElem? (i := 232) (by decide +kernel), List.mem_of_getElem? (i := 530) (by decide +kernel), List.mem_of_getElem? (i := 531) (by decide +kernel)⟩
theorem lw_p22 : lw_okq (⟨"SwitchRules$Judge", "stmt", "(I)V"⟩, 11) := ⟨⟨by decide +kernel, by decide +kernel⟩, List.mem_of_getElem? (i := 232) (by decide +kernel), List.mem_of_getElem? (i := 537) (by decide +kernel), List.mem_of_getElem? (i := 538) (by decide +kernel)⟩
theorem lw_p23 : lw_okq (⟨"SwitchRules$Judge", "openStmt", "(I)V"⟩, 11) := ⟨⟨by decide +kernel, by decide +kernel⟩, List.mem_of_getElem? (i := 232) (by decide +kernel), List.mem_of_getElem? (i := 541) (by decide +kernel), List.mem_of_getElem? (i := 542) (by decide +kernel)⟩
theorem lw_p24 : lw_okq (⟨"SwitchRules$Judge", "block", "(I)V"⟩, 11) := ⟨⟨by decide +kernel, by decide +kernel⟩, List.mem_of_getElem? (i := 232) (by decide +kernel), List.mem_of_getElem? (i := 553) (by decide +kernel), List.mem_of_getElem? (i := 554) (by decide +kernel)⟩
theorem lw_p25 : lw_okq (⟨"SwitchRules$Judge", "branches", "(I)V"⟩, 11) := ⟨⟨by decide +kernel, by decide +kernel⟩, List.mem_of_getElem? (i := 232) (by decide +kernel), List.mem_of_getElem? (i := 561) (by decide +kernel), List.mem_of_getElem? (i := 562) (by decide +kernel)⟩
theorem lw_p26 : lw_okq (⟨"SwitchRules$Judge", "let", "()V"⟩, 11) := ⟨⟨by decide +kernel, by decide +kernel⟩, List.mem_of_getElem? (i := 232) (by decide +kernel), List.mem_of_getElem? (i := 573) (by decide +kernel), List.mem_of_getElem? (i := 574) (by decide +kernel)⟩
theorem lw_p27 : lw_okq (⟨"SwitchRules$Judge", "number", "()I"⟩, 11) := ⟨⟨by decide +kernel, by decide +kernel⟩, List.mem_of_getElem? (i := 232) (by decide +kernel), List.mem_of_getElem? (i := 581) (by decide +kernel), List.mem_of_getElem? (i := 582) (by decide +kernel)⟩
theorem lw_p28 : lw_okq (⟨"SwitchRules$Judge", "setName", "(II)V"⟩, 11) := ⟨⟨by decide +kernel, by decide +kernel⟩, List.mem_of_getElem? (i := 232) (by decide +kernel), List.mem_of_getElem? (i := 585) (by decide +kernel), List.mem_of_getElem? (i := 586) (by decide +kernel)⟩
theorem lw_p29 : lw_okq (⟨"SwitchRules$Judge", "yieldNumber", "()V"⟩, 11) := ⟨⟨by decide +kernel, by decide +kernel⟩, List.mem_of_getElem? (i := 232) (by decide +kernel), List.mem_of_getElem? (i := 593) (by decide +kernel), List.mem_of_getElem? (i := 594) (by decide +kernel)⟩
theorem lw_p30 : lw_okq (⟨"SwitchRules$Judge", "leave", "(II)V"⟩, 11) := ⟨⟨by decide +kernel, by decide +kernel⟩, List.mem_of_getElem? (i := 232) (by decide +kernel), List.mem_of_getElem? (i := 597) (by decide +kernel), List.mem_of_getElem? (i := 598) (by decide +kernel)⟩
theorem lw_p31 : lw_okq (⟨"SwitchRules$Judge", "simple", "()V"⟩, 11) := ⟨⟨by decide +kernel, by decide +kernel⟩, List.mem_of_getElem? (i := 232) (by decide +kernel), List.mem_of_getElem? (i := 601) (by decide +kernel), List.mem_of_getElem? (i := 602) (by decide +kernel)⟩
def lw_privs_2 : List (MethodName × Nat) := [(⟨"SwitchRules$Judge", "chooseEnumeration", "()V"⟩, 11), (⟨"SwitchRules$Judge", "arm", "(I)V"⟩, 11), (⟨"SwitchRules$Judge", "labels", "()V"⟩, 11), (⟨"SwitchRules$Judge", "oneLabel", "()V"⟩, 11), (⟨"SwitchRules$Unit", "labelWith", "(J)I"⟩, 14), (⟨"SwitchRules$Judge", "stmts", "(I)V"⟩, 11), (⟨"SwitchRules$Judge", "stmt", "(I)V"⟩, 11), (⟨"SwitchRules$Judge", "openStmt", "(I)V"⟩, 11), (⟨"SwitchRules$Judge", "block", "(I)V"⟩, 11), (⟨"SwitchRules$Judge", "branches", "(I)V"⟩, 11), (⟨"SwitchRules$Judge", "let", "()V"⟩, 11), (⟨"SwitchRules$Judge", "number", "()I"⟩, 11), (⟨"SwitchRules$Judge", "setName", "(II)V"⟩, 11), (⟨"SwitchRules$Judge", "yieldNumber", "()V"⟩, 11), (⟨"SwitchRules$Judge", "leave", "(II)V"⟩, 11), (⟨"SwitchRules$Judge", "simple", "()V"⟩, 11)]
theorem lw_r2 : ∀ q ∈ lw_privs_2, lw_okq q := List.forall_mem_cons.mpr ⟨lw_p16, List.forall_mem_cons.mpr ⟨lw_p17, List.forall_mem_cons.mpr ⟨lw_p18, List.forall_mem_cons.mpr ⟨lw_p19, List.forall_mem_cons.mpr ⟨lw_p20, List.forall_mem_cons.mpr ⟨lw_p21, List.forall_mem_cons.mpr ⟨lw_p22, List.forall_mem_cons.mpr ⟨lw_p23, List.forall_mem_cons.mpr ⟨lw_p24, List.forall_mem_cons.mpr ⟨lw_p25, List.forall_mem_cons.mpr ⟨lw_p26, List.forall_mem_cons.mpr ⟨lw_p27, List.forall_mem_cons.mpr ⟨lw_p28, List.forall_mem_cons.mpr ⟨lw_p29, List.forall_mem_cons.mpr ⟨lw_p30, List.forall_mem_cons.mpr ⟨lw_p31, fun _ h => absurd h List.not_mem_nil⟩⟩⟩⟩⟩⟩⟩⟩⟩⟩⟩⟩⟩⟩⟩⟩
theorem lw_p32 : lw_okq (⟨"SwitchRules$Judge", "useName", "()V"⟩, 11) := ⟨⟨by decide +kernel, by decide +kernel⟩, List.mem_of_getElem? (i := 232) (by decide +kernel), List.mem_of_getElem? (i := 605) (by decide +kernel), List.mem_of_getElem? (i := 606) (by decide +kernel)⟩
theorem lw_p33 : lw_okq (⟨"SwitchRules$Judge", "body", "()V"⟩, 11) := ⟨⟨by decide +kernel, by decide +kernel⟩, List.mem_of_getElem? (i := 232) (by decide +kernel), List.mem_of_getElem? (i := 613) (by decide +kernel), List.mem_of_getElem? (i := 614) (by decide +kernel)⟩
theorem lw_p34 : lw_okq (⟨"SwitchRules$Table", "put", "(II)V"⟩, 4) := ⟨⟨by decide +kernel, by decide +kernel⟩, List.mem_of_getElem? (i := 292) (by decide +kernel), List.mem_of_getElem? (i := 629) (by decide +kernel), List.mem_of_getElem? (i := 630) (by decide +kernel)⟩
theorem lw_p35 : lw_okq (⟨"SwitchRules$Runner", "addToTrace", "(I)V"⟩, 5) := ⟨⟨by decide +kernel, by decide +kernel⟩, List.mem_of_getElem? (i := 315) (by decide +kernel), List.mem_of_getElem? (i := 668) (by decide +kernel), List.mem_of_getElem? (i := 669) (by decide +kernel)⟩
theorem lw_p36 : lw_okq (⟨"SwitchRulesModel", "next", "()V"⟩, 56) := ⟨⟨by decide +kernel, by decide +kernel⟩, List.mem_of_getElem? (i := 731) (by decide +kernel), List.mem_of_getElem? (i := 930) (by decide +kernel), List.mem_of_getElem? (i := 931) (by decide +kernel)⟩
theorem lw_p37 : lw_okq (⟨"SwitchRulesModel", "octet", "(I)I"⟩, 56) := ⟨⟨by decide +kernel, by decide +kernel⟩, List.mem_of_getElem? (i := 731) (by decide +kernel), List.mem_of_getElem? (i := 934) (by decide +kernel), List.mem_of_getElem? (i := 935) (by decide +kernel)⟩
theorem lw_p38 : lw_okq (⟨"SwitchRulesModel", "nextName", "()V"⟩, 56) := ⟨⟨by decide +kernel, by decide +kernel⟩, List.mem_of_getElem? (i := 731) (by decide +kernel), List.mem_of_getElem? (i := 941) (by decide +kernel), List.mem_of_getElem? (i := 942) (by decide +kernel)⟩
theorem lw_p39 : lw_okq (⟨"SwitchRulesModel", "nextNumber", "()V"⟩, 56) := ⟨⟨by decide +kernel, by decide +kernel⟩, List.mem_of_getElem? (i := 731) (by decide +kernel), List.mem_of_getElem? (i := 948) (by decide +kernel), List.mem_of_getElem? (i := 949) (by decide +kernel)⟩
theorem lw_p40 : lw_okq (⟨"SwitchRulesModel", "nextText", "()V"⟩, 56) := ⟨⟨by decide +kernel, by decide +kernel⟩, List.mem_of_getElem? (i := 731) (by decide +kernel), List.mem_of_getElem? (i := 952) (by decide +kernel), List.mem_of_getElem? (i := 953) (by decide +kernel)⟩
theorem lw_p41 : lw_okq (⟨"SwitchRulesModel", "isWord", "(I)Z"⟩, 56) := ⟨⟨by decide +kernel, by decide +kernel⟩, List.mem_of_getElem? (i := 731) (by decide +kernel), List.mem_of_getElem? (i := 956) (by decide +kernel), List.mem_of_getElem? (i := 957) (by decide +kernel)⟩
theorem lw_p42 : lw_okq (⟨"SwitchRulesModel", "readEnum", "()V"⟩, 56) := ⟨⟨by decide +kernel, by decide +kernel⟩, List.mem_of_getElem? (i := 731) (by decide +kernel), List.mem_of_getElem? (i := 960) (by decide +kernel), List.mem_of_getElem? (i := 961) (by decide +kernel)⟩
theorem lw_p43 : lw_okq (⟨"SwitchRulesModel", "cannot", "()V"⟩, 56) := ⟨⟨by decide +kernel, by decide +kernel⟩, List.mem_of_getElem? (i := 731) (by decide +kernel), List.mem_of_getElem? (i := 964) (by decide +kernel), List.mem_of_getElem? (i := 965) (by decide +kernel)⟩
theorem lw_p44 : lw_okq (⟨"SwitchRulesModel", "wrong", "(I)V"⟩, 56) := ⟨⟨by decide +kernel, by decide +kernel⟩, List.mem_of_getElem? (i := 731) (by decide +kernel), List.mem_of_getElem? (i := 968) (by decide +kernel), List.mem_of_getElem? (i := 969) (by decide +kernel)⟩
theorem lw_p45 : lw_okq (⟨"SwitchRulesModel", "wantsSign", "(I)V"⟩, 56) := ⟨⟨by decide +kernel, by decide +kernel⟩, List.mem_of_getElem? (i := 731) (by decide +kernel), List.mem_of_getElem? (i := 972) (by decide +kernel), List.mem_of_getElem? (i := 973) (by decide +kernel)⟩
theorem lw_p46 : lw_okq (⟨"SwitchRulesModel", "isSign", "(I)Z"⟩, 56) := ⟨⟨by decide +kernel, by decide +kernel⟩, List.mem_of_getElem? (i := 731) (by decide +kernel), List.mem_of_getElem? (i := 976) (by decide +kernel), List.mem_of_getElem? (i := 977) (by decide +kernel)⟩
theorem lw_p47 : lw_okq (⟨"SwitchRulesModel", "constantOf", "(IJ)I"⟩, 56) := ⟨⟨by decide +kernel, by decide +kernel⟩, List.mem_of_getElem? (i := 731) (by decide +kernel), List.mem_of_getElem? (i := 980) (by decide +kernel), List.mem_of_getElem? (i := 981) (by decide +kernel)⟩
def lw_privs_3 : List (MethodName × Nat) := [(⟨"SwitchRules$Judge", "useName", "()V"⟩, 11), (⟨"SwitchRules$Judge", "body", "()V"⟩, 11), (⟨"SwitchRules$Table", "put", "(II)V"⟩, 4), (⟨"SwitchRules$Runner", "addToTrace", "(I)V"⟩, 5), (⟨"SwitchRulesModel", "next", "()V"⟩, 56), (⟨"SwitchRulesModel", "octet", "(I)I"⟩, 56), (⟨"SwitchRulesModel", "nextName", "()V"⟩, 56), (⟨"SwitchRulesModel", "nextNumber", "()V"⟩, 56), (⟨"SwitchRulesModel", "nextText", "()V"⟩, 56), (⟨"SwitchRulesModel", "isWord", "(I)Z"⟩, 56), (⟨"SwitchRulesModel", "readEnum", "()V"⟩, 56), (⟨"SwitchRulesModel", "cannot", "()V"⟩, 56), (⟨"SwitchRulesModel", "wrong", "(I)V"⟩, 56), (⟨"SwitchRulesModel", "wantsSign", "(I)V"⟩, 56), (⟨"SwitchRulesModel", "isSign", "(I)Z"⟩, 56), (⟨"SwitchRulesModel", "constantOf", "(IJ)I"⟩, 56)]
theorem lw_r3 : ∀ q ∈ lw_privs_3, lw_okq q := List.forall_mem_cons.mpr ⟨lw_p32, List.forall_mem_cons.mpr ⟨lw_p33, List.forall_mem_cons.mpr ⟨lw_p34, List.forall_mem_cons.mpr ⟨lw_p35, List.forall_mem_cons.mpr ⟨lw_p36, List.forall_mem_cons.mpr ⟨lw_p37, List.forall_mem_cons.mpr ⟨lw_p38, List.forall_mem_cons.mpr ⟨lw_p39, List.forall_mem_cons.mpr ⟨lw_p40, List.forall_mem_cons.mpr ⟨lw_p41, List.forall_mem_cons.mpr ⟨lw_p42, List.forall_mem_cons.mpr ⟨lw_p43, List.forall_mem_cons.mpr ⟨lw_p44, List.forall_mem_cons.mpr ⟨lw_p45, List.forall_mem_cons.mpr ⟨lw_p46, List.forall_mem_cons.mpr ⟨lw_p47, fun _ h => absurd h List.not_mem_nil⟩⟩⟩⟩⟩⟩⟩⟩⟩⟩⟩⟩⟩⟩⟩⟩
theorem lw_p48 : lw_okq (⟨"SwitchRulesModel", "readHead", "()V"⟩, 56) := ⟨⟨by decide +kernel, by decide +kernel⟩, List.mem_of_getElem? (i := 731) (by decide +kernel), List.mem_of_getElem? (i := 984) (by decide +kernel), List.mem_of_getElem? (i := 985) (by decide +kernel)⟩
theorem lw_p49 : lw_okq (⟨"SwitchRulesModel", "readArm", "()V"⟩, 56) := ⟨⟨by decide +kernel, by decide +kernel⟩, List.mem_of_getElem? (i := 731) (by decide +kernel), List.mem_of_getElem? (i := 988) (by decide +kernel), List.mem_of_getElem? (i := 989) (by decide +kernel)⟩
theorem lw_p50 : lw_okq (⟨"SwitchRulesModel", "readLabel", "()V"⟩, 56) := ⟨⟨by decide +kernel, by decide +kernel⟩, List.mem_of_getElem? (i := 731) (by decide +kernel), List.mem_of_getElem? (i := 992) (by decide +kernel), List.mem_of_getElem? (i := 993) (by decide +kernel)⟩
theorem lw_p51 : lw_okq (⟨"SwitchRulesModel", "signed", "()I"⟩, 56) := ⟨⟨by decide +kernel, by decide +kernel⟩, List.mem_of_getElem? (i := 731) (by decide +kernel), List.mem_of_getElem? (i := 996) (by decide +kernel), List.mem_of_getElem? (i := 997) (by decide +kernel)⟩
theorem lw_p52 : lw_okq (⟨"SwitchRulesModel", "number", "()I"⟩, 56) := ⟨⟨by decide +kernel, by decide +kernel⟩, List.mem_of_getElem? (i := 731) (by decide +kernel), List.mem_of_getElem? (i := 1000) (by decide +kernel), List.mem_of_getElem? (i := 1001) (by decide +kernel)⟩
theorem lw_p53 : lw_okq (⟨"SwitchRulesModel", "isOther", "(IJI)Z"⟩, 56) := ⟨⟨by decide +kernel, by decide +kernel⟩, List.mem_of_getElem? (i := 731) (by decide +kernel), List.mem_of_getElem? (i := 1008) (by decide +kernel), List.mem_of_getElem? (i := 1009) (by decide +kernel)⟩
theorem lw_p54 : lw_okq (⟨"SwitchRulesModel", "wrongAt", "(II)V"⟩, 56) := ⟨⟨by decide +kernel, by decide +kernel⟩, List.mem_of_getElem? (i := 731) (by decide +kernel), List.mem_of_getElem? (i := 1012) (by decide +kernel), List.mem_of_getElem? (i := 1013) (by decide +kernel)⟩
theorem lw_p55 : lw_okq (⟨"SwitchRulesModel", "readOld", "()V"⟩, 56) := ⟨⟨by decide +kernel, by decide +kernel⟩, List.mem_of_getElem? (i := 731) (by decide +kernel), List.mem_of_getElem? (i := 1016) (by decide +kernel), List.mem_of_getElem? (i := 1017) (by decide +kernel)⟩
theorem lw_p56 : lw_okq (⟨"SwitchRulesModel", "push", "(I)V"⟩, 56) := ⟨⟨by decide +kernel, by decide +kernel⟩, List.mem_of_getElem? (i := 731) (by decide +kernel), List.mem_of_getElem? (i := 1020) (by decide +kernel), List.mem_of_getElem? (i := 1021) (by decide +kernel)⟩
theorem lw_p57 : lw_okq (⟨"SwitchRulesModel", "readStmts", "(I)V"⟩, 56) := ⟨⟨by decide +kernel, by decide +kernel⟩, List.mem_of_getElem? (i := 731) (by decide +kernel), List.mem_of_getElem? (i := 1024) (by decide +kernel), List.mem_of_getElem? (i := 1025) (by decide +kernel)⟩
theorem lw_p58 : lw_okq (⟨"SwitchRulesModel", "endBlock", "()V"⟩, 56) := ⟨⟨by decide +kernel, by decide +kernel⟩, List.mem_of_getElem? (i := 731) (by decide +kernel), List.mem_of_getElem? (i := 1028) (by decide +kernel), List.mem_of_getElem? (i := 1029) (by decide +kernel)⟩
theorem lw_p59 : lw_okq (⟨"SwitchRulesModel", "pop", "()V"⟩, 56) := ⟨⟨by decide +kernel, by decide +kernel⟩, List.mem_of_getElem? (i := 731) (by decide +kernel), List.mem_of_getElem? (i := 1032) (by decide +kernel), List.mem_of_getElem? (i := 1033) (by decide +kernel)⟩
theorem lw_p60 : lw_okq (⟨"SwitchRulesModel", "through", "(Z)V"⟩, 56) := ⟨⟨by decide +kernel, by decide +kernel⟩, List.mem_of_getElem? (i := 731) (by decide +kernel), List.mem_of_getElem? (i := 1036) (by decide +kernel), List.mem_of_getElem? (i := 1037) (by decide +kernel)⟩
theorem lw_p61 : lw_okq (⟨"SwitchRulesModel", "emit", "(III)I"⟩, 56) := ⟨⟨by decide +kernel, by decide +kernel⟩, List.mem_of_getElem? (i := 731) (by decide +kernel), List.mem_of_getElem? (i := 1040) (by decide +kernel), List.mem_of_getElem? (i := 1041) (by decide +kernel)⟩
theorem lw_p62 : lw_okq (⟨"SwitchRulesModel", "stmt", "()V"⟩, 56) := ⟨⟨by decide +kernel, by decide +kernel⟩, List.mem_of_getElem? (i := 731) (by decide +kernel), List.mem_of_getElem? (i := 1044) (by decide +kernel), List.mem_of_getElem? (i := 1045) (by decide +kernel)⟩
theorem lw_p63 : lw_okq (⟨"SwitchRulesModel", "begin", "()V"⟩, 56) := ⟨⟨by decide +kernel, by decide +kernel⟩, List.mem_of_getElem? (i := 731) (by decide +kernel), List.mem_of_getElem? (i := 1048) (by decide +kernel), List.mem_of_getElem? (i := 1049) (by decide +kernel)⟩
def lw_privs_4 : List (MethodName × Nat) := [(⟨"SwitchRulesModel", "readHead", "()V"⟩, 56), (⟨"SwitchRulesModel", "readArm", "()V"⟩, 56), (⟨"SwitchRulesModel", "readLabel", "()V"⟩, 56), (⟨"SwitchRulesModel", "signed", "()I"⟩, 56), (⟨"SwitchRulesModel", "number", "()I"⟩, 56), (⟨"SwitchRulesModel", "isOther", "(IJI)Z"⟩, 56), (⟨"SwitchRulesModel", "wrongAt", "(II)V"⟩, 56), (⟨"SwitchRulesModel", "readOld", "()V"⟩, 56), (⟨"SwitchRulesModel", "push", "(I)V"⟩, 56), (⟨"SwitchRulesModel", "readStmts", "(I)V"⟩, 56), (⟨"SwitchRulesModel", "endBlock", "()V"⟩, 56), (⟨"SwitchRulesModel", "pop", "()V"⟩, 56), (⟨"SwitchRulesModel", "through", "(Z)V"⟩, 56), (⟨"SwitchRulesModel", "emit", "(III)I"⟩, 56), (⟨"SwitchRulesModel", "stmt", "()V"⟩, 56), (⟨"SwitchRulesModel", "begin", "()V"⟩, 56)]
theorem lw_r4 : ∀ q ∈ lw_privs_4, lw_okq q := List.forall_mem_cons.mpr ⟨lw_p48, List.forall_mem_cons.mpr ⟨lw_p49, List.forall_mem_cons.mpr ⟨lw_p50, List.forall_mem_cons.mpr ⟨lw_p51, List.forall_mem_cons.mpr ⟨lw_p52, List.forall_mem_cons.mpr ⟨lw_p53, List.forall_mem_cons.mpr ⟨lw_p54, List.forall_mem_cons.mpr ⟨lw_p55, List.forall_mem_cons.mpr ⟨lw_p56, List.forall_mem_cons.mpr ⟨lw_p57, List.forall_mem_cons.mpr ⟨lw_p58, List.forall_mem_cons.mpr ⟨lw_p59, List.forall_mem_cons.mpr ⟨lw_p60, List.forall_mem_cons.mpr ⟨lw_p61, List.forall_mem_cons.mpr ⟨lw_p62, List.forall_mem_cons.mpr ⟨lw_p63, fun _ h => absurd h List.not_mem_nil⟩⟩⟩⟩⟩⟩⟩⟩⟩⟩⟩⟩⟩⟩⟩⟩
theorem lw_p64 : lw_okq (⟨"SwitchRulesModel", "isList", "()Z"⟩, 56) := ⟨⟨by decide +kernel, by decide +kernel⟩, List.mem_of_getElem? (i := 731) (by decide +kernel), List.mem_of_getElem? (i := 1052) (by decide +kernel), List.mem_of_getElem? (i := 1053) (by decide +kernel)⟩
theorem lw_p65 : lw_okq (⟨"SwitchRulesModel", "let", "()V"⟩, 56) := ⟨⟨by decide +kernel, by decide +kernel⟩, List.mem_of_getElem? (i := 731) (by decide +kernel), List.mem_of_getElem? (i := 1056) (by decide +kernel), List.mem_of_getElem? (i := 1057) (by decide +kernel)⟩
theorem lw_p66 : lw_okq (⟨"SwitchRulesModel", "inScope", "(J)I"⟩, 56) := ⟨⟨by decide +kernel, by decide +kernel⟩, List.mem_of_getElem? (i := 731) (by decide +kernel), List.mem_of_getElem? (i := 1060) (by decide +kernel), List.mem_of_getElem? (i := 1061) (by decide +kernel)⟩
theorem lw_p67 : lw_okq (⟨"SwitchRulesModel", "yieldStmt", "()V"⟩, 56) := ⟨⟨by decide +kernel, by decide +kernel⟩, List.mem_of_getElem? (i := 731) (by decide +kernel), List.mem_of_getElem? (i := 1064) (by decide +kernel), List.mem_of_getElem? (i := 1065) (by decide +kernel)⟩
theorem lw_p68 : lw_okq (⟨"SwitchRulesModel", "dead", "()V"⟩, 56) := ⟨⟨by decide +kernel, by decide +kernel⟩, List.mem_of_getElem? (i := 731) (by decide +kernel), List.mem_of_getElem? (i := 1068) (by decide +kernel), List.mem_of_getElem? (i := 1069) (by decide +kernel)⟩
theorem lw_p69 : lw_okq (⟨"SwitchRulesModel", "isSimple", "()Z"⟩, 56) := ⟨⟨by decide +kernel, by decide +kernel⟩, List.mem_of_getElem? (i := 731) (by decide +kernel), List.mem_of_getElem? (i := 1072) (by decide +kernel), List.mem_of_getElem? (i := 1073) (by decide +kernel)⟩
theorem lw_p70 : lw_okq (⟨"SwitchRulesModel", "simple", "()V"⟩, 56) := ⟨⟨by decide +kernel, by decide +kernel⟩, List.mem_of_getElem? (i := 731) (by decide +kernel), List.mem_of_getElem? (i := 1076) (by decide +kernel), List.mem_of_getElem? (i := 1077) (by decide +kernel)⟩
theorem lw_p71 : lw_okq (⟨"SwitchRulesModel", "use", "()V"⟩, 56) := ⟨⟨by decide +kernel, by decide +kernel⟩, List.mem_of_getElem? (i := 731) (by decide +kernel), List.mem_of_getElem? (i := 1080) (by decide +kernel), List.mem_of_getElem? (i := 1081) (by decide +kernel)⟩
theorem lw_p72 : lw_okq (⟨"SwitchRulesModel", "readBody", "()V"⟩, 56) := ⟨⟨by decide +kernel, by decide +kernel⟩, List.mem_of_getElem? (i := 731) (by decide +kernel), List.mem_of_getElem? (i := 1084) (by decide +kernel), List.mem_of_getElem? (i := 1085) (by decide +kernel)⟩
theorem lw_p73 : lw_okq (⟨"SwitchRulesModel", "emitEnd", "()V"⟩, 56) := ⟨⟨by decide +kernel, by decide +kernel⟩, List.mem_of_getElem? (i := 731) (by decide +kernel), List.mem_of_getElem? (i := 1088) (by decide +kernel), List.mem_of_getElem? (i := 1089) (by decide +kernel)⟩
theorem lw_p74 : lw_okq (⟨"SwitchRulesModel", "findKeys", "()V"⟩, 56) := ⟨⟨by decide +kernel, by decide +kernel⟩, List.mem_of_getElem? (i := 731) (by decide +kernel), List.mem_of_getElem? (i := 1092) (by decide +kernel), List.mem_of_getElem? (i := 1093) (by decide +kernel)⟩
theorem lw_p75 : lw_okq (⟨"SwitchRulesModel", "armFor", "(I)I"⟩, 56) := ⟨⟨by decide +kernel, by decide +kernel⟩, List.mem_of_getElem? (i := 731) (by decide +kernel), List.mem_of_getElem? (i := 1112) (by decide +kernel), List.mem_of_getElem? (i := 1113) (by decide +kernel)⟩
theorem lw_p76 : lw_okq (⟨"SwitchRulesModel", "isTextAt", "(I)Z"⟩, 56) := ⟨⟨by decide +kernel, by decide +kernel⟩, List.mem_of_getElem? (i := 731) (by decide +kernel), List.mem_of_getElem? (i := 1116) (by decide +kernel), List.mem_of_getElem? (i := 1117) (by decide +kernel)⟩
def lw_privs_5 : List (MethodName × Nat) := [(⟨"SwitchRulesModel", "isList", "()Z"⟩, 56), (⟨"SwitchRulesModel", "let", "()V"⟩, 56), (⟨"SwitchRulesModel", "inScope", "(J)I"⟩, 56), (⟨"SwitchRulesModel", "yieldStmt", "()V"⟩, 56), (⟨"SwitchRulesModel", "dead", "()V"⟩, 56), (⟨"SwitchRulesModel", "isSimple", "()Z"⟩, 56), (⟨"SwitchRulesModel", "simple", "()V"⟩, 56), (⟨"SwitchRulesModel", "use", "()V"⟩, 56), (⟨"SwitchRulesModel", "readBody", "()V"⟩, 56), (⟨"SwitchRulesModel", "emitEnd", "()V"⟩, 56), (⟨"SwitchRulesModel", "findKeys", "()V"⟩, 56), (⟨"SwitchRulesModel", "armFor", "(I)I"⟩, 56), (⟨"SwitchRulesModel", "isTextAt", "(I)Z"⟩, 56)]
theorem lw_r5 : ∀ q ∈ lw_privs_5, lw_okq q := List.forall_mem_cons.mpr ⟨lw_p64, List.forall_mem_cons.mpr ⟨lw_p65, List.forall_mem_cons.mpr ⟨lw_p66, List.forall_mem_cons.mpr ⟨lw_p67, List.forall_mem_cons.mpr ⟨lw_p68, List.forall_mem_cons.mpr ⟨lw_p69, List.forall_mem_cons.mpr ⟨lw_p70, List.forall_mem_cons.mpr ⟨lw_p71, List.forall_mem_cons.mpr ⟨lw_p72, List.forall_mem_cons.mpr ⟨lw_p73, List.forall_mem_cons.mpr ⟨lw_p74, List.forall_mem_cons.mpr ⟨lw_p75, List.forall_mem_cons.mpr ⟨lw_p76, fun _ h => absurd h List.not_mem_nil⟩⟩⟩⟩⟩⟩⟩⟩⟩⟩⟩⟩⟩
def lw_privs : List (MethodName × Nat) := lw_privs_1 ++ (lw_privs_2 ++ (lw_privs_3 ++ (lw_privs_4 ++ (lw_privs_5))))
def lw_tbl : List Cond := k2_sels lw_privs ++ tables_1
theorem lw_privs_ok : ∀ q ∈ lw_privs, lw_okq q := by
  show ∀ q ∈ lw_privs_1 ++ (lw_privs_2 ++ (lw_privs_3 ++ (lw_privs_4 ++ (lw_privs_5)))), lw_okq q
  exact List.forall_mem_append.mpr ⟨lw_r1, List.forall_mem_append.mpr ⟨lw_r2, List.forall_mem_append.mpr ⟨lw_r3, List.forall_mem_append.mpr ⟨lw_r4, lw_r5⟩⟩⟩⟩
/-! ===== BEGIN words of one list among another's, by their places ===== -/
theorem goodIn_r {big : List Cond} (ws : List Cond) (ps : List Nat) (hp : ws = ps.filterMap (fun i => big[i]?)) (h : ws.all goodWord = true) : GoodIn big ws := by
  intro w hw
  have h1 := List.all_eq_true.mp h w hw
  rw [hp] at hw
  obtain ⟨i, -, hi⟩ := List.mem_filterMap.mp hw
  have hm : w ∈ big := by first | exact List.mem_of_getElem? hi | exact List.getElem?_mem hi
  exact ⟨hm, good_of_word h1⟩
theorem goodIn_app {big a b : List Cond} (ha : GoodIn big a) (hb : GoodIn big b) : GoodIn big (a ++ b) := fun w h => (List.mem_append.mp h).elim (ha w) (hb w)
theorem goodIn_ca {big a b : List Cond} {c : Cond} (ha : GoodIn big (c :: a)) (hb : GoodIn big b) : GoodIn big (c :: (a ++ b)) := fun w h => (List.mem_cons.mp h).elim (fun e => ha w (List.mem_cons.mpr (Or.inl e))) (fun h => (List.mem_append.mp h).elim (fun h => ha w (List.mem_cons.mpr (Or.inr h))) (hb w))
theorem goodIn_sub {big ws : List Cond} (hm : ∀ w ∈ ws, w ∈ big) (h : ws.all goodWord = true) : GoodIn big ws := fun w hw => ⟨hm w hw, good_of_word (List.all_eq_true.mp h w hw)⟩
/-! ===== END ===== -/

/-! ===== BEGIN printed: names, fields, word lists, decode rows ===== -/
def RX0 : String := "SwitchRules$Code"
def TX0 : u_T := fun k => match k with
  | 0 => ("SwitchRules$Code", "kinds", "[B", true)
  | 1 => ("SwitchRules$Code", "firsts", "[I", true)
  | 2 => ("SwitchRules$Code", "seconds", "[I", true)
  | _ => ("SwitchRules$Code", "length", "I", false)
def tyX0 : Nat → FieldType := fun k => match k with
  | 0 => .array .byte
  | 1 => .array .int
  | 2 => .array .int
  | _ => .int
abbrev wsX00 : List Cond := u_ws RX0 TX0 4
theorem nmX0 : ∀ a, a < 4 → ∀ b, b < 4 → a ≠ b → (TX0 a).2.1 ≠ (TX0 b).2.1 := by decide +kernel
theorem tyX0_ok : ∀ k, k < 4 → parseFieldDescriptor (TX0 k).2.2.1 = some (tyX0 k) := by decide +kernel
abbrev cX0_init : ByteArray := prog_2_method_1_code
def yX0_init : MethodName := ⟨RX0, "<init>", "()V"⟩
abbrev cX0_step : ByteArray := prog_2_method_2_code
def yX0_step : MethodName := ⟨RX0, "step", "(III)V"⟩
abbrev cX0_leadHere : ByteArray := prog_2_method_3_code
def yX0_leadHere : MethodName := ⟨RX0, "leadHere", "(I)V"⟩
def RX1 : String := "SwitchRules$Judge"
def TX1 : u_T := fun k => match k with
  | 0 => ("SwitchRules$Judge", "tokens", "LSwitchRules$Tokens;", true)
  | 1 => ("SwitchRules$Judge", "unit", "LSwitchRules$Unit;", true)
  | 2 => ("SwitchRules$Judge", "scope", "LSwitchRules$Scope;", true)
  | 3 => ("SwitchRules$Judge", "enumerationNames", "[J", true)
  | 4 => ("SwitchRules$Judge", "constantCounts", "[I", true)
  | 5 => ("SwitchRules$Judge", "constantNames", "[J", true)
  | 6 => ("SwitchRules$Judge", "enumerationCount", "I", false)
  | 7 => ("SwitchRules$Judge", "chosen", "I", false)
  | 8 => ("SwitchRules$Judge", "at", "I", false)
  | 9 => ("SwitchRules$Judge", "fault", "I", false)
  | _ => ("SwitchRules$Judge", "place", "I", false)
def tyX1 : Nat → FieldType := fun k => match k with
  | 0 => .object "SwitchRules$Tokens"
  | 1 => .object "SwitchRules$Unit"
  | 2 => .object "SwitchRules$Scope"
  | 3 => .array .long
  | 4 => .array .int
  | 5 => .array .long
  | 6 => .int
  | 7 => .int
  | 8 => .int
  | 9 => .int
  | _ => .int
abbrev wsX10 : List Cond := u_ws RX1 TX1 11
theorem nmX1 : ∀ a, a < 11 → ∀ b, b < 11 → a ≠ b → (TX1 a).2.1 ≠ (TX1 b).2.1 := by decide +kernel
theorem tyX1_ok : ∀ k, k < 11 → parseFieldDescriptor (TX1 k).2.2.1 = some (tyX1 k) := by decide +kernel
abbrev cX1_init : ByteArray := prog_3_method_1_code
def yX1_init : MethodName := ⟨RX1, "<init>", "(LSwitchRules$Tokens;LSwitchRules$Unit;)V"⟩
abbrev cX1_begin : ByteArray := prog_3_method_2_code
def yX1_begin : MethodName := ⟨RX1, "begin", "()V"⟩
abbrev cX1_kind : ByteArray := prog_3_method_3_code
def yX1_kind : MethodName := ⟨RX1, "kind", "()I"⟩
abbrev cX1_tokenValue : ByteArray := prog_3_method_4_code
def yX1_tokenValue : MethodName := ⟨RX1, "tokenValue", "()J"⟩
abbrev cX1_fail : ByteArray := prog_3_method_5_code
def yX1_fail : MethodName := ⟨RX1, "fail", "(II)V"⟩
abbrev cX1_expect : ByteArray := prog_3_method_6_code
def yX1_expect : MethodName := ⟨RX1, "expect", "(I)V"⟩
abbrev cX1_enumerations : ByteArray := prog_3_method_7_code
def yX1_enumerations : MethodName := ⟨RX1, "enumerations", "()V"⟩
abbrev cX1_enumeration : ByteArray := prog_3_method_8_code
def yX1_enumeration : MethodName := ⟨RX1, "enumeration", "()V"⟩
abbrev cX1_constants : ByteArray := prog_3_method_9_code
def yX1_constants : MethodName := ⟨RX1, "constants", "(I)V"⟩
abbrev cX1_constant : ByteArray := prog_3_method_10_code
def yX1_constant : MethodName := ⟨RX1, "constant", "(I)V"⟩
abbrev cX1_findEnumeration : ByteArray := prog_3_method_11_code
def yX1_findEnumeration : MethodName := ⟨RX1, "findEnumeration", "(J)I"⟩
abbrev cX1_constantCount : ByteArray := prog_3_method_12_code
def yX1_constantCount : MethodName := ⟨RX1, "constantCount", "(I)I"⟩
abbrev cX1_findConstant : ByteArray := prog_3_method_13_code
def yX1_findConstant : MethodName := ⟨RX1, "findConstant", "(IJ)I"⟩
abbrev cX1_selector : ByteArray := prog_3_method_14_code
def yX1_selector : MethodName := ⟨RX1, "selector", "()V"⟩
abbrev cX1_chooseEnumeration : ByteArray := prog_3_method_15_code
def yX1_chooseEnumeration : MethodName := ⟨RX1, "chooseEnumeration", "()V"⟩
abbrev cX1_arms : ByteArray := prog_3_method_16_code
def yX1_arms : MethodName := ⟨RX1, "arms", "()V"⟩
abbrev cX1_arm : ByteArray := prog_3_method_17_code
def yX1_arm : MethodName := ⟨RX1, "arm", "(I)V"⟩
abbrev cX1_labels : ByteArray := prog_3_method_18_code
def yX1_labels : MethodName := ⟨RX1, "labels", "()V"⟩
abbrev cX1_oneLabel : ByteArray := prog_3_method_19_code
def yX1_oneLabel : MethodName := ⟨RX1, "oneLabel", "()V"⟩
abbrev cX1_body : ByteArray := prog_3_method_20_code
def yX1_body : MethodName := ⟨RX1, "body", "()V"⟩
abbrev cX1_stmts : ByteArray := prog_3_method_21_code
def yX1_stmts : MethodName := ⟨RX1, "stmts", "(I)V"⟩
abbrev cX1_beginsStmt : ByteArray := prog_3_method_22_code
def yX1_beginsStmt : MethodName := ⟨RX1, "beginsStmt", "(I)Z"⟩
abbrev cX1_openStmt : ByteArray := prog_3_method_23_code
def yX1_openStmt : MethodName := ⟨RX1, "openStmt", "(I)V"⟩
abbrev cX1_stmt : ByteArray := prog_3_method_24_code
def yX1_stmt : MethodName := ⟨RX1, "stmt", "(I)V"⟩
abbrev cX1_block : ByteArray := prog_3_method_25_code
def yX1_block : MethodName := ⟨RX1, "block", "(I)V"⟩
abbrev cX1_branches : ByteArray := prog_3_method_26_code
def yX1_branches : MethodName := ⟨RX1, "branches", "(I)V"⟩
abbrev cX1_let : ByteArray := prog_3_method_27_code
def yX1_let : MethodName := ⟨RX1, "let", "()V"⟩
abbrev cX1_setName : ByteArray := prog_3_method_28_code
def yX1_setName : MethodName := ⟨RX1, "setName", "(II)V"⟩
abbrev cX1_simple : ByteArray := prog_3_method_29_code
def yX1_simple : MethodName := ⟨RX1, "simple", "()V"⟩
abbrev cX1_useName : ByteArray := prog_3_method_30_code
def yX1_useName : MethodName := ⟨RX1, "useName", "()V"⟩
abbrev cX1_yieldNumber : ByteArray := prog_3_method_31_code
def yX1_yieldNumber : MethodName := ⟨RX1, "yieldNumber", "()V"⟩
abbrev cX1_leave : ByteArray := prog_3_method_32_code
def yX1_leave : MethodName := ⟨RX1, "leave", "(II)V"⟩
abbrev cX1_number : ByteArray := prog_3_method_33_code
def yX1_number : MethodName := ⟨RX1, "number", "()I"⟩
abbrev cX1_end : ByteArray := prog_3_method_34_code
def yX1_end : MethodName := ⟨RX1, "end", "()V"⟩
def RX2 : String := "SwitchRules$Octets"
def TX2 : u_T := fun k => match k with
  | 0 => ("SwitchRules$Octets", "octets", "[C", true)
  | _ => ("SwitchRules$Octets", "length", "I", false)
def tyX2 : Nat → FieldType := fun k => match k with
  | 0 => .array .char
  | _ => .int
abbrev wsX20 : List Cond := u_ws RX2 TX2 2
theorem nmX2 : ∀ a, a < 2 → ∀ b, b < 2 → a ≠ b → (TX2 a).2.1 ≠ (TX2 b).2.1 := by decide +kernel
theorem tyX2_ok : ∀ k, k < 2 → parseFieldDescriptor (TX2 k).2.2.1 = some (tyX2 k) := by decide +kernel
abbrev cX2_init : ByteArray := prog_4_method_1_code
def yX2_init : MethodName := ⟨RX2, "<init>", "()V"⟩
abbrev cX2_at : ByteArray := prog_4_method_2_code
def yX2_at : MethodName := ⟨RX2, "at", "(I)I"⟩
abbrev cX2_append : ByteArray := prog_4_method_3_code
def yX2_append : MethodName := ⟨RX2, "append", "(JI)Z"⟩
abbrev cX2_packed : ByteArray := prog_4_method_4_code
def yX2_packed : MethodName := ⟨RX2, "packed", "(II)J"⟩
abbrev cX2_whole : ByteArray := prog_4_method_5_code
def yX2_whole : MethodName := ⟨RX2, "whole", "()J"⟩
abbrev cX2_wholeHash : ByteArray := prog_4_method_6_code
def yX2_wholeHash : MethodName := ⟨RX2, "wholeHash", "()I"⟩
def RX3 : String := "SwitchRules$Runner"
def TX3 : u_T := fun k => match k with
  | 0 => ("SwitchRules$Runner", "trace", "[I", true)
  | 1 => ("SwitchRules$Runner", "names", "[I", true)
  | 2 => ("SwitchRules$Runner", "traceLength", "I", false)
  | 3 => ("SwitchRules$Runner", "result", "I", false)
  | _ => ("SwitchRules$Runner", "hasRun", "Z", false)
def tyX3 : Nat → FieldType := fun k => match k with
  | 0 => .array .int
  | 1 => .array .int
  | 2 => .int
  | 3 => .int
  | _ => .boolean
abbrev wsX30 : List Cond := u_ws RX3 TX3 5
theorem nmX3 : ∀ a, a < 5 → ∀ b, b < 5 → a ≠ b → (TX3 a).2.1 ≠ (TX3 b).2.1 := by decide +kernel
theorem tyX3_ok : ∀ k, k < 5 → parseFieldDescriptor (TX3 k).2.2.1 = some (tyX3 k) := by decide +kernel
abbrev cX3_init : ByteArray := prog_5_method_1_code
def yX3_init : MethodName := ⟨RX3, "<init>", "()V"⟩
abbrev cX3_forget : ByteArray := prog_5_method_2_code
def yX3_forget : MethodName := ⟨RX3, "forget", "()V"⟩
abbrev cX3_begin : ByteArray := prog_5_method_3_code
def yX3_begin : MethodName := ⟨RX3, "begin", "()V"⟩
abbrev cX3_go : ByteArray := prog_5_method_4_code
def yX3_go : MethodName := ⟨RX3, "go", "(LSwitchRules$Code;II)I"⟩
abbrev cX3_isName : ByteArray := prog_5_method_5_code
def yX3_isName : MethodName := ⟨RX3, "isName", "(I)Z"⟩
abbrev cX3_addToTrace : ByteArray := prog_5_method_6_code
def yX3_addToTrace : MethodName := ⟨RX3, "addToTrace", "(I)V"⟩
def RX4 : String := "SwitchRules$Scope"
def TX4 : u_T := fun k => match k with
  | 0 => ("SwitchRules$Scope", "names", "[J", true)
  | 1 => ("SwitchRules$Scope", "count", "I", false)
  | _ => ("SwitchRules$Scope", "set", "I", false)
def tyX4 : Nat → FieldType := fun k => match k with
  | 0 => .array .long
  | 1 => .int
  | _ => .int
abbrev wsX40 : List Cond := u_ws RX4 TX4 3
theorem nmX4 : ∀ a, a < 3 → ∀ b, b < 3 → a ≠ b → (TX4 a).2.1 ≠ (TX4 b).2.1 := by decide +kernel
theorem tyX4_ok : ∀ k, k < 3 → parseFieldDescriptor (TX4 k).2.2.1 = some (tyX4 k) := by decide +kernel
abbrev cX4_init : ByteArray := prog_6_method_1_code
def yX4_init : MethodName := ⟨RX4, "<init>", "()V"⟩
abbrev cX4_find : ByteArray := prog_6_method_2_code
def yX4_find : MethodName := ⟨RX4, "find", "(J)I"⟩
abbrev cX4_add : ByteArray := prog_6_method_3_code
def yX4_add : MethodName := ⟨RX4, "add", "(J)I"⟩
abbrev cX4_shrink : ByteArray := prog_6_method_4_code
def yX4_shrink : MethodName := ⟨RX4, "shrink", "(I)V"⟩
abbrev cX4_isSet : ByteArray := prog_6_method_5_code
def yX4_isSet : MethodName := ⟨RX4, "isSet", "(I)Z"⟩
abbrev cX4_makeSet : ByteArray := prog_6_method_6_code
def yX4_makeSet : MethodName := ⟨RX4, "makeSet", "(I)V"⟩
abbrev cX4_isReached : ByteArray := prog_6_method_7_code
def yX4_isReached : MethodName := ⟨RX4, "isReached", "()Z"⟩
def RX5 : String := "SwitchRules$Table"
def TX5 : u_T := fun k => match k with
  | 0 => ("SwitchRules$Table", "keys", "[I", true)
  | 1 => ("SwitchRules$Table", "targets", "[I", true)
  | 2 => ("SwitchRules$Table", "alikes", "[I", true)
  | _ => ("SwitchRules$Table", "count", "I", false)
def tyX5 : Nat → FieldType := fun k => match k with
  | 0 => .array .int
  | 1 => .array .int
  | 2 => .array .int
  | _ => .int
abbrev wsX50 : List Cond := u_ws RX5 TX5 4
theorem nmX5 : ∀ a, a < 4 → ∀ b, b < 4 → a ≠ b → (TX5 a).2.1 ≠ (TX5 b).2.1 := by decide +kernel
theorem tyX5_ok : ∀ k, k < 4 → parseFieldDescriptor (TX5 k).2.2.1 = some (tyX5 k) := by decide +kernel
abbrev cX5_init : ByteArray := prog_7_method_1_code
def yX5_init : MethodName := ⟨RX5, "<init>", "()V"⟩
abbrev cX5_make : ByteArray := prog_7_method_2_code
def yX5_make : MethodName := ⟨RX5, "make", "(LSwitchRules$Unit;)V"⟩
abbrev cX5_put : ByteArray := prog_7_method_3_code
def yX5_put : MethodName := ⟨RX5, "put", "(II)V"⟩
abbrev cX5_has : ByteArray := prog_7_method_4_code
def yX5_has : MethodName := ⟨RX5, "has", "(I)Z"⟩
abbrev cX5_isDense : ByteArray := prog_7_method_5_code
def yX5_isDense : MethodName := ⟨RX5, "isDense", "()Z"⟩
def RX6 : String := "SwitchRules$Tokens"
def TX6 : u_T := fun k => match k with
  | 0 => ("SwitchRules$Tokens", "kinds", "[B", true)
  | 1 => ("SwitchRules$Tokens", "places", "[S", true)
  | 2 => ("SwitchRules$Tokens", "values", "[J", true)
  | 3 => ("SwitchRules$Tokens", "words", "[J", true)
  | _ => ("SwitchRules$Tokens", "count", "I", false)
def tyX6 : Nat → FieldType := fun k => match k with
  | 0 => .array .byte
  | 1 => .array .short
  | 2 => .array .long
  | 3 => .array .long
  | _ => .int
abbrev wsX60 : List Cond := u_ws RX6 TX6 5
theorem nmX6 : ∀ a, a < 5 → ∀ b, b < 5 → a ≠ b → (TX6 a).2.1 ≠ (TX6 b).2.1 := by decide +kernel
theorem tyX6_ok : ∀ k, k < 5 → parseFieldDescriptor (TX6 k).2.2.1 = some (tyX6 k) := by decide +kernel
abbrev cX6_init : ByteArray := prog_8_method_1_code
def yX6_init : MethodName := ⟨RX6, "<init>", "()V"⟩
abbrev cX6_packedWord : ByteArray := prog_8_method_2_code
def yX6_packedWord : MethodName := ⟨RX6, "packedWord", "(Ljava/lang/String;)J"⟩
abbrev cX6_cut : ByteArray := prog_8_method_3_code
def yX6_cut : MethodName := ⟨RX6, "cut", "(LSwitchRules$Octets;)V"⟩
abbrev cX6_behindBlanks : ByteArray := prog_8_method_4_code
def yX6_behindBlanks : MethodName := ⟨RX6, "behindBlanks", "(LSwitchRules$Octets;I)I"⟩
abbrev cX6_cutOne : ByteArray := prog_8_method_5_code
def yX6_cutOne : MethodName := ⟨RX6, "cutOne", "(LSwitchRules$Octets;II)I"⟩
abbrev cX6_cutName : ByteArray := prog_8_method_6_code
def yX6_cutName : MethodName := ⟨RX6, "cutName", "(LSwitchRules$Octets;I)I"⟩
abbrev cX6_nameKind : ByteArray := prog_8_method_7_code
def yX6_nameKind : MethodName := ⟨RX6, "nameKind", "(J)I"⟩
abbrev cX6_cutNumber : ByteArray := prog_8_method_8_code
def yX6_cutNumber : MethodName := ⟨RX6, "cutNumber", "(LSwitchRules$Octets;I)I"⟩
abbrev cX6_cutText : ByteArray := prog_8_method_9_code
def yX6_cutText : MethodName := ⟨RX6, "cutText", "(LSwitchRules$Octets;I)I"⟩
abbrev cX6_isSmall : ByteArray := prog_8_method_10_code
def yX6_isSmall : MethodName := ⟨RX6, "isSmall", "(I)Z"⟩
abbrev cX6_isFigure : ByteArray := prog_8_method_11_code
def yX6_isFigure : MethodName := ⟨RX6, "isFigure", "(I)Z"⟩
abbrev cX6_isTextSign : ByteArray := prog_8_method_12_code
def yX6_isTextSign : MethodName := ⟨RX6, "isTextSign", "(I)Z"⟩
abbrev cX6_signKind : ByteArray := prog_8_method_13_code
def yX6_signKind : MethodName := ⟨RX6, "signKind", "(I)I"⟩
abbrev cX6_keep : ByteArray := prog_8_method_14_code
def yX6_keep : MethodName := ⟨RX6, "keep", "(IIJ)V"⟩
def RX7 : String := "SwitchRules$Unit"
def TX7 : u_T := fun k => match k with
  | 0 => ("SwitchRules$Unit", "there", "Z", false)
  | 1 => ("SwitchRules$Unit", "isValue", "Z", false)
  | 2 => ("SwitchRules$Unit", "sort", "I", false)
  | 3 => ("SwitchRules$Unit", "constants", "I", false)
  | 4 => ("SwitchRules$Unit", "arms", "I", false)
  | 5 => ("SwitchRules$Unit", "labels", "I", false)
  | 6 => ("SwitchRules$Unit", "stmts", "I", false)
  | 7 => ("SwitchRules$Unit", "defaultArm", "I", false)
  | 8 => ("SwitchRules$Unit", "hasOldArms", "Z", false)
  | 9 => ("SwitchRules$Unit", "armStarts", "[I", true)
  | 10 => ("SwitchRules$Unit", "labelArms", "[I", true)
  | 11 => ("SwitchRules$Unit", "labelKeys", "[I", true)
  | 12 => ("SwitchRules$Unit", "labelSigns", "[J", true)
  | _ => ("SwitchRules$Unit", "code", "LSwitchRules$Code;", true)
def tyX7 : Nat → FieldType := fun k => match k with
  | 0 => .boolean
  | 1 => .boolean
  | 2 => .int
  | 3 => .int
  | 4 => .int
  | 5 => .int
  | 6 => .int
  | 7 => .int
  | 8 => .boolean
  | 9 => .array .int
  | 10 => .array .int
  | 11 => .array .int
  | 12 => .array .long
  | _ => .object "SwitchRules$Code"
abbrev wsX70 : List Cond := u_ws RX7 TX7 14
theorem nmX7 : ∀ a, a < 14 → ∀ b, b < 14 → a ≠ b → (TX7 a).2.1 ≠ (TX7 b).2.1 := by decide +kernel
theorem tyX7_ok : ∀ k, k < 14 → parseFieldDescriptor (TX7 k).2.2.1 = some (tyX7 k) := by decide +kernel
abbrev cX7_init : ByteArray := prog_9_method_1_code
def yX7_init : MethodName := ⟨RX7, "<init>", "()V"⟩
abbrev cX7_clear : ByteArray := prog_9_method_2_code
def yX7_clear : MethodName := ⟨RX7, "clear", "()V"⟩
abbrev cX7_addArm : ByteArray := prog_9_method_3_code
def yX7_addArm : MethodName := ⟨RX7, "addArm", "()V"⟩
abbrev cX7_startOf : ByteArray := prog_9_method_4_code
def yX7_startOf : MethodName := ⟨RX7, "startOf", "(I)I"⟩
abbrev cX7_addLabel : ByteArray := prog_9_method_5_code
def yX7_addLabel : MethodName := ⟨RX7, "addLabel", "(J)V"⟩
abbrev cX7_packedHash : ByteArray := prog_9_method_6_code
def yX7_packedHash : MethodName := ⟨RX7, "packedHash", "(J)I"⟩
abbrev cX7_hasLabel : ByteArray := prog_9_method_7_code
def yX7_hasLabel : MethodName := ⟨RX7, "hasLabel", "(J)Z"⟩
abbrev cX7_labelWith : ByteArray := prog_9_method_8_code
def yX7_labelWith : MethodName := ⟨RX7, "labelWith", "(J)I"⟩
abbrev cX7_armFor : ByteArray := prog_9_method_9_code
def yX7_armFor : MethodName := ⟨RX7, "armFor", "(J)I"⟩
abbrev cX7_isExhaustive : ByteArray := prog_9_method_10_code
def yX7_isExhaustive : MethodName := ⟨RX7, "isExhaustive", "()Z"⟩
def RX8 : String := "SwitchRules"
def TX8 : u_T := fun k => match k with
  | 0 => ("SwitchRules", "text", "LSwitchRules$Octets;", true)
  | 1 => ("SwitchRules", "tokens", "LSwitchRules$Tokens;", true)
  | 2 => ("SwitchRules", "unit", "LSwitchRules$Unit;", true)
  | 3 => ("SwitchRules", "judge", "LSwitchRules$Judge;", true)
  | 4 => ("SwitchRules", "table", "LSwitchRules$Table;", true)
  | _ => ("SwitchRules", "runner", "LSwitchRules$Runner;", true)
def tyX8 : Nat → FieldType := fun k => match k with
  | 0 => .object "SwitchRules$Octets"
  | 1 => .object "SwitchRules$Tokens"
  | 2 => .object "SwitchRules$Unit"
  | 3 => .object "SwitchRules$Judge"
  | 4 => .object "SwitchRules$Table"
  | _ => .object "SwitchRules$Runner"
abbrev wsX80 : List Cond := u_ws RX8 TX8 6
theorem nmX8 : ∀ a, a < 6 → ∀ b, b < 6 → a ≠ b → (TX8 a).2.1 ≠ (TX8 b).2.1 := by decide +kernel
theorem tyX8_ok : ∀ k, k < 6 → parseFieldDescriptor (TX8 k).2.2.1 = some (tyX8 k) := by decide +kernel
abbrev cX8_init : ByteArray := prog_1_method_1_code
def yX8_init : MethodName := ⟨RX8, "<init>", "()V"⟩
abbrev cX8_type : ByteArray := prog_1_method_2_code
def yX8_type : MethodName := ⟨RX8, "type", "(JI)I"⟩
abbrev cX8_read : ByteArray := prog_1_method_3_code
def yX8_read : MethodName := ⟨RX8, "read", "()I"⟩
abbrev cX8_place : ByteArray := prog_1_method_4_code
def yX8_place : MethodName := ⟨RX8, "place", "()I"⟩
abbrev cX8_told : ByteArray := prog_1_method_5_code
def yX8_told : MethodName := ⟨RX8, "told", "(I)I"⟩
abbrev cX8_label : ByteArray := prog_1_method_6_code
def yX8_label : MethodName := ⟨RX8, "label", "(II)I"⟩
abbrev cX8_run : ByteArray := prog_1_method_7_code
def yX8_run : MethodName := ⟨RX8, "run", "(II)I"⟩
abbrev cX8_runNone : ByteArray := prog_1_method_8_code
def yX8_runNone : MethodName := ⟨RX8, "runNone", "()I"⟩
abbrev cX8_traced : ByteArray := prog_1_method_9_code
def yX8_traced : MethodName := ⟨RX8, "traced", "()I"⟩
abbrev cX8_trace : ByteArray := prog_1_method_10_code
def yX8_trace : MethodName := ⟨RX8, "trace", "(I)I"⟩
abbrev cX8_value : ByteArray := prog_1_method_11_code
def yX8_value : MethodName := ⟨RX8, "value", "()I"⟩
abbrev cX8_form : ByteArray := prog_1_method_12_code
def yX8_form : MethodName := ⟨RX8, "form", "()I"⟩
abbrev cX8_keys : ByteArray := prog_1_method_13_code
def yX8_keys : MethodName := ⟨RX8, "keys", "()I"⟩
abbrev cX8_key : ByteArray := prog_1_method_14_code
def yX8_key : MethodName := ⟨RX8, "key", "(I)I"⟩
abbrev cX8_target : ByteArray := prog_1_method_15_code
def yX8_target : MethodName := ⟨RX8, "target", "(I)I"⟩
abbrev cX8_alike : ByteArray := prog_1_method_16_code
def yX8_alike : MethodName := ⟨RX8, "alike", "(I)I"⟩
abbrev cX8_hash : ByteArray := prog_1_method_17_code
def yX8_hash : MethodName := ⟨RX8, "hash", "()I"⟩
def RX9 : String := "SwitchRulesModel"
def TX9 : u_T := fun k => match k with
  | 0 => ("SwitchRulesModel", "key", "[J", true)
  | 1 => ("SwitchRulesModel", "text", "[B", true)
  | 2 => ("SwitchRulesModel", "textSize", "I", false)
  | 3 => ("SwitchRulesModel", "pos", "I", false)
  | 4 => ("SwitchRulesModel", "token", "I", false)
  | 5 => ("SwitchRulesModel", "tokenPlace", "I", false)
  | 6 => ("SwitchRulesModel", "tokenName", "J", false)
  | 7 => ("SwitchRulesModel", "tokenValue", "I", false)
  | 8 => ("SwitchRulesModel", "fault", "I", false)
  | 9 => ("SwitchRulesModel", "faultPlace", "I", false)
  | 10 => ("SwitchRulesModel", "lastPlace", "I", false)
  | 11 => ("SwitchRulesModel", "has", "Z", false)
  | 12 => ("SwitchRulesModel", "enums", "I", false)
  | 13 => ("SwitchRulesModel", "enumName", "[J", true)
  | 14 => ("SwitchRulesModel", "constants", "[I", true)
  | 15 => ("SwitchRulesModel", "constantName", "[J", true)
  | 16 => ("SwitchRulesModel", "isValue", "Z", false)
  | 17 => ("SwitchRulesModel", "sort", "I", false)
  | 18 => ("SwitchRulesModel", "selector", "I", false)
  | 19 => ("SwitchRulesModel", "arms", "I", false)
  | 20 => ("SwitchRulesModel", "armAt", "[I", true)
  | 21 => ("SwitchRulesModel", "labels", "I", false)
  | 22 => ("SwitchRulesModel", "labelArm", "[I", true)
  | 23 => ("SwitchRulesModel", "labelNumber", "[I", true)
  | 24 => ("SwitchRulesModel", "labelText", "[J", true)
  | 25 => ("SwitchRulesModel", "labelSize", "[I", true)
  | 26 => ("SwitchRulesModel", "stmts", "I", false)
  | 27 => ("SwitchRulesModel", "defaultArm", "I", false)
  | 28 => ("SwitchRulesModel", "hasOld", "Z", false)
  | 29 => ("SwitchRulesModel", "hasArrow", "Z", false)
  | 30 => ("SwitchRulesModel", "act", "[I", true)
  | 31 => ("SwitchRulesModel", "actA", "[I", true)
  | 32 => ("SwitchRulesModel", "actB", "[I", true)
  | 33 => ("SwitchRulesModel", "acts", "I", false)
  | 34 => ("SwitchRulesModel", "scopeName", "[J", true)
  | 35 => ("SwitchRulesModel", "scope", "I", false)
  | 36 => ("SwitchRulesModel", "set", "I", false)
  | 37 => ("SwitchRulesModel", "open", "[I", true)
  | 38 => ("SwitchRulesModel", "openEnds", "[Z", true)
  | 39 => ("SwitchRulesModel", "openScope", "[I", true)
  | 40 => ("SwitchRulesModel", "openBefore", "[I", true)
  | 41 => ("SwitchRulesModel", "openThen", "[I", true)
  | 42 => ("SwitchRulesModel", "openAct", "[I", true)
  | 43 => ("SwitchRulesModel", "openJump", "[I", true)
  | 44 => ("SwitchRulesModel", "opened", "I", false)
  | 45 => ("SwitchRulesModel", "depth", "I", false)
  | 46 => ("SwitchRulesModel", "lastEnds", "Z", false)
  | 47 => ("SwitchRulesModel", "hasRun", "Z", false)
  | 48 => ("SwitchRulesModel", "ranValue", "I", false)
  | 49 => ("SwitchRulesModel", "traces", "I", false)
  | 50 => ("SwitchRulesModel", "traced", "[I", true)
  | 51 => ("SwitchRulesModel", "names", "[I", true)
  | 52 => ("SwitchRulesModel", "keys", "I", false)
  | 53 => ("SwitchRulesModel", "keyOf", "[I", true)
  | 54 => ("SwitchRulesModel", "targets", "[I", true)
  | _ => ("SwitchRulesModel", "alikes", "[I", true)
def tyX9 : Nat → FieldType := fun k => match k with
  | 0 => .array .long
  | 1 => .array .byte
  | 2 => .int
  | 3 => .int
  | 4 => .int
  | 5 => .int
  | 6 => .long
  | 7 => .int
  | 8 => .int
  | 9 => .int
  | 10 => .int
  | 11 => .boolean
  | 12 => .int
  | 13 => .array .long
  | 14 => .array .int
  | 15 => .array .long
  | 16 => .boolean
  | 17 => .int
  | 18 => .int
  | 19 => .int
  | 20 => .array .int
  | 21 => .int
  | 22 => .array .int
  | 23 => .array .int
  | 24 => .array .long
  | 25 => .array .int
  | 26 => .int
  | 27 => .int
  | 28 => .boolean
  | 29 => .boolean
  | 30 => .array .int
  | 31 => .array .int
  | 32 => .array .int
  | 33 => .int
  | 34 => .array .long
  | 35 => .int
  | 36 => .int
  | 37 => .array .int
  | 38 => .array .boolean
  | 39 => .array .int
  | 40 => .array .int
  | 41 => .array .int
  | 42 => .array .int
  | 43 => .array .int
  | 44 => .int
  | 45 => .int
  | 46 => .boolean
  | 47 => .boolean
  | 48 => .int
  | 49 => .int
  | 50 => .array .int
  | 51 => .array .int
  | 52 => .int
  | 53 => .array .int
  | 54 => .array .int
  | _ => .array .int
abbrev wsX90 : List Cond := u_ws RX9 TX9 56
theorem nmX9 : ∀ a, a < 56 → ∀ b, b < 56 → a ≠ b → (TX9 a).2.1 ≠ (TX9 b).2.1 := by decide +kernel
theorem tyX9_ok : ∀ k, k < 56 → parseFieldDescriptor (TX9 k).2.2.1 = some (tyX9 k) := by decide +kernel
abbrev cX9_init : ByteArray := prog_11_method_1_code
def yX9_init : MethodName := ⟨RX9, "<init>", "()V"⟩
abbrev cX9_type : ByteArray := prog_11_method_2_code
def yX9_type : MethodName := ⟨RX9, "type", "(JI)I"⟩
abbrev cX9_octet : ByteArray := prog_11_method_3_code
def yX9_octet : MethodName := ⟨RX9, "octet", "(I)I"⟩
abbrev cX9_isSmall : ByteArray := prog_11_method_4_code
def yX9_isSmall : MethodName := ⟨RX9, "isSmall", "(I)Z"⟩
abbrev cX9_isFigure : ByteArray := prog_11_method_5_code
def yX9_isFigure : MethodName := ⟨RX9, "isFigure", "(I)Z"⟩
abbrev cX9_next : ByteArray := prog_11_method_6_code
def yX9_next : MethodName := ⟨RX9, "next", "()V"⟩
abbrev cX9_nextName : ByteArray := prog_11_method_7_code
def yX9_nextName : MethodName := ⟨RX9, "nextName", "()V"⟩
abbrev cX9_nextNumber : ByteArray := prog_11_method_8_code
def yX9_nextNumber : MethodName := ⟨RX9, "nextNumber", "()V"⟩
abbrev cX9_nextText : ByteArray := prog_11_method_9_code
def yX9_nextText : MethodName := ⟨RX9, "nextText", "()V"⟩
abbrev cX9_wrong : ByteArray := prog_11_method_10_code
def yX9_wrong : MethodName := ⟨RX9, "wrong", "(I)V"⟩
abbrev cX9_wrongAt : ByteArray := prog_11_method_11_code
def yX9_wrongAt : MethodName := ⟨RX9, "wrongAt", "(II)V"⟩
abbrev cX9_cannot : ByteArray := prog_11_method_12_code
def yX9_cannot : MethodName := ⟨RX9, "cannot", "()V"⟩
abbrev cX9_isSign : ByteArray := prog_11_method_13_code
def yX9_isSign : MethodName := ⟨RX9, "isSign", "(I)Z"⟩
abbrev cX9_isWord : ByteArray := prog_11_method_14_code
def yX9_isWord : MethodName := ⟨RX9, "isWord", "(I)Z"⟩
abbrev cX9_wantsSign : ByteArray := prog_11_method_15_code
def yX9_wantsSign : MethodName := ⟨RX9, "wantsSign", "(I)V"⟩
abbrev cX9_number : ByteArray := prog_11_method_16_code
def yX9_number : MethodName := ⟨RX9, "number", "()I"⟩
abbrev cX9_signed : ByteArray := prog_11_method_17_code
def yX9_signed : MethodName := ⟨RX9, "signed", "()I"⟩
abbrev cX9_readEnum : ByteArray := prog_11_method_18_code
def yX9_readEnum : MethodName := ⟨RX9, "readEnum", "()V"⟩
abbrev cX9_constantOf : ByteArray := prog_11_method_19_code
def yX9_constantOf : MethodName := ⟨RX9, "constantOf", "(IJ)I"⟩
abbrev cX9_readHead : ByteArray := prog_11_method_20_code
def yX9_readHead : MethodName := ⟨RX9, "readHead", "()V"⟩
abbrev cX9_isOther : ByteArray := prog_11_method_21_code
def yX9_isOther : MethodName := ⟨RX9, "isOther", "(IJI)Z"⟩
abbrev cX9_hashOf : ByteArray := prog_11_method_22_code
def yX9_hashOf : MethodName := ⟨RX9, "hashOf", "(JI)I"⟩
abbrev cX9_readLabel : ByteArray := prog_11_method_23_code
def yX9_readLabel : MethodName := ⟨RX9, "readLabel", "()V"⟩
abbrev cX9_emit : ByteArray := prog_11_method_24_code
def yX9_emit : MethodName := ⟨RX9, "emit", "(III)I"⟩
abbrev cX9_inScope : ByteArray := prog_11_method_25_code
def yX9_inScope : MethodName := ⟨RX9, "inScope", "(J)I"⟩
abbrev cX9_push : ByteArray := prog_11_method_26_code
def yX9_push : MethodName := ⟨RX9, "push", "(I)V"⟩
abbrev cX9_pop : ByteArray := prog_11_method_27_code
def yX9_pop : MethodName := ⟨RX9, "pop", "()V"⟩
abbrev cX9_through : ByteArray := prog_11_method_28_code
def yX9_through : MethodName := ⟨RX9, "through", "(Z)V"⟩
abbrev cX9_isList : ByteArray := prog_11_method_29_code
def yX9_isList : MethodName := ⟨RX9, "isList", "()Z"⟩
abbrev cX9_begin : ByteArray := prog_11_method_30_code
def yX9_begin : MethodName := ⟨RX9, "begin", "()V"⟩
abbrev cX9_dead : ByteArray := prog_11_method_31_code
def yX9_dead : MethodName := ⟨RX9, "dead", "()V"⟩
abbrev cX9_simple : ByteArray := prog_11_method_32_code
def yX9_simple : MethodName := ⟨RX9, "simple", "()V"⟩
abbrev cX9_use : ByteArray := prog_11_method_33_code
def yX9_use : MethodName := ⟨RX9, "use", "()V"⟩
abbrev cX9_let : ByteArray := prog_11_method_34_code
def yX9_let : MethodName := ⟨RX9, "let", "()V"⟩
abbrev cX9_yieldStmt : ByteArray := prog_11_method_35_code
def yX9_yieldStmt : MethodName := ⟨RX9, "yieldStmt", "()V"⟩
abbrev cX9_isSimple : ByteArray := prog_11_method_36_code
def yX9_isSimple : MethodName := ⟨RX9, "isSimple", "()Z"⟩
abbrev cX9_stmt : ByteArray := prog_11_method_37_code
def yX9_stmt : MethodName := ⟨RX9, "stmt", "()V"⟩
abbrev cX9_endBlock : ByteArray := prog_11_method_38_code
def yX9_endBlock : MethodName := ⟨RX9, "endBlock", "()V"⟩
abbrev cX9_readStmts : ByteArray := prog_11_method_39_code
def yX9_readStmts : MethodName := ⟨RX9, "readStmts", "(I)V"⟩
abbrev cX9_readOld : ByteArray := prog_11_method_40_code
def yX9_readOld : MethodName := ⟨RX9, "readOld", "()V"⟩
abbrev cX9_readBody : ByteArray := prog_11_method_41_code
def yX9_readBody : MethodName := ⟨RX9, "readBody", "()V"⟩
abbrev cX9_readArm : ByteArray := prog_11_method_42_code
def yX9_readArm : MethodName := ⟨RX9, "readArm", "()V"⟩
abbrev cX9_read : ByteArray := prog_11_method_43_code
def yX9_read : MethodName := ⟨RX9, "read", "()I"⟩
abbrev cX9_emitEnd : ByteArray := prog_11_method_44_code
def yX9_emitEnd : MethodName := ⟨RX9, "emitEnd", "()V"⟩
abbrev cX9_place : ByteArray := prog_11_method_45_code
def yX9_place : MethodName := ⟨RX9, "place", "()I"⟩
abbrev cX9_told : ByteArray := prog_11_method_46_code
def yX9_told : MethodName := ⟨RX9, "told", "(I)I"⟩
abbrev cX9_label : ByteArray := prog_11_method_47_code
def yX9_label : MethodName := ⟨RX9, "label", "(II)I"⟩
abbrev cX9_armFor : ByteArray := prog_11_method_48_code
def yX9_armFor : MethodName := ⟨RX9, "armFor", "(I)I"⟩
abbrev cX9_isTextAt : ByteArray := prog_11_method_49_code
def yX9_isTextAt : MethodName := ⟨RX9, "isTextAt", "(I)Z"⟩
abbrev cX9_run : ByteArray := prog_11_method_50_code
def yX9_run : MethodName := ⟨RX9, "run", "(II)I"⟩
abbrev cX9_runNone : ByteArray := prog_11_method_51_code
def yX9_runNone : MethodName := ⟨RX9, "runNone", "()I"⟩
abbrev cX9_traced : ByteArray := prog_11_method_52_code
def yX9_traced : MethodName := ⟨RX9, "traced", "()I"⟩
abbrev cX9_trace : ByteArray := prog_11_method_53_code
def yX9_trace : MethodName := ⟨RX9, "trace", "(I)I"⟩
abbrev cX9_value : ByteArray := prog_11_method_54_code
def yX9_value : MethodName := ⟨RX9, "value", "()I"⟩
abbrev cX9_findKeys : ByteArray := prog_11_method_55_code
def yX9_findKeys : MethodName := ⟨RX9, "findKeys", "()V"⟩
abbrev cX9_form : ByteArray := prog_11_method_56_code
def yX9_form : MethodName := ⟨RX9, "form", "()I"⟩
abbrev cX9_keys : ByteArray := prog_11_method_57_code
def yX9_keys : MethodName := ⟨RX9, "keys", "()I"⟩
abbrev cX9_key : ByteArray := prog_11_method_58_code
def yX9_key : MethodName := ⟨RX9, "key", "(I)I"⟩
abbrev cX9_target : ByteArray := prog_11_method_59_code
def yX9_target : MethodName := ⟨RX9, "target", "(I)I"⟩
abbrev cX9_alike : ByteArray := prog_11_method_60_code
def yX9_alike : MethodName := ⟨RX9, "alike", "(I)I"⟩
abbrev cX9_hash : ByteArray := prog_11_method_61_code
def yX9_hash : MethodName := ⟨RX9, "hash", "()I"⟩
def RJ0 : String := "java/lang/String"
def TJ0 : u_T := fun k => match k with
  | _ => ("", "", "", false)
def tyJ0 : Nat → FieldType := fun k => match k with
  | _ => .int
abbrev wsJ00 : List Cond := u_ws RJ0 TJ0 0
theorem nmJ0 : ∀ a, a < 0 → ∀ b, b < 0 → a ≠ b → (TJ0 a).2.1 ≠ (TJ0 b).2.1 := by decide +kernel
theorem tyJ0_ok : ∀ k, k < 0 → parseFieldDescriptor (TJ0 k).2.2.1 = some (tyJ0 k) := by decide +kernel
abbrev cJ0_length_8abf5 : ByteArray := prog_12_method_54_code
def yJ0_length_8abf5 : MethodName := ⟨RJ0, "length", "()I"⟩
abbrev cJ0_charAt_5068e : ByteArray := prog_12_method_56_code
def yJ0_charAt_5068e : MethodName := ⟨RJ0, "charAt", "(I)C"⟩
abbrev cJ0_coder_7d493 : ByteArray := prog_12_method_152_code
def yJ0_coder_7d493 : MethodName := ⟨RJ0, "coder", "()B"⟩
abbrev cJ0_isLatin1_aae02 : ByteArray := prog_12_method_154_code
def yJ0_isLatin1_aae02 : MethodName := ⟨RJ0, "isLatin1", "()Z"⟩
abbrev cJ0_checkIndex_df160 : ByteArray := prog_12_method_155_code
def yJ0_checkIndex_df160 : MethodName := ⟨RJ0, "checkIndex", "(II)V"⟩
def RJ1 : String := "java/lang/StringLatin1"
def TJ1 : u_T := fun k => match k with
  | _ => ("", "", "", false)
def tyJ1 : Nat → FieldType := fun k => match k with
  | _ => .int
abbrev wsJ10 : List Cond := u_ws RJ1 TJ1 0
theorem nmJ1 : ∀ a, a < 0 → ∀ b, b < 0 → a ≠ b → (TJ1 a).2.1 ≠ (TJ1 b).2.1 := by decide +kernel
theorem tyJ1_ok : ∀ k, k < 0 → parseFieldDescriptor (TJ1 k).2.2.1 = some (tyJ1 k) := by decide +kernel
abbrev cJ1_charAt_3b067 : ByteArray := prog_13_method_2_code
def yJ1_charAt_3b067 : MethodName := ⟨RJ1, "charAt", "([BI)C"⟩
def RJ2 : String := "java/lang/StringUTF16"
def TJ2 : u_T := fun k => match k with
  | _ => ("", "", "", false)
def tyJ2 : Nat → FieldType := fun k => match k with
  | _ => .int
abbrev wsJ20 : List Cond := u_ws RJ2 TJ2 0
theorem nmJ2 : ∀ a, a < 0 → ∀ b, b < 0 → a ≠ b → (TJ2 a).2.1 ≠ (TJ2 b).2.1 := by decide +kernel
theorem tyJ2_ok : ∀ k, k < 0 → parseFieldDescriptor (TJ2 k).2.2.1 = some (tyJ2 k) := by decide +kernel
abbrev cJ2_getChar_3b067 : ByteArray := prog_14_method_5_code
def yJ2_getChar_3b067 : MethodName := ⟨RJ2, "getChar", "([BI)C"⟩
abbrev cJ2_length_9d52b : ByteArray := prog_14_method_6_code
def yJ2_length_9d52b : MethodName := ⟨RJ2, "length", "([B)I"⟩
abbrev cJ2_charAt_3b067 : ByteArray := prog_14_method_83_code
def yJ2_charAt_3b067 : MethodName := ⟨RJ2, "charAt", "([BI)C"⟩
abbrev cJ2_checkIndex_2214a : ByteArray := prog_14_method_91_code
def yJ2_checkIndex_2214a : MethodName := ⟨RJ2, "checkIndex", "(I[B)V"⟩
def RJ3 : String := "jdk/internal/util/Preconditions"
def TJ3 : u_T := fun k => match k with
  | _ => ("", "", "", false)
def tyJ3 : Nat → FieldType := fun k => match k with
  | _ => .int
abbrev wsJ30 : List Cond := u_ws RJ3 TJ3 0
theorem nmJ3 : ∀ a, a < 0 → ∀ b, b < 0 → a ≠ b → (TJ3 a).2.1 ≠ (TJ3 b).2.1 := by decide +kernel
theorem tyJ3_ok : ∀ k, k < 0 → parseFieldDescriptor (TJ3 k).2.2.1 = some (tyJ3 k) := by decide +kernel
abbrev cJ3_checkIndex_8e157 : ByteArray := prog_15_method_11_code
def yJ3_checkIndex_8e157 : MethodName := ⟨RJ3, "checkIndex", "(IILjava/util/function/BiFunction;)I"⟩
def RL : String := "SwitchRulesLaw"
abbrev cL_law : ByteArray := code
def yL_law : MethodName := ⟨RL, "law", "([I)Z"⟩
abbrev vwCl : List vw_C := [(RX0, TX0, 4), (RX1, TX1, 11), (RX2, TX2, 2), (RX3, TX3, 5), (RX4, TX4, 3), (RX5, TX5, 4), (RX6, TX6, 5), (RX7, TX7, 14), (RX8, TX8, 6), (RX9, TX9, 56)]
def m_costL : List (Nat × Nat) := [(3, 780), (0, 0), (0, 0), (5, 95), (0, 0), (0, 0), (0, 0), (0, 0), (0, 0), (0, 0), (0, 0), (0, 0), (0, 0), (0, 0), (0, 0), (0, 0), (0, 0), (0, 0), (0, 0), (0, 0), (0, 0), (0, 0), (0, 0), (0, 0), (0, 0), (0, 0), (0, 0), (0, 0), (0, 0), (0, 0), (0, 0), (0, 0), (0, 0), (0, 0), (0, 0), (0, 0), (0, 0), (1, 3000), (0, 0), (0, 0), (0, 0), (0, 0), (0, 0), (2, 140), (0, 0), (0, 0), (0, 0), (0, 0), (0, 0), (1, 20), (0, 0), (0, 0), (0, 0), (0, 0), (0, 0), (0, 0), (3, 96), (0, 0), (0, 0), (0, 0), (0, 0), (4, 9018), (0, 0), (0, 0), (0, 0), (0, 0), (0, 0), (0, 0), (0, 0), (0, 0), (0, 0), (0, 0), (0, 0), (0, 0), (0, 0), (8, 900), (0, 0), (0, 0), (0, 0), (0, 0), (0, 0), (0, 0), (0, 0), (0, 0), (0, 0), (29, 13290), (0, 0), (0, 0), (0, 0), (0, 0), (0, 0), (0, 0), (0, 0), (0, 0), (0, 0), (0, 0), (0, 0), (0, 0), (0, 0), (0, 0), (0, 0), (0, 0), (26, 7572), (0, 0), (0, 0), (0, 0), (0, 0), (0, 0), (0, 0), (0, 0), (0, 0), (0, 0), (0, 0), (0, 0), (0, 0), (0, 0), (0, 0), (0, 0), (0, 0), (0, 0), (0, 0), (0, 0), (0, 0), (0, 0), (0, 0), (0, 0), (0, 0), (0, 0), (0, 0), (0, 0), (0, 0), (0, 0), (0, 0), (0, 0), (0, 0), (0, 0), (0, 0), (0, 0), (0, 0), (0, 0), (0, 0), (0, 0), (0, 0), (0, 0), (0, 0), (0, 0), (0, 0), (0, 0), (0, 0), (0, 0), (0, 0), (0, 0), (0, 0), (0, 0), (0, 0), (0, 0), (0, 0), (0, 0), (0, 0), (0, 0), (0, 0), (0, 0), (0, 0)]
end
section
/-! ===== THE SMALL MACHINE: objects by their number in the order of their making, ints and longs in two functions; a least fixed point of one step ===== -/
abbrev mS : Type := (FieldType × Nat) ⊕ (Nat × List (Option (Option Nat)))
abbrev mW : Type := List mS × (Nat → Nat → Int32) × (Nat → Nat → Int64)
abbrev mI : Type := Nat × Instr × Nat × Nat × Nat × Value × List (Int32 × Nat)
abbrev mL : Type := List (Nat × List mI)
abbrev mT : Type := Nat × List (Option Value) × List Value × mW × Nat × Nat
abbrev mK : Type := Option Value → mW → Prop
abbrev mC : Type := Nat → List Value → mW → mK → Prop
def m_nth {α : Type} : List α → Nat → Option α
  | [], _ => none
  | a :: _, 0 => some a
  | _ :: l, n + 1 => m_nth l n
theorem m_nth_eq {α : Type} : ∀ (l : List α) (n : Nat), m_nth l n = l[n]?
  | [], n => by simp [m_nth]
  | a :: l, 0 => by simp [m_nth]
  | a :: l, n + 1 => by simp [m_nth, m_nth_eq l n]
def m_seek : List mI → Nat → Option mI
  | [], _ => none
  | q :: l, pc => match Nat.beq q.1 pc with
    | true => some q
    | false => m_seek l pc
def m_at : mL → Nat → Option mI
  | [], _ => none
  | q :: r, pc => match Nat.blt pc q.1 with
    | true => m_seek q.2 pc
    | false => m_at r pc
theorem m_seek_mem : ∀ (l : List mI) (pc : Nat) (q : mI), m_seek l pc = some q → q ∈ l ∧ q.1 = pc
  | [], pc, q, h => by simp [m_seek] at h
  | x :: l, pc, q, h => by
    unfold m_seek at h
    split at h
    · rename_i hb
      cases h
      exact ⟨List.mem_cons_self, Nat.eq_of_beq_eq_true hb⟩
    · obtain ⟨h1, h2⟩ := m_seek_mem l pc q h
      exact ⟨List.mem_cons_of_mem _ h1, h2⟩
theorem m_at_mem : ∀ (l : mL) (pc : Nat) (q : mI), m_at l pc = some q → (∃ c ∈ l, q ∈ c.2) ∧ q.1 = pc
  | [], pc, q, h => by simp [m_at] at h
  | x :: l, pc, q, h => by
    unfold m_at at h
    split at h
    · obtain ⟨h1, h2⟩ := m_seek_mem x.2 pc q h
      exact ⟨⟨x, List.mem_cons_self, h1⟩, h2⟩
    · obtain ⟨⟨c, h1, h3⟩, h2⟩ := m_at_mem l pc q h
      exact ⟨⟨c, List.mem_cons_of_mem _ h1, h3⟩, h2⟩
def m_c2 : Value → Bool
  | .long _ => true
  | .double _ => true
  | _ => false
theorem m_c2_cat (v : Value) : v.category = if m_c2 v = true then 2 else 1 := by cases v <;> simp [m_c2, Value.category]
def m_cat : List Value → Nat
  | [] => 0
  | v :: r => (match m_c2 v with | true => 2 | false => 1) + m_cat r
def m_sto1 : List (Option Value) → Nat → Value → List (Option Value)
  | [], _, _ => []
  | _ :: r, 0, v => some v :: r
  | x :: r, 1, v => (match x with | some u => (match m_c2 u with | true => none | false => some u) | none => none) :: m_sto1 r 0 v
  | x :: r, i + 2, v => x :: m_sto1 r (i + 1) v
def m_sto2 : List (Option Value) → Nat → Value → List (Option Value)
  | [], _, _ => []
  | [_], 0, _ => []
  | _ :: _ :: r, 0, v => some v :: none :: r
  | x :: r, 1, v => (match x with | some u => (match m_c2 u with | true => none | false => some u) | none => none) :: m_sto2 r 0 v
  | x :: r, i + 2, v => x :: m_sto2 r (i + 1) v
def m_ent : List Value → List (Option Value)
  | [] => []
  | v :: r => match m_c2 v with
    | true => some v :: none :: m_ent r
    | false => some v :: m_ent r
def m_pad : Nat → List (Option Value) → List (Option Value)
  | 0, l => l
  | n + 1, [] => none :: m_pad n []
  | n + 1, x :: l => x :: m_pad n l
def m_pop : Nat → List Value → Option (List Value × List Value)
  | 0, st => some ([], st)
  | _ + 1, [] => none
  | n + 1, v :: st => match m_pop n st with
    | some (as, r) => some (as ++ [v], r)
    | none => none
def m_push : Option Value → List Value → List Value
  | none, r => r
  | some v, r => v :: r
def m_up (I : Nat → Nat → Int32) (k j : Nat) (x : Int32) : Nat → Nat → Int32 := va_up I k (upd (I k) j x)
def m_upL (L : Nat → Nat → Int64) (k j : Nat) (x : Int64) : Nat → Nat → Int64 := va_up L k (vp_updL (L k) j x)
def m_ty (ci : Nat) : Nat → FieldType := match ci with
  | 0 => tyX0 | 1 => tyX1 | 2 => tyX2 | 3 => tyX3 | 4 => tyX4 | 5 => tyX5 | 6 => tyX6 | 7 => tyX7 | 8 => tyX8 | _ => tyX9
def m_TT (ci : Nat) : u_T := match ci with
  | 0 => TX0 | 1 => TX1 | 2 => TX2 | 3 => TX3 | 4 => TX4 | 5 => TX5 | 6 => TX6 | 7 => TX7 | 8 => TX8 | _ => TX9
def m_RR (ci : Nat) : String := match ci with
  | 0 => RX0 | 1 => RX1 | 2 => RX2 | 3 => RX3 | 4 => RX4 | 5 => RX5 | 6 => RX6 | 7 => RX7 | 8 => RX8 | 9 => RX9 | _ => RL
def m_NN (ci : Nat) : Nat := match ci with
  | 0 => 4 | 1 => 11 | 2 => 2 | 3 => 5 | 4 => 3 | 5 => 4 | 6 => 5 | 7 => 14 | 8 => 6 | _ => 56
def m_isL (ci j : Nat) : Bool := match m_ty ci j with
  | .long => true
  | _ => false
def m_fv (I : Nat → Nat → Int32) (L : Nat → Nat → Int64) (ci k j : Nat) : Option (Option Nat) → Value
  | none => match m_isL ci j with
    | true => .long (L k j)
    | false => .int (I k j)
  | some none => .null
  | some (some t) => .ref t
/-- the fields of a new object -/
def m_nf (ci : Nat) : Nat → Nat → List (Option (Option Nat))
  | _, 0 => []
  | j, n + 1 => (match m_ty ci j with | .object _ => some none | .array _ => some none | _ => none) :: m_nf ci (j + 1) n
def m_if : Jvm.ClassFile.Cond → Int32 → Int32 → Prop → Prop → Prop
  | .eq, x, y, A, B => (x = y → A) ∧ (¬ x = y → B)
  | .ne, x, y, A, B => (x = y → B) ∧ (¬ x = y → A)
  | .lt, x, y, A, B => (x < y → A) ∧ (¬ x < y → B)
  | .ge, x, y, A, B => (x < y → B) ∧ (¬ x < y → A)
  | .gt, x, y, A, B => (y < x → A) ∧ (¬ y < x → B)
  | .le, x, y, A, B => (y < x → B) ∧ (¬ y < x → A)
def m_sw : List (Int32 × Nat) → Nat → Int32 → (Nat → Prop) → Prop
  | [], d, _, K => K d
  | q :: r, d, x, K => (x = q.1 → K q.2) ∧ (¬ x = q.1 → m_sw r d x K)
def m_aty : Jvm.ClassFile.ArrayType → FieldType
  | .boolean => .boolean | .char => .char | .float => .float | .double => .double | .byte => .byte | .short => .short | .int => .int | .long => .long
/-- what a method's making costs: cells and slots -/
def m_cost (id : Nat) : Nat × Nat := match m_nth m_costL id with
  | some q => q
  | none => (0, 0)
def m_G (XL : Nat) (XS : Nat → Int32) (C : mC) (rt : Option FieldType) (mc ms : Nat) (Q : mK) (P : mT → Prop) (i : Instr) (nx a b : Nat) (v : Value) (sw : List (Int32 × Nat)) (lo : List (Option Value)) (st : List Value) (sh : List mS) (I : Nat → Nat → Int32) (L : Nat → Nat → Int64) (ce sl : Nat) : Prop :=
  match i with
  | .iconst _ => P (nx, lo, v :: st, (sh, I, L), ce, sl)
  | .bipush _ => P (nx, lo, v :: st, (sh, I, L), ce, sl)
  | .sipush _ => P (nx, lo, v :: st, (sh, I, L), ce, sl)
  | .lconst _ => P (nx, lo, v :: st, (sh, I, L), ce, sl)
  | .ldc _ => P (nx, lo, v :: st, (sh, I, L), ce, sl)
  | .ldc2_w _ => P (nx, lo, v :: st, (sh, I, L), ce, sl)
  | .iload_n _ => match m_nth lo a with
    | some (some (.int x)) => P (nx, lo, .int x :: st, (sh, I, L), ce, sl)
    | _ => False
  | .iload _ => match m_nth lo a with
    | some (some (.int x)) => P (nx, lo, .int x :: st, (sh, I, L), ce, sl)
    | _ => False
  | .lload_n _ => match m_nth lo a with
    | some (some (.long x)) => P (nx, lo, .long x :: st, (sh, I, L), ce, sl)
    | _ => False
  | .lload _ => match m_nth lo a with
    | some (some (.long x)) => P (nx, lo, .long x :: st, (sh, I, L), ce, sl)
    | _ => False
  | .aload_n _ => match m_nth lo a with
    | some (some (.ref x)) => P (nx, lo, .ref x :: st, (sh, I, L), ce, sl)
    | _ => False
  | .aload _ => match m_nth lo a with
    | some (some (.ref x)) => P (nx, lo, .ref x :: st, (sh, I, L), ce, sl)
    | _ => False
  | .istore_n _ => match st with
    | .int x :: r => (match Nat.blt a lo.length with | true => P (nx, m_sto1 lo a (.int x), r, (sh, I, L), ce, sl) | false => False)
    | _ => False
  | .istore _ => match st with
    | .int x :: r => (match Nat.blt a lo.length with | true => P (nx, m_sto1 lo a (.int x), r, (sh, I, L), ce, sl) | false => False)
    | _ => False
  | .lstore_n _ => match st with
    | .long x :: r => (match Nat.blt (a + 1) lo.length with | true => P (nx, m_sto2 lo a (.long x), r, (sh, I, L), ce, sl) | false => False)
    | _ => False
  | .lstore _ => match st with
    | .long x :: r => (match Nat.blt (a + 1) lo.length with | true => P (nx, m_sto2 lo a (.long x), r, (sh, I, L), ce, sl) | false => False)
    | _ => False
  | .astore_n _ => match st with
    | .ref x :: r => (match Nat.blt a lo.length with | true => P (nx, m_sto1 lo a (.ref x), r, (sh, I, L), ce, sl) | false => False)
    | _ => False
  | .iinc _ _ => match m_nth lo a, v with
    | some (some (.int x)), .int d => (match Nat.blt a lo.length with | true => P (nx, m_sto1 lo a (.int (x + d)), st, (sh, I, L), ce, sl) | false => False)
    | _, _ => False
  | .iadd => match st with
    | .int y :: .int x :: r => P (nx, lo, .int (x + y) :: r, (sh, I, L), ce, sl)
    | _ => False
  | .isub => match st with
    | .int y :: .int x :: r => P (nx, lo, .int (x - y) :: r, (sh, I, L), ce, sl)
    | _ => False
  | .imul => match st with
    | .int y :: .int x :: r => P (nx, lo, .int (x * y) :: r, (sh, I, L), ce, sl)
    | _ => False
  | .iand => match st with
    | .int y :: .int x :: r => P (nx, lo, .int (x &&& y) :: r, (sh, I, L), ce, sl)
    | _ => False
  | .ior => match st with
    | .int y :: .int x :: r => P (nx, lo, .int (x ||| y) :: r, (sh, I, L), ce, sl)
    | _ => False
  | .ixor => match st with
    | .int y :: .int x :: r => P (nx, lo, .int (x ^^^ y) :: r, (sh, I, L), ce, sl)
    | _ => False
  | .ishl => match st with
    | .int y :: .int x :: r => P (nx, lo, .int (x <<< (y &&& 31)) :: r, (sh, I, L), ce, sl)
    | _ => False
  | .ishr => match st with
    | .int y :: .int x :: r => P (nx, lo, .int (x >>> (y &&& 31)) :: r, (sh, I, L), ce, sl)
    | _ => False
  | .iushr => match st with
    | .int y :: .int x :: r => P (nx, lo, .int ((x.toUInt32 >>> (y.toUInt32 &&& Int32.toUInt32 31)).toInt32) :: r, (sh, I, L), ce, sl)
    | _ => False
  | .ineg => match st with
    | .int x :: r => P (nx, lo, .int (-x) :: r, (sh, I, L), ce, sl)
    | _ => False
  | .ladd => match st with
    | .long y :: .long x :: r => P (nx, lo, .long (x + y) :: r, (sh, I, L), ce, sl)
    | _ => False
  | .lsub => match st with
    | .long y :: .long x :: r => P (nx, lo, .long (x - y) :: r, (sh, I, L), ce, sl)
    | _ => False
  | .lmul => match st with
    | .long y :: .long x :: r => P (nx, lo, .long (x * y) :: r, (sh, I, L), ce, sl)
    | _ => False
  | .land => match st with
    | .long y :: .long x :: r => P (nx, lo, .long (x &&& y) :: r, (sh, I, L), ce, sl)
    | _ => False
  | .lor => match st with
    | .long y :: .long x :: r => P (nx, lo, .long (x ||| y) :: r, (sh, I, L), ce, sl)
    | _ => False
  | .lneg => match st with
    | .long x :: r => P (nx, lo, .long (-x) :: r, (sh, I, L), ce, sl)
    | _ => False
  | .lshl => match st with
    | .int y :: .long x :: r => P (nx, lo, .long (x <<< (y.toInt64 &&& 63)) :: r, (sh, I, L), ce, sl)
    | _ => False
  | .lushr => match st with
    | .int y :: .long x :: r => P (nx, lo, .long ((x.toUInt64 >>> (y.toInt64.toUInt64 &&& Int64.toUInt64 63)).toInt64) :: r, (sh, I, L), ce, sl)
    | _ => False
  | .lcmp => match st with
    | .long y :: .long x :: r => P (nx, lo, .int (lg_cmp x y) :: r, (sh, I, L), ce, sl)
    | _ => False
  | .i2l => match st with
    | .int x :: r => P (nx, lo, .long x.toInt64 :: r, (sh, I, L), ce, sl)
    | _ => False
  | .l2i => match st with
    | .long x :: r => P (nx, lo, .int x.toInt32 :: r, (sh, I, L), ce, sl)
    | _ => False
  | .i2b => match st with
    | .int x :: r => P (nx, lo, .int x.toInt8.toInt32 :: r, (sh, I, L), ce, sl)
    | _ => False
  | .i2s => match st with
    | .int x :: r => P (nx, lo, .int x.toInt16.toInt32 :: r, (sh, I, L), ce, sl)
    | _ => False
  | .i2c => match st with
    | .int x :: r => P (nx, lo, .int ((x.toUInt32 % 65536).toInt32) :: r, (sh, I, L), ce, sl)
    | _ => False
  | .dup => match st with
    | u :: r => (match m_c2 u with | true => False | false => P (nx, lo, u :: u :: r, (sh, I, L), ce, sl))
    | _ => False
  | .pop => match st with
    | u :: r => (match m_c2 u with | true => False | false => P (nx, lo, r, (sh, I, L), ce, sl))
    | _ => False
  | .dup2 => match st with
    | u :: t :: r => (match m_c2 u with | true => False | false => (match m_c2 t with | true => False | false => P (nx, lo, u :: t :: u :: t :: r, (sh, I, L), ce, sl)))
    | _ => False
  | .ifCond cd _ => match st with
    | .int x :: r => m_if cd x 0 (P (a, lo, r, (sh, I, L), ce, sl)) (P (nx, lo, r, (sh, I, L), ce, sl))
    | _ => False
  | .if_icmp cd _ => match st with
    | .int y :: .int x :: r => m_if cd x y (P (a, lo, r, (sh, I, L), ce, sl)) (P (nx, lo, r, (sh, I, L), ce, sl))
    | _ => False
  | .goto _ => P (a, lo, st, (sh, I, L), ce, sl)
  | .lookupswitch _ _ => match st with
    | .int x :: r => m_sw sw a x (fun t => P (t, lo, r, (sh, I, L), ce, sl))
    | _ => False
  | .tableswitch _ _ _ _ => match st with
    | .int x :: r => m_sw sw a x (fun t => P (t, lo, r, (sh, I, L), ce, sl))
    | _ => False
  | .getfield _ => match st with
    | .ref k :: r => (match m_nth sh k with
      | some (.inr (ci, fs)) => (match Nat.beq ci a with
        | true => (match m_nth fs b with
          | some f => P (nx, lo, m_fv I L ci k b f :: r, (sh, I, L), ce, sl)
          | none => False)
        | false => False)
      | _ => False)
    | _ => False
  | .putfield _ => match st with
    | u :: .ref k :: r => (match m_nth sh k with
      | some (.inr (ci, fs)) => (match Nat.beq ci a with
        | true => (match u, m_nth fs b with
          | .int x, some none => (match m_ty a b with
            | .int => P (nx, lo, r, (sh, m_up I k b x, L), ce, sl)
            | .boolean => narrow .boolean (.int x) = .int x ∧ P (nx, lo, r, (sh, m_up I k b x, L), ce, sl)
            | _ => False)
          | .long x, some none => (match m_ty a b with
            | .long => P (nx, lo, r, (sh, I, m_upL L k b x), ce, sl)
            | _ => False)
          | .ref t, some (some _) => (match Nat.blt t 1000000 with
            | true => P (nx, lo, r, (sh.set k (.inr (ci, fs.set b (some (some t)))), I, L), ce, sl)
            | false => False)
          | _, _ => False)
        | false => False)
      | _ => False)
    | _ => False
  | .arraylength => match st with
    | .ref k :: r => (match m_nth sh k with
      | some (.inl (_, n)) => P (nx, lo, .int (Int32.ofNat n) :: r, (sh, I, L), ce, sl)
      | some _ => False
      | none => (match Nat.beq k 3000000 with
        | true => P (nx, lo, .int (Int32.ofNat XL) :: r, (sh, I, L), ce, sl)
        | false => False))
    | _ => False
  | .iaload => match st with
    | .int ix :: .ref k :: r => (match m_nth sh k with
      | some (.inl (.int, n)) => vp_in ix n ∧ P (nx, lo, .int (I k ix.toNatClampNeg) :: r, (sh, I, L), ce, sl)
      | some _ => False
      | none => (match Nat.beq k 3000000 with
        | true => vp_in ix XL ∧ P (nx, lo, .int (XS ix.toNatClampNeg) :: r, (sh, I, L), ce, sl)
        | false => False))
    | _ => False
  | .baload => match st with
    | .int ix :: .ref k :: r => (match m_nth sh k with
      | some (.inl (.byte, n)) => vp_in ix n ∧ P (nx, lo, .int (I k ix.toNatClampNeg) :: r, (sh, I, L), ce, sl)
      | some (.inl (.boolean, n)) => vp_in ix n ∧ P (nx, lo, .int (I k ix.toNatClampNeg) :: r, (sh, I, L), ce, sl)
      | _ => False)
    | _ => False
  | .caload => match st with
    | .int ix :: .ref k :: r => (match m_nth sh k with
      | some (.inl (.char, n)) => vp_in ix n ∧ P (nx, lo, .int (I k ix.toNatClampNeg) :: r, (sh, I, L), ce, sl)
      | _ => False)
    | _ => False
  | .saload => match st with
    | .int ix :: .ref k :: r => (match m_nth sh k with
      | some (.inl (.short, n)) => vp_in ix n ∧ P (nx, lo, .int (I k ix.toNatClampNeg) :: r, (sh, I, L), ce, sl)
      | _ => False)
    | _ => False
  | .laload => match st with
    | .int ix :: .ref k :: r => (match m_nth sh k with
      | some (.inl (.long, n)) => vp_in ix n ∧ P (nx, lo, .long (L k ix.toNatClampNeg) :: r, (sh, I, L), ce, sl)
      | _ => False)
    | _ => False
  | .iastore => match st with
    | .int x :: .int ix :: .ref k :: r => (match m_nth sh k with
      | some (.inl (.int, n)) => vp_in ix n ∧ P (nx, lo, r, (sh, m_up I k ix.toNatClampNeg x, L), ce, sl)
      | _ => False)
    | _ => False
  | .bastore => match st with
    | .int x :: .int ix :: .ref k :: r => (match m_nth sh k with
      | some (.inl (.byte, n)) => vp_in ix n ∧ P (nx, lo, r, (sh, m_up I k ix.toNatClampNeg (vp_nar .byte x), L), ce, sl)
      | some (.inl (.boolean, n)) => vp_in ix n ∧ P (nx, lo, r, (sh, m_up I k ix.toNatClampNeg (vp_nar .boolean x), L), ce, sl)
      | _ => False)
    | _ => False
  | .castore => match st with
    | .int x :: .int ix :: .ref k :: r => (match m_nth sh k with
      | some (.inl (.char, n)) => vp_in ix n ∧ P (nx, lo, r, (sh, m_up I k ix.toNatClampNeg (vp_nar .char x), L), ce, sl)
      | _ => False)
    | _ => False
  | .sastore => match st with
    | .int x :: .int ix :: .ref k :: r => (match m_nth sh k with
      | some (.inl (.short, n)) => vp_in ix n ∧ P (nx, lo, r, (sh, m_up I k ix.toNatClampNeg (vp_nar .short x), L), ce, sl)
      | _ => False)
    | _ => False
  | .lastore => match st with
    | .long x :: .int ix :: .ref k :: r => (match m_nth sh k with
      | some (.inl (.long, n)) => vp_in ix n ∧ P (nx, lo, r, (sh, I, m_upL L k ix.toNatClampNeg x), ce, sl)
      | _ => False)
    | _ => False
  | .invokevirtual _ => match m_pop (b % 16) st with
    | some (.ref k :: as, r) => (match m_nth sh k with
      | some (.inr (ci, _)) => (match Nat.beq ci (b / 16) && (Nat.ble (m_cat r) 8 && (Nat.ble (ce + (m_cost a).1) mc && Nat.ble (sl + (m_cost a).2) ms)) with
        | true => C a (.ref k :: as) (sh, I, L) (fun rv w => P (nx, lo, m_push rv r, w, ce + (m_cost a).1, sl + (m_cost a).2))
        | false => False)
      | _ => False)
    | _ => False
  | .invokestatic _ => match m_pop (b % 16) st with
    | some (as, r) => (match Nat.ble (m_cat r) 8 && (Nat.ble (ce + (m_cost a).1) mc && Nat.ble (sl + (m_cost a).2) ms) with
        | true => C a as (sh, I, L) (fun rv w => P (nx, lo, m_push rv r, w, ce + (m_cost a).1, sl + (m_cost a).2))
        | false => False)
    | _ => False
  | .invokespecial _ => match Nat.beq a 999 with
    | true => (match st with
      | .ref _ :: r => (match Nat.ble (m_cat r) 8 with | true => P (nx, lo, r, (sh, I, L), ce, sl) | false => False)
      | _ => False)
    | false => (match m_pop (b % 16) st with
      | some (.ref k :: as, r) => (match Nat.ble (m_cat r) 8 && (Nat.ble (ce + (m_cost a).1) mc && Nat.ble (sl + (m_cost a).2) ms) with
          | true => C a (.ref k :: as) (sh, I, L) (fun rv w => P (nx, lo, m_push rv r, w, ce + (m_cost a).1, sl + (m_cost a).2))
          | false => False)
      | _ => False)
  | .new _ => match Nat.blt sh.length 1000 && (Nat.ble (ce + 1) mc && Nat.ble (sl + m_NN a) ms) with
    | true => P (nx, lo, .ref sh.length :: st, (sh ++ [.inr (a, m_nf a 0 (m_NN a))], va_up I sh.length (fun _ => 0), va_up L sh.length (fun _ => 0)), ce + 1, sl + m_NN a)
    | false => False
  | .newarray ty => match st with
    | .int n :: r => (match Nat.blt sh.length 1000 && (Nat.ble (ce + 1) mc && (Nat.ble (sl + a) ms && Nat.ble a 100000)) with
      | true => (¬ n < 0 ∧ n.toNatClampNeg = a) ∧ P (nx, lo, .ref sh.length :: r, (sh ++ [.inl (m_aty ty, a)], va_up I sh.length (fun _ => 0), va_up L sh.length (fun _ => 0)), ce + 1, sl + a)
      | false => False)
    | _ => False
  | .ireturn => match st with
    | [.int x] => (match rt with
      | some .int => (match Nat.beq ce mc && Nat.beq sl ms with | true => Q (some (.int x)) (sh, I, L) | false => False)
      | some ty => (match Nat.beq ce mc && Nat.beq sl ms with | true => narrow ty (.int x) = .int x ∧ Q (some (.int x)) (sh, I, L) | false => False)
      | none => False)
    | _ => False
  | .lreturn => match st with
    | [.long x] => (match rt with
      | some .long => (match Nat.beq ce mc && Nat.beq sl ms with | true => Q (some (.long x)) (sh, I, L) | false => False)
      | _ => False)
    | _ => False
  | .return_ => match st with
    | [] => (match rt with
      | none => (match Nat.beq ce mc && Nat.beq sl ms with | true => Q none (sh, I, L) | false => False)
      | _ => False)
    | _ => False
  | _ => False
def m_F (XL : Nat) (XS : Nat → Int32) (C : mC) (cd : mL) (rt : Option FieldType) (mc ms : Nat) (Q : mK) (P : mT → Prop) : mT → Prop
  | (pc, lo, st, (sh, I, L), ce, sl) => match m_at cd pc with
    | some (_, i, nx, a, b, v, sw) => m_G XL XS C rt mc ms Q P i nx a b v sw lo st sh I L ce sl
    | none => False
/-- the least set that is closed under the step -/
def m_WP (XL : Nat) (XS : Nat → Int32) (C : mC) (cd : mL) (rt : Option FieldType) (mc ms : Nat) (Q : mK) (t : mT) : Prop :=
  ∀ P : mT → Prop, (∀ t, m_F XL XS C cd rt mc ms Q P t → P t) → P t
end
section
/-- what the tables say, but for what may not be carried into a callee -/
def m_ws : List Cond := lw_tbl.filter goodWord
theorem m_in {w : Cond} (i : Nat) (h : lw_tbl[i]? = some w) (g : goodWord w = true) : w ∈ m_ws := List.mem_filter.mpr ⟨List.mem_of_getElem? h, g⟩
theorem m_fc {α : Type} {p : α → Prop} {a : α} {l : List α} (h : p a) (hl : ∀ x ∈ l, p x) : ∀ x ∈ a :: l, p x := List.forall_mem_cons.mpr ⟨h, hl⟩
theorem m_fn {α : Type} {p : α → Prop} : ∀ x ∈ ([] : List α), p x := fun _ h => absurd h List.not_mem_nil
def m_lkF : List (Nat × Nat × Nat × Nat) := [(0, 9, 0, 0), (0, 15, 0, 1), (0, 19, 0, 2), (0, 22, 0, 3), (1, 12, 1, 2), (1, 18, 1, 3), (1, 22, 1, 4), (1, 26, 1, 5), (1, 29, 1, 10), (1, 33, 1, 0), (1, 37, 1, 1), (1, 52, 1, 6), (1, 55, 1, 7), (1, 58, 1, 8), (1, 61, 1, 9), (2, 9, 2, 0), (2, 15, 2, 1), (3, 9, 3, 0), (3, 15, 3, 1), (3, 21, 3, 4), (3, 25, 3, 2), (3, 29, 3, 3), (4, 9, 4, 0), (4, 15, 4, 1), (4, 19, 4, 2), (5, 9, 5, 0), (5, 15, 5, 1), (5, 18, 5, 2), (5, 21, 5, 3), (6, 9, 6, 0), (6, 15, 6, 1), (6, 19, 6, 2), (6, 57, 6, 3), (6, 70, 6, 4), (7, 9, 7, 7), (7, 15, 7, 9), (7, 19, 7, 10), (7, 22, 7, 11), (7, 25, 7, 12), (7, 32, 7, 13), (7, 36, 7, 3), (7, 39, 7, 4), (7, 42, 7, 5), (7, 45, 7, 6), (7, 48, 7, 8), (7, 55, 7, 2), (8, 12, 8, 0), (8, 19, 8, 1), (8, 26, 8, 2), (8, 35, 8, 3), (8, 42, 8, 4), (8, 49, 8, 5), (9, 7, 9, 0), (9, 13, 9, 1), (9, 17, 9, 10), (9, 21, 9, 13), (9, 24, 9, 14), (9, 28, 9, 15), (9, 31, 9, 20), (9, 34, 9, 22), (9, 37, 9, 23), (9, 40, 9, 24), (9, 43, 9, 25), (9, 46, 9, 30), (9, 49, 9, 31), (9, 52, 9, 32), (9, 55, 9, 34), (9, 58, 9, 37), (9, 61, 9, 38), (9, 65, 9, 39), (9, 68, 9, 40), (9, 71, 9, 41), (9, 74, 9, 42), (9, 77, 9, 43), (9, 80, 9, 50), (9, 83, 9, 51), (9, 86, 9, 53), (9, 89, 9, 54), (9, 92, 9, 55), (9, 125, 9, 2), (9, 128, 9, 3), (9, 135, 9, 5), (9, 138, 9, 4), (9, 157, 9, 7), (9, 160, 9, 6), (9, 164, 9, 8), (9, 167, 9, 9), (9, 187, 9, 12), (9, 200, 9, 16), (9, 204, 9, 17), (9, 207, 9, 18), (9, 210, 9, 21), (9, 230, 9, 19), (9, 233, 9, 33), (9, 236, 9, 35), (9, 239, 9, 44), (9, 242, 9, 45), (9, 245, 9, 36), (9, 259, 9, 26), (9, 303, 9, 46), (9, 306, 9, 27), (9, 312, 9, 29), (9, 315, 9, 28), (9, 324, 9, 11), (9, 327, 9, 47), (9, 330, 9, 48), (9, 351, 9, 49), (9, 357, 9, 52)]
theorem m_lkF_ok : ∀ q ∈ m_lkF, Cond.fieldLink (m_RR q.1) q.2.1 (m_TT q.2.2.1 q.2.2.2).1 (m_TT q.2.2.1 q.2.2.2).2.1 (m_TT q.2.2.1 q.2.2.2).2.2.1 ∈ m_ws :=
  m_fc (m_in 223 (by decide +kernel) rfl) (m_fc (m_in 225 (by decide +kernel) rfl) (m_fc (m_in 227 (by decide +kernel) rfl) (m_fc (m_in 229 (by decide +kernel) rfl) (m_fc (m_in 334 (by decide +kernel) rfl) (m_fc (m_in 335 (by decide +kernel) rfl) (m_fc (m_in 336 (by decide +kernel) rfl) (m_fc (m_in 337 (by decide +kernel) rfl) (m_fc (m_in 343 (by decide +kernel) rfl) (m_fc (m_in 332 (by decide +kernel) rfl) (m_fc (m_in 333 (by decide +kernel) rfl) (m_fc (m_in 338 (by decide +kernel) rfl) (m_fc (m_in 339 (by decide +kernel) rfl) (m_fc (m_in 340 (by decide +kernel) rfl) (m_fc (m_in 341 (by decide +kernel) rfl) (m_fc (m_in 106 (by decide +kernel) rfl) (m_fc (m_in 107 (by decide +kernel) rfl) (m_fc (m_in 397 (by decide +kernel) rfl) (m_fc (m_in 399 (by decide +kernel) rfl) (m_fc (m_in 404 (by decide +kernel) rfl) (m_fc (m_in 400 (by decide +kernel) rfl) (m_fc (m_in 402 (by decide +kernel) rfl) (m_fc (m_in 320 (by decide +kernel) rfl) (m_fc (m_in 321 (by decide +kernel) rfl) (m_fc (m_in 324 (by decide +kernel) rfl) (m_fc (m_in 374 (by decide +kernel) rfl) (m_fc (m_in 376 (by decide +kernel) rfl) (m_fc (m_in 378 (by decide +kernel) rfl) (m_fc (m_in 380 (by decide +kernel) rfl) (m_fc (m_in 188 (by decide +kernel) rfl) (m_fc (m_in 190 (by decide +kernel) rfl) (m_fc (m_in 192 (by decide +kernel) rfl) (m_fc (m_in 194 (by decide +kernel) rfl) (m_fc (m_in 195 (by decide +kernel) rfl) (m_fc (m_in 262 (by decide +kernel) rfl) (m_fc (m_in 268 (by decide +kernel) rfl) (m_fc (m_in 269 (by decide +kernel) rfl) (m_fc (m_in 272 (by decide +kernel) rfl) (m_fc (m_in 275 (by decide +kernel) rfl) (m_fc (m_in 276 (by decide +kernel) rfl) (m_fc (m_in 250 (by decide +kernel) rfl) (m_fc (m_in 253 (by decide +kernel) rfl) (m_fc (m_in 255 (by decide +kernel) rfl) (m_fc (m_in 259 (by decide +kernel) rfl) (m_fc (m_in 265 (by decide +kernel) rfl) (m_fc (m_in 247 (by decide +kernel) rfl) (m_fc (m_in 417 (by decide +kernel) rfl) (m_fc (m_in 418 (by decide +kernel) rfl) (m_fc (m_in 419 (by decide +kernel) rfl) (m_fc (m_in 420 (by decide +kernel) rfl) (m_fc (m_in 421 (by decide +kernel) rfl) (m_fc (m_in 422 (by decide +kernel) rfl) (m_fc (m_in 828 (by decide +kernel) rfl) (m_fc (m_in 829 (by decide +kernel) rfl) (m_fc (m_in 838 (by decide +kernel) rfl) (m_fc (m_in 841 (by decide +kernel) rfl) (m_fc (m_in 842 (by decide +kernel) rfl) (m_fc (m_in 843 (by decide +kernel) rfl) (m_fc (m_in 848 (by decide +kernel) rfl) (m_fc (m_in 850 (by decide +kernel) rfl) (m_fc (m_in 851 (by decide +kernel) rfl) (m_fc (m_in 852 (by decide +kernel) rfl) (m_fc (m_in 853 (by decide +kernel) rfl) (m_fc (m_in 858 (by decide +kernel) rfl) (m_fc (m_in 859 (by decide +kernel) rfl) (m_fc (m_in 860 (by decide +kernel) rfl) (m_fc (m_in 862 (by decide +kernel) rfl) (m_fc (m_in 865 (by decide +kernel) rfl) (m_fc (m_in 866 (by decide +kernel) rfl) (m_fc (m_in 867 (by decide +kernel) rfl) (m_fc (m_in 868 (by decide +kernel) rfl) (m_fc (m_in 869 (by decide +kernel) rfl) (m_fc (m_in 870 (by decide +kernel) rfl) (m_fc (m_in 871 (by decide +kernel) rfl) (m_fc (m_in 878 (by decide +kernel) rfl) (m_fc (m_in 879 (by decide +kernel) rfl) (m_fc (m_in 881 (by decide +kernel) rfl) (m_fc (m_in 882 (by decide +kernel) rfl) (m_fc (m_in 883 (by decide +kernel) rfl) (m_fc (m_in 830 (by decide +kernel) rfl) (m_fc (m_in 831 (by decide +kernel) rfl) (m_fc (m_in 833 (by decide +kernel) rfl) (m_fc (m_in 832 (by decide +kernel) rfl) (m_fc (m_in 835 (by decide +kernel) rfl) (m_fc (m_in 834 (by decide +kernel) rfl) (m_fc (m_in 836 (by decide +kernel) rfl) (m_fc (m_in 837 (by decide +kernel) rfl) (m_fc (m_in 840 (by decide +kernel) rfl) (m_fc (m_in 844 (by decide +kernel) rfl) (m_fc (m_in 845 (by decide +kernel) rfl) (m_fc (m_in 846 (by decide +kernel) rfl) (m_fc (m_in 849 (by decide +kernel) rfl) (m_fc (m_in 847 (by decide +kernel) rfl) (m_fc (m_in 861 (by decide +kernel) rfl) (m_fc (m_in 863 (by decide +kernel) rfl) (m_fc (m_in 872 (by decide +kernel) rfl) (m_fc (m_in 873 (by decide +kernel) rfl) (m_fc (m_in 864 (by decide +kernel) rfl) (m_fc (m_in 854 (by decide +kernel) rfl) (m_fc (m_in 874 (by decide +kernel) rfl) (m_fc (m_in 855 (by decide +kernel) rfl) (m_fc (m_in 857 (by decide +kernel) rfl) (m_fc (m_in 856 (by decide +kernel) rfl) (m_fc (m_in 839 (by decide +kernel) rfl) (m_fc (m_in 875 (by decide +kernel) rfl) (m_fc (m_in 876 (by decide +kernel) rfl) (m_fc (m_in 877 (by decide +kernel) rfl) (m_fc (m_in 880 (by decide +kernel) rfl) (m_fn))))))))))))))))))))))))))))))))))))))))))))))))))))))))))))))))))))))))))))))))))))))))))))))))))))))))))))
def m_lkN : List (Nat × Nat × Nat × Nat) := [(1, 46, 4, 1), (1, 49, 4, 2), (1, 64, 6, 4), (1, 67, 6, 0), (1, 71, 6, 2), (1, 74, 6, 1), (1, 115, 7, 1), (1, 119, 7, 2), (1, 125, 7, 3), (1, 130, 7, 7), (1, 139, 7, 8), (1, 155, 7, 5), (1, 174, 7, 13), (1, 191, 7, 6), (1, 208, 0, 3), (3, 32, 0, 3), (3, 37, 0, 1), (3, 40, 0, 2), (3, 43, 0, 0), (5, 25, 7, 0), (5, 31, 7, 5), (5, 34, 7, 11), (5, 37, 7, 10), (6, 84, 2, 1), (7, 52, 0, 3), (8, 53, 2, 1), (8, 83, 1, 9), (8, 86, 7, 0), (8, 94, 7, 4), (8, 96, 1, 10), (8, 99, 7, 1), (8, 102, 7, 2), (8, 105, 7, 5), (8, 108, 7, 6), (8, 111, 7, 7), (8, 114, 7, 8), (8, 117, 7, 3), (8, 120, 7, 10), (8, 124, 7, 11), (8, 136, 7, 13), (8, 148, 3, 4), (8, 151, 3, 2), (8, 154, 3, 0), (8, 157, 3, 3), (8, 164, 5, 3), (8, 171, 5, 0), (8, 174, 5, 1), (8, 177, 5, 2)]
theorem m_lkN_ok : ∀ q ∈ m_lkN, Cond.fieldLinkNest (m_RR q.1) q.2.1 (m_TT q.2.2.1 q.2.2.2).1 (m_TT q.2.2.1 q.2.2.2).2.1 (m_TT q.2.2.1 q.2.2.2).2.2.1 RX8 ∈ lw_tbl :=
  m_fc (List.mem_of_getElem? (i := 322) (by decide +kernel)) (m_fc (List.mem_of_getElem? (i := 323) (by decide +kernel)) (m_fc (List.mem_of_getElem? (i := 196) (by decide +kernel)) (m_fc (List.mem_of_getElem? (i := 189) (by decide +kernel)) (m_fc (List.mem_of_getElem? (i := 193) (by decide +kernel)) (m_fc (List.mem_of_getElem? (i := 191) (by decide +kernel)) (m_fc (List.mem_of_getElem? (i := 246) (by decide +kernel)) (m_fc (List.mem_of_getElem? (i := 249) (by decide +kernel)) (m_fc (List.mem_of_getElem? (i := 252) (by decide +kernel)) (m_fc (List.mem_of_getElem? (i := 264) (by decide +kernel)) (m_fc (List.mem_of_getElem? (i := 267) (by decide +kernel)) (m_fc (List.mem_of_getElem? (i := 258) (by decide +kernel)) (m_fc (List.mem_of_getElem? (i := 278) (by decide +kernel)) (m_fc (List.mem_of_getElem? (i := 261) (by decide +kernel)) (m_fc (List.mem_of_getElem? (i := 232) (by decide +kernel)) (m_fc (List.mem_of_getElem? (i := 231) (by decide +kernel)) (m_fc (List.mem_of_getElem? (i := 226) (by decide +kernel)) (m_fc (List.mem_of_getElem? (i := 228) (by decide +kernel)) (m_fc (List.mem_of_getElem? (i := 224) (by decide +kernel)) (m_fc (List.mem_of_getElem? (i := 243) (by decide +kernel)) (m_fc (List.mem_of_getElem? (i := 256) (by decide +kernel)) (m_fc (List.mem_of_getElem? (i := 273) (by decide +kernel)) (m_fc (List.mem_of_getElem? (i := 270) (by decide +kernel)) (m_fc (List.mem_of_getElem? (i := 109) (by decide +kernel)) (m_fc (List.mem_of_getElem? (i := 230) (by decide +kernel)) (m_fc (List.mem_of_getElem? (i := 108) (by decide +kernel)) (m_fc (List.mem_of_getElem? (i := 342) (by decide +kernel)) (m_fc (List.mem_of_getElem? (i := 244) (by decide +kernel)) (m_fc (List.mem_of_getElem? (i := 254) (by decide +kernel)) (m_fc (List.mem_of_getElem? (i := 344) (by decide +kernel)) (m_fc (List.mem_of_getElem? (i := 245) (by decide +kernel)) (m_fc (List.mem_of_getElem? (i := 248) (by decide +kernel)) (m_fc (List.mem_of_getElem? (i := 257) (by decide +kernel)) (m_fc (List.mem_of_getElem? (i := 260) (by decide +kernel)) (m_fc (List.mem_of_getElem? (i := 263) (by decide +kernel)) (m_fc (List.mem_of_getElem? (i := 266) (by decide +kernel)) (m_fc (List.mem_of_getElem? (i := 251) (by decide +kernel)) (m_fc (List.mem_of_getElem? (i := 271) (by decide +kernel)) (m_fc (List.mem_of_getElem? (i := 274) (by decide +kernel)) (m_fc (List.mem_of_getElem? (i := 277) (by decide +kernel)) (m_fc (List.mem_of_getElem? (i := 405) (by decide +kernel)) (m_fc (List.mem_of_getElem? (i := 401) (by decide +kernel)) (m_fc (List.mem_of_getElem? (i := 398) (by decide +kernel)) (m_fc (List.mem_of_getElem? (i := 403) (by decide +kernel)) (m_fc (List.mem_of_getElem? (i := 381) (by decide +kernel)) (m_fc (List.mem_of_getElem? (i := 375) (by decide +kernel)) (m_fc (List.mem_of_getElem? (i := 377) (by decide +kernel)) (m_fc (List.mem_of_getElem? (i := 379) (by decide +kernel)) (m_fn))))))))))))))))))))))))))))))))))))))))))))))))
def m_lkC : List (Nat × Nat × Nat) := [(1, 9, 4), (7, 29, 0), (8, 9, 2), (8, 16, 6), (8, 23, 7), (8, 30, 1), (8, 39, 5), (8, 46, 3), (10, 7, 8), (10, 10, 9)]
theorem m_lkC_ok : ∀ q ∈ m_lkC, Cond.classLink (m_RR q.1) q.2.1 (m_RR q.2.2) ∈ m_ws ∧ Cond.instantiable (m_RR q.2.2) (m_NN q.2.2) ∈ m_ws ∧ Cond.initialized (m_RR q.2.2) ∈ m_ws :=
  m_fc (⟨m_in 314 (by decide +kernel) rfl, m_in 315 (by decide +kernel) rfl, m_in 88 (by decide +kernel) rfl⟩) (m_fc (⟨m_in 217 (by decide +kernel) rfl, m_in 218 (by decide +kernel) rfl, m_in 86 (by decide +kernel) rfl⟩) (m_fc (⟨m_in 100 (by decide +kernel) rfl, m_in 101 (by decide +kernel) rfl, m_in 79 (by decide +kernel) rfl⟩) (m_fc (⟨m_in 116 (by decide +kernel) rfl, m_in 117 (by decide +kernel) rfl, m_in 80 (by decide +kernel) rfl⟩) (m_fc (⟨m_in 211 (by decide +kernel) rfl, m_in 212 (by decide +kernel) rfl, m_in 85 (by decide +kernel) rfl⟩) (m_fc (⟨m_in 308 (by decide +kernel) rfl, m_in 309 (by decide +kernel) rfl, m_in 87 (by decide +kernel) rfl⟩) (m_fc (⟨m_in 368 (by decide +kernel) rfl, m_in 369 (by decide +kernel) rfl, m_in 89 (by decide +kernel) rfl⟩) (m_fc (⟨m_in 391 (by decide +kernel) rfl, m_in 392 (by decide +kernel) rfl, m_in 90 (by decide +kernel) rfl⟩) (m_fc (⟨m_in 92 (by decide +kernel) rfl, m_in 93 (by decide +kernel) rfl, m_in 78 (by decide +kernel) rfl⟩) (m_fc (⟨m_in 807 (by decide +kernel) rfl, m_in 808 (by decide +kernel) rfl, m_in 91 (by decide +kernel) rfl⟩) (m_fn))))))))))
def m_lkK : List (Nat × Nat × Int64) := [(2, 19, 255), (2, 25, (-1)), (5, 44, 4), (5, 46, 9), (5, 48, 3), (5, 50, 2), (6, 121, 10), (7, 62, 255), (9, 95, 213629677), (9, 97, 3983535845864), (9, 99, 31880592101), (9, 101, 3811208377074), (9, 103, 244939892), (9, 105, 209222117), (9, 107, 443302570456692), (9, 109, 1602148), (9, 111, 1782516), (9, 113, 1931749), (9, 115, 26547417323), (9, 117, 32702559844), (9, 119, 31358498807), (9, 121, 13542), (9, 123, 213596645), (9, 213, 255), (9, 360, 4), (9, 362, 9), (9, 364, 3), (9, 366, 5), (10, 13, 4294967295)]
theorem m_lkK_ok : ∀ q ∈ m_lkK, Cond.constantLong (m_RR q.1) q.2.1 q.2.2 ∈ m_ws :=
  m_fc (m_in 444 (by decide +kernel) rfl) (m_fc (m_in 729 (by decide +kernel) rfl) (m_fc (m_in 775 (by decide +kernel) rfl) (m_fc (m_in 776 (by decide +kernel) rfl) (m_fc (m_in 777 (by decide +kernel) rfl) (m_fc (m_in 778 (by decide +kernel) rfl) (m_fc (m_in 491 (by decide +kernel) rfl) (m_fc (m_in 605 (by decide +kernel) rfl) (m_fc (m_in 813 (by decide +kernel) rfl) (m_fc (m_in 814 (by decide +kernel) rfl) (m_fc (m_in 815 (by decide +kernel) rfl) (m_fc (m_in 816 (by decide +kernel) rfl) (m_fc (m_in 817 (by decide +kernel) rfl) (m_fc (m_in 818 (by decide +kernel) rfl) (m_fc (m_in 819 (by decide +kernel) rfl) (m_fc (m_in 820 (by decide +kernel) rfl) (m_fc (m_in 821 (by decide +kernel) rfl) (m_fc (m_in 822 (by decide +kernel) rfl) (m_fc (m_in 823 (by decide +kernel) rfl) (m_fc (m_in 824 (by decide +kernel) rfl) (m_fc (m_in 825 (by decide +kernel) rfl) (m_fc (m_in 826 (by decide +kernel) rfl) (m_fc (m_in 827 (by decide +kernel) rfl) (m_fc (m_in 1083 (by decide +kernel) rfl) (m_fc (m_in 1216 (by decide +kernel) rfl) (m_fc (m_in 1217 (by decide +kernel) rfl) (m_fc (m_in 1218 (by decide +kernel) rfl) (m_fc (m_in 1219 (by decide +kernel) rfl) (m_fc (m_in 1240 (by decide +kernel) rfl) (m_fn)))))))))))))))))))))))))))))
def m_strL : List Nat := [23, 29, 31, 33, 35, 37, 39, 41, 43, 45, 47, 49, 51, 53, 55]
def m_strT : List String := ["enum", "switch", "value", "number", "text", "case", "default", "add", "let", "use", "break", "yield", "throw", "if", "else"]
theorem m_str_ok : ∀ i, i < 15 → Cond.stringRef RX6 (m_strL.getD i 0) (m_strT.getD i "") ∈ lw_tbl := by
  intro i hi
  have h : ∀ j : Fin 15, lw_tbl[([122, 174, 175, 176, 177, 178, 179, 180, 181, 182, 183, 184, 185, 186, 187] : List Nat).getD j.val 0]? = some (Cond.stringRef RX6 (m_strL.getD j.val 0) (m_strT.getD j.val "")) := by decide +kernel
  exact List.mem_of_getElem? (h ⟨i, hi⟩)
theorem m_lay0 : ∀ w ∈ u_ws (m_RR 0) (m_TT 0) (m_NN 0), w ∈ m_ws :=
  m_fc (m_in 233 (by decide +kernel) rfl) (m_fc (m_in 235 (by decide +kernel) rfl) (m_fc (m_in 237 (by decide +kernel) rfl) (m_fc (m_in 239 (by decide +kernel) rfl) (m_fn))))
theorem m_lay1 : ∀ w ∈ u_ws (m_RR 1) (m_TT 1) (m_NN 1), w ∈ m_ws :=
  m_fc (m_in 345 (by decide +kernel) rfl) (m_fc (m_in 347 (by decide +kernel) rfl) (m_fc (m_in 349 (by decide +kernel) rfl) (m_fc (m_in 351 (by decide +kernel) rfl) (m_fc (m_in 353 (by decide +kernel) rfl) (m_fc (m_in 355 (by decide +kernel) rfl) (m_fc (m_in 357 (by decide +kernel) rfl) (m_fc (m_in 359 (by decide +kernel) rfl) (m_fc (m_in 361 (by decide +kernel) rfl) (m_fc (m_in 363 (by decide +kernel) rfl) (m_fc (m_in 365 (by decide +kernel) rfl) (m_fn)))))))))))
theorem m_lay2 : ∀ w ∈ u_ws (m_RR 2) (m_TT 2) (m_NN 2), w ∈ m_ws :=
  m_fc (m_in 110 (by decide +kernel) rfl) (m_fc (m_in 112 (by decide +kernel) rfl) (m_fn))
theorem m_lay3 : ∀ w ∈ u_ws (m_RR 3) (m_TT 3) (m_NN 3), w ∈ m_ws :=
  m_fc (m_in 406 (by decide +kernel) rfl) (m_fc (m_in 408 (by decide +kernel) rfl) (m_fc (m_in 410 (by decide +kernel) rfl) (m_fc (m_in 412 (by decide +kernel) rfl) (m_fc (m_in 414 (by decide +kernel) rfl) (m_fn)))))
theorem m_lay4 : ∀ w ∈ u_ws (m_RR 4) (m_TT 4) (m_NN 4), w ∈ m_ws :=
  m_fc (m_in 325 (by decide +kernel) rfl) (m_fc (m_in 327 (by decide +kernel) rfl) (m_fc (m_in 329 (by decide +kernel) rfl) (m_fn)))
theorem m_lay5 : ∀ w ∈ u_ws (m_RR 5) (m_TT 5) (m_NN 5), w ∈ m_ws :=
  m_fc (m_in 382 (by decide +kernel) rfl) (m_fc (m_in 384 (by decide +kernel) rfl) (m_fc (m_in 386 (by decide +kernel) rfl) (m_fc (m_in 388 (by decide +kernel) rfl) (m_fn))))
theorem m_lay6 : ∀ w ∈ u_ws (m_RR 6) (m_TT 6) (m_NN 6), w ∈ m_ws :=
  m_fc (m_in 197 (by decide +kernel) rfl) (m_fc (m_in 199 (by decide +kernel) rfl) (m_fc (m_in 201 (by decide +kernel) rfl) (m_fc (m_in 203 (by decide +kernel) rfl) (m_fc (m_in 205 (by decide +kernel) rfl) (m_fn)))))
theorem m_lay7 : ∀ w ∈ u_ws (m_RR 7) (m_TT 7) (m_NN 7), w ∈ m_ws :=
  m_fc (m_in 279 (by decide +kernel) rfl) (m_fc (m_in 281 (by decide +kernel) rfl) (m_fc (m_in 283 (by decide +kernel) rfl) (m_fc (m_in 285 (by decide +kernel) rfl) (m_fc (m_in 287 (by decide +kernel) rfl) (m_fc (m_in 289 (by decide +kernel) rfl) (m_fc (m_in 291 (by decide +kernel) rfl) (m_fc (m_in 293 (by decide +kernel) rfl) (m_fc (m_in 295 (by decide +kernel) rfl) (m_fc (m_in 297 (by decide +kernel) rfl) (m_fc (m_in 299 (by decide +kernel) rfl) (m_fc (m_in 301 (by decide +kernel) rfl) (m_fc (m_in 303 (by decide +kernel) rfl) (m_fc (m_in 305 (by decide +kernel) rfl) (m_fn))))))))))))))
theorem m_lay8 : ∀ w ∈ u_ws (m_RR 8) (m_TT 8) (m_NN 8), w ∈ m_ws :=
  m_fc (m_in 423 (by decide +kernel) rfl) (m_fc (m_in 425 (by decide +kernel) rfl) (m_fc (m_in 427 (by decide +kernel) rfl) (m_fc (m_in 429 (by decide +kernel) rfl) (m_fc (m_in 431 (by decide +kernel) rfl) (m_fc (m_in 433 (by decide +kernel) rfl) (m_fn))))))
theorem m_lay9 : ∀ w ∈ u_ws (m_RR 9) (m_TT 9) (m_NN 9), w ∈ m_ws :=
  m_fc (m_in 884 (by decide +kernel) rfl) (m_fc (m_in 886 (by decide +kernel) rfl) (m_fc (m_in 888 (by decide +kernel) rfl) (m_fc (m_in 890 (by decide +kernel) rfl) (m_fc (m_in 892 (by decide +kernel) rfl) (m_fc (m_in 894 (by decide +kernel) rfl) (m_fc (m_in 896 (by decide +kernel) rfl) (m_fc (m_in 898 (by decide +kernel) rfl) (m_fc (m_in 900 (by decide +kernel) rfl) (m_fc (m_in 902 (by decide +kernel) rfl) (m_fc (m_in 904 (by decide +kernel) rfl) (m_fc (m_in 906 (by decide +kernel) rfl) (m_fc (m_in 908 (by decide +kernel) rfl) (m_fc (m_in 910 (by decide +kernel) rfl) (m_fc (m_in 912 (by decide +kernel) rfl) (m_fc (m_in 914 (by decide +kernel) rfl) (m_fc (m_in 916 (by decide +kernel) rfl) (m_fc (m_in 918 (by decide +kernel) rfl) (m_fc (m_in 920 (by decide +kernel) rfl) (m_fc (m_in 922 (by decide +kernel) rfl) (m_fc (m_in 924 (by decide +kernel) rfl) (m_fc (m_in 926 (by decide +kernel) rfl) (m_fc (m_in 928 (by decide +kernel) rfl) (m_fc (m_in 930 (by decide +kernel) rfl) (m_fc (m_in 932 (by decide +kernel) rfl) (m_fc (m_in 934 (by decide +kernel) rfl) (m_fc (m_in 936 (by decide +kernel) rfl) (m_fc (m_in 938 (by decide +kernel) rfl) (m_fc (m_in 940 (by decide +kernel) rfl) (m_fc (m_in 942 (by decide +kernel) rfl) (m_fc (m_in 944 (by decide +kernel) rfl) (m_fc (m_in 946 (by decide +kernel) rfl) (m_fc (m_in 948 (by decide +kernel) rfl) (m_fc (m_in 950 (by decide +kernel) rfl) (m_fc (m_in 952 (by decide +kernel) rfl) (m_fc (m_in 954 (by decide +kernel) rfl) (m_fc (m_in 956 (by decide +kernel) rfl) (m_fc (m_in 958 (by decide +kernel) rfl) (m_fc (m_in 960 (by decide +kernel) rfl) (m_fc (m_in 962 (by decide +kernel) rfl) (m_fc (m_in 964 (by decide +kernel) rfl) (m_fc (m_in 966 (by decide +kernel) rfl) (m_fc (m_in 968 (by decide +kernel) rfl) (m_fc (m_in 970 (by decide +kernel) rfl) (m_fc (m_in 972 (by decide +kernel) rfl) (m_fc (m_in 974 (by decide +kernel) rfl) (m_fc (m_in 976 (by decide +kernel) rfl) (m_fc (m_in 978 (by decide +kernel) rfl) (m_fc (m_in 980 (by decide +kernel) rfl) (m_fc (m_in 982 (by decide +kernel) rfl) (m_fc (m_in 984 (by decide +kernel) rfl) (m_fc (m_in 986 (by decide +kernel) rfl) (m_fc (m_in 988 (by decide +kernel) rfl) (m_fc (m_in 990 (by decide +kernel) rfl) (m_fc (m_in 992 (by decide +kernel) rfl) (m_fc (m_in 994 (by decide +kernel) rfl) (m_fn))))))))))))))))))))))))))))))))))))))))))))))))))))))))
theorem m_ac_byte : Cond.arrayClass .byte ∈ m_ws := m_in 208 (by decide +kernel) rfl
theorem m_ac_char : Cond.arrayClass .char ∈ m_ws := m_in 115 (by decide +kernel) rfl
theorem m_ac_int : Cond.arrayClass .int ∈ m_ws := m_in 242 (by decide +kernel) rfl
theorem m_ac_long : Cond.arrayClass .long ∈ m_ws := m_in 210 (by decide +kernel) rfl
theorem m_ac_short : Cond.arrayClass .short ∈ m_ws := m_in 209 (by decide +kernel) rfl
theorem m_ac_boolean : Cond.arrayClass .boolean ∈ m_ws := m_in 997 (by decide +kernel) rfl
theorem m_obj : Cond.instanceMethod objectInit ∈ m_ws ∧ Cond.code objectInit ⟨#[0xb1]⟩ 1 none ∈ m_ws := ⟨m_in 98 (by decide +kernel) rfl, m_in 99 (by decide +kernel) rfl⟩

def m_lkM : List (Nat × Nat × Nat × Nat) := [(0, 3, 999, 1), (1, 3, 999, 1), (1, 41, 76, 113), (1, 78, 5, 17), (1, 82, 7, 19), (1, 86, 10, 17), (1, 89, 6, 17), (1, 93, 13, 18), (1, 97, 8, 18), (1, 101, 11, 18), (1, 104, 12, 18), (1, 107, 14, 18), (1, 111, 15, 19), (1, 122, 17, 17), (1, 127, 19, 18), (1, 133, 77, 113), (1, 136, 20, 17), (1, 142, 23, 18), (1, 145, 22, 17), (1, 148, 21, 17), (1, 151, 81, 114), (1, 157, 79, 114), (1, 161, 25, 18), (1, 164, 33, 17), (1, 167, 26, 18), (1, 170, 55, 65), (1, 178, 1, 4), (1, 184, 24, 17), (1, 188, 50, 66), (1, 193, 27, 18), (1, 196, 28, 18), (1, 199, 29, 17), (1, 202, 31, 17), (1, 205, 52, 66), (1, 211, 2, 2), (1, 214, 51, 66), (1, 217, 35, 17), (1, 220, 30, 19), (1, 223, 54, 66), (1, 226, 32, 17), (1, 229, 34, 19), (1, 232, 53, 66), (1, 235, 84, 113), (2, 3, 999, 1), (2, 21, 38, 34), (2, 27, 40, 35), (3, 3, 999, 1), (3, 18, 45, 49), (3, 47, 48, 50), (3, 51, 47, 49), (4, 3, 999, 1), (5, 3, 999, 1), (5, 40, 58, 83), (6, 3, 999, 1), (6, 25, 62, 97), (6, 74, 64, 98), (6, 78, 38, 34), (6, 86, 74, 100), (6, 90, 65, 100), (6, 94, 70, 97), (6, 98, 66, 99), (6, 101, 71, 97), (6, 104, 68, 99), (6, 107, 69, 99), (6, 110, 73, 97), (6, 113, 40, 35), (6, 117, 67, 98), (6, 123, 72, 97), (7, 3, 999, 1), (7, 58, 80, 113), (7, 64, 82, 114), (8, 3, 999, 1), (8, 18, 61, 97), (8, 32, 3, 19), (8, 57, 39, 35), (8, 61, 63, 98), (8, 65, 44, 49), (8, 68, 4, 17), (8, 71, 9, 17), (8, 74, 16, 17), (8, 77, 18, 17), (8, 80, 36, 17), (8, 90, 57, 82), (8, 127, 41, 33), (8, 131, 83, 114), (8, 135, 45, 49), (8, 140, 78, 114), (8, 144, 46, 52), (8, 160, 60, 81), (8, 167, 59, 82), (8, 180, 42, 33), (9, 1, 999, 1), (9, 131, 104, 146), (9, 141, 105, 145), (9, 145, 108, 145), (9, 148, 106, 145), (9, 151, 109, 145), (9, 154, 110, 145), (9, 170, 111, 146), (9, 174, 114, 146), (9, 177, 107, 145), (9, 180, 113, 145), (9, 183, 117, 145), (9, 190, 116, 146), (9, 193, 120, 147), (9, 197, 115, 146), (9, 215, 118, 145), (9, 218, 123, 146), (9, 222, 122, 148), (9, 226, 112, 147), (9, 248, 125, 148), (9, 252, 128, 145), (9, 255, 130, 145), (9, 262, 126, 146), (9, 266, 131, 145), (9, 269, 129, 146), (9, 273, 134, 145), (9, 276, 132, 145), (9, 279, 127, 146), (9, 282, 135, 145), (9, 285, 136, 145), (9, 288, 137, 145), (9, 291, 133, 145), (9, 294, 139, 145), (9, 297, 138, 145), (9, 300, 140, 146), (9, 309, 124, 145), (9, 318, 141, 145), (9, 321, 142, 145), (9, 333, 119, 145), (9, 336, 121, 145), (9, 339, 143, 145), (9, 342, 145, 145), (9, 345, 156, 145), (9, 348, 150, 146), (9, 354, 149, 146), (10, 9, 85, 129), (10, 12, 102, 145), (10, 15, 86, 131), (10, 19, 103, 147), (10, 20, 87, 129), (10, 24, 144, 145), (10, 25, 88, 129), (10, 28, 146, 145), (10, 29, 89, 130), (10, 33, 147, 146), (10, 34, 90, 131), (10, 38, 148, 147), (10, 39, 91, 131), (10, 42, 151, 147), (10, 43, 92, 129), (10, 46, 152, 145), (10, 47, 93, 129), (10, 50, 153, 145), (10, 51, 94, 130), (10, 54, 154, 146), (10, 55, 95, 129), (10, 58, 155, 145), (10, 59, 96, 129), (10, 62, 157, 145), (10, 63, 97, 129), (10, 66, 158, 145), (10, 67, 98, 130), (10, 70, 159, 146), (10, 71, 99, 130), (10, 74, 160, 146), (10, 75, 100, 130), (10, 78, 161, 146), (10, 79, 101, 129), (10, 82, 162, 145)]
def m_lkMN : List (Nat × Nat × Nat × Nat) := [(1, 11, 49, 65), (7, 31, 0, 1), (8, 11, 37, 33), (8, 25, 75, 113), (8, 41, 56, 81), (8, 48, 43, 49)]
def m_Y : Nat → MethodName := fun id => (([yX0_init, yX0_step, yX0_leadHere, yX1_init, yX1_begin, yX1_kind, yX1_tokenValue, yX1_fail, yX1_expect, yX1_enumerations, yX1_enumeration, yX1_constants, yX1_constant, yX1_findEnumeration, yX1_constantCount, yX1_findConstant, yX1_selector, yX1_chooseEnumeration, yX1_arms, yX1_arm, yX1_labels, yX1_oneLabel, yX1_body, yX1_stmts, yX1_beginsStmt, yX1_openStmt, yX1_stmt, yX1_block, yX1_branches, yX1_let, yX1_setName, yX1_simple, yX1_useName, yX1_yieldNumber, yX1_leave, yX1_number, yX1_end, yX2_init, yX2_at, yX2_append, yX2_packed, yX2_whole, yX2_wholeHash, yX3_init, yX3_forget, yX3_begin, yX3_go, yX3_isName, yX3_addToTrace, yX4_init, yX4_find, yX4_add, yX4_shrink, yX4_isSet, yX4_makeSet, yX4_isReached, yX5_init, yX5_make, yX5_put, yX5_has, yX5_isDense, yX6_init, yX6_packedWord, yX6_cut, yX6_behindBlanks, yX6_cutOne, yX6_cutName, yX6_nameKind, yX6_cutNumber, yX6_cutText, yX6_isSmall, yX6_isFigure, yX6_isTextSign, yX6_signKind, yX6_keep, yX7_init, yX7_clear, yX7_addArm, yX7_startOf, yX7_addLabel, yX7_packedHash, yX7_hasLabel, yX7_labelWith, yX7_armFor, yX7_isExhaustive, yX8_init, yX8_type, yX8_read, yX8_place, yX8_told, yX8_label, yX8_run, yX8_runNone, yX8_traced, yX8_trace, yX8_value, yX8_form, yX8_keys, yX8_key, yX8_target, yX8_alike, yX8_hash, yX9_init, yX9_type, yX9_octet, yX9_isSmall, yX9_isFigure, yX9_next, yX9_nextName, yX9_nextNumber, yX9_nextText, yX9_wrong, yX9_wrongAt, yX9_cannot, yX9_isSign, yX9_isWord, yX9_wantsSign, yX9_number, yX9_signed, yX9_readEnum, yX9_constantOf, yX9_readHead, yX9_isOther, yX9_hashOf, yX9_readLabel, yX9_emit, yX9_inScope, yX9_push, yX9_pop, yX9_through, yX9_isList, yX9_begin, yX9_dead, yX9_simple, yX9_use, yX9_let, yX9_yieldStmt, yX9_isSimple, yX9_stmt, yX9_endBlock, yX9_readStmts, yX9_readOld, yX9_readBody, yX9_readArm, yX9_read, yX9_emitEnd, yX9_place, yX9_told, yX9_label, yX9_armFor, yX9_isTextAt, yX9_run, yX9_runNone, yX9_traced, yX9_trace, yX9_value, yX9_findKeys, yX9_form, yX9_keys, yX9_key, yX9_target, yX9_alike, yX9_hash] : List MethodName)[id]?).getD objectInit
theorem m_lkM_ok : ∀ q ∈ m_lkM, Cond.methodLink (m_RR q.1) q.2.1 (m_Y q.2.2.1) ∈ m_ws :=
  m_fc (m_in 222 (by decide +kernel) rfl) (m_fc (m_in 313 (by decide +kernel) rfl) (m_fc (m_in 514 (by decide +kernel) rfl) (m_fc (m_in 522 (by decide +kernel) rfl) (m_fc (m_in 530 (by decide +kernel) rfl) (m_fc (m_in 526 (by decide +kernel) rfl) (m_fc (m_in 534 (by decide +kernel) rfl) (m_fc (m_in 538 (by decide +kernel) rfl) (m_fc (m_in 542 (by decide +kernel) rfl) (m_fc (m_in 546 (by decide +kernel) rfl) (m_fc (m_in 550 (by decide +kernel) rfl) (m_fc (m_in 554 (by decide +kernel) rfl) (m_fc (m_in 558 (by decide +kernel) rfl) (m_fc (m_in 566 (by decide +kernel) rfl) (m_fc (m_in 574 (by decide +kernel) rfl) (m_fc (m_in 578 (by decide +kernel) rfl) (m_fc (m_in 582 (by decide +kernel) rfl) (m_fc (m_in 606 (by decide +kernel) rfl) (m_fc (m_in 689 (by decide +kernel) rfl) (m_fc (m_in 586 (by decide +kernel) rfl) (m_fc (m_in 590 (by decide +kernel) rfl) (m_fc (m_in 598 (by decide +kernel) rfl) (m_fc (m_in 617 (by decide +kernel) rfl) (m_fc (m_in 669 (by decide +kernel) rfl) (m_fc (m_in 613 (by decide +kernel) rfl) (m_fc (m_in 625 (by decide +kernel) rfl) (m_fc (m_in 641 (by decide +kernel) rfl) (m_fc (m_in 610 (by decide +kernel) rfl) (m_fc (m_in 621 (by decide +kernel) rfl) (m_fc (m_in 629 (by decide +kernel) rfl) (m_fc (m_in 637 (by decide +kernel) rfl) (m_fc (m_in 649 (by decide +kernel) rfl) (m_fc (m_in 677 (by decide +kernel) rfl) (m_fc (m_in 633 (by decide +kernel) rfl) (m_fc (m_in 645 (by decide +kernel) rfl) (m_fc (m_in 653 (by decide +kernel) rfl) (m_fc (m_in 657 (by decide +kernel) rfl) (m_fc (m_in 661 (by decide +kernel) rfl) (m_fc (m_in 665 (by decide +kernel) rfl) (m_fc (m_in 681 (by decide +kernel) rfl) (m_fc (m_in 673 (by decide +kernel) rfl) (m_fc (m_in 685 (by decide +kernel) rfl) (m_fc (m_in 697 (by decide +kernel) rfl) (m_fc (m_in 105 (by decide +kernel) rfl) (m_fc (m_in 482 (by decide +kernel) rfl) (m_fc (m_in 730 (by decide +kernel) rfl) (m_fc (m_in 396 (by decide +kernel) rfl) (m_fc (m_in 506 (by decide +kernel) rfl) (m_fc (m_in 744 (by decide +kernel) rfl) (m_fc (m_in 748 (by decide +kernel) rfl) (m_fc (m_in 319 (by decide +kernel) rfl) (m_fc (m_in 373 (by decide +kernel) rfl) (m_fc (m_in 705 (by decide +kernel) rfl) (m_fc (m_in 121 (by decide +kernel) rfl) (m_fc (m_in 123 (by decide +kernel) rfl) (m_fc (m_in 453 (by decide +kernel) rfl) (m_fc (m_in 456 (by decide +kernel) rfl) (m_fc (m_in 460 (by decide +kernel) rfl) (m_fc (m_in 464 (by decide +kernel) rfl) (m_fc (m_in 468 (by decide +kernel) rfl) (m_fc (m_in 471 (by decide +kernel) rfl) (m_fc (m_in 475 (by decide +kernel) rfl) (m_fc (m_in 487 (by decide +kernel) rfl) (m_fc (m_in 492 (by decide +kernel) rfl) (m_fc (m_in 499 (by decide +kernel) rfl) (m_fc (m_in 478 (by decide +kernel) rfl) (m_fc (m_in 483 (by decide +kernel) rfl) (m_fc (m_in 496 (by decide +kernel) rfl) (m_fc (m_in 216 (by decide +kernel) rfl) (m_fc (m_in 602 (by decide +kernel) rfl) (m_fc (m_in 594 (by decide +kernel) rfl) (m_fc (m_in 97 (by decide +kernel) rfl) (m_fc (m_in 118 (by decide +kernel) rfl) (m_fc (m_in 310 (by decide +kernel) rfl) (m_fc (m_in 440 (by decide +kernel) rfl) (m_fc (m_in 449 (by decide +kernel) rfl) (m_fc (m_in 502 (by decide +kernel) rfl) (m_fc (m_in 510 (by decide +kernel) rfl) (m_fc (m_in 518 (by decide +kernel) rfl) (m_fc (m_in 562 (by decide +kernel) rfl) (m_fc (m_in 570 (by decide +kernel) rfl) (m_fc (m_in 693 (by decide +kernel) rfl) (m_fc (m_in 701 (by decide +kernel) rfl) (m_fc (m_in 725 (by decide +kernel) rfl) (m_fc (m_in 731 (by decide +kernel) rfl) (m_fc (m_in 735 (by decide +kernel) rfl) (m_fc (m_in 736 (by decide +kernel) rfl) (m_fc (m_in 740 (by decide +kernel) rfl) (m_fc (m_in 771 (by decide +kernel) rfl) (m_fc (m_in 787 (by decide +kernel) rfl) (m_fc (m_in 803 (by decide +kernel) rfl) (m_fc (m_in 812 (by decide +kernel) rfl) (m_fc (m_in 1010 (by decide +kernel) rfl) (m_fc (m_in 1014 (by decide +kernel) rfl) (m_fc (m_in 1017 (by decide +kernel) rfl) (m_fc (m_in 1021 (by decide +kernel) rfl) (m_fc (m_in 1024 (by decide +kernel) rfl) (m_fc (m_in 1028 (by decide +kernel) rfl) (m_fc (m_in 1044 (by decide +kernel) rfl) (m_fc (m_in 1052 (by decide +kernel) rfl) (m_fc (m_in 1006 (by decide +kernel) rfl) (m_fc (m_in 1040 (by decide +kernel) rfl) (m_fc (m_in 1076 (by decide +kernel) rfl) (m_fc (m_in 1048 (by decide +kernel) rfl) (m_fc (m_in 1056 (by decide +kernel) rfl) (m_fc (m_in 1032 (by decide +kernel) rfl) (m_fc (m_in 1072 (by decide +kernel) rfl) (m_fc (m_in 1080 (by decide +kernel) rfl) (m_fc (m_in 1084 (by decide +kernel) rfl) (m_fc (m_in 1088 (by decide +kernel) rfl) (m_fc (m_in 1116 (by decide +kernel) rfl) (m_fc (m_in 1108 (by decide +kernel) rfl) (m_fc (m_in 1128 (by decide +kernel) rfl) (m_fc (m_in 1136 (by decide +kernel) rfl) (m_fc (m_in 1124 (by decide +kernel) rfl) (m_fc (m_in 1112 (by decide +kernel) rfl) (m_fc (m_in 1156 (by decide +kernel) rfl) (m_fc (m_in 1144 (by decide +kernel) rfl) (m_fc (m_in 1096 (by decide +kernel) rfl) (m_fc (m_in 1132 (by decide +kernel) rfl) (m_fc (m_in 1140 (by decide +kernel) rfl) (m_fc (m_in 1148 (by decide +kernel) rfl) (m_fc (m_in 1152 (by decide +kernel) rfl) (m_fc (m_in 1104 (by decide +kernel) rfl) (m_fc (m_in 1120 (by decide +kernel) rfl) (m_fc (m_in 1100 (by decide +kernel) rfl) (m_fc (m_in 1068 (by decide +kernel) rfl) (m_fc (m_in 1092 (by decide +kernel) rfl) (m_fc (m_in 1160 (by decide +kernel) rfl) (m_fc (m_in 1036 (by decide +kernel) rfl) (m_fc (m_in 1060 (by decide +kernel) rfl) (m_fc (m_in 1064 (by decide +kernel) rfl) (m_fc (m_in 1164 (by decide +kernel) rfl) (m_fc (m_in 1168 (by decide +kernel) rfl) (m_fc (m_in 1192 (by decide +kernel) rfl) (m_fc (m_in 1188 (by decide +kernel) rfl) (m_fc (m_in 94 (by decide +kernel) rfl) (m_fc (m_in 809 (by decide +kernel) rfl) (m_fc (m_in 436 (by decide +kernel) rfl) (m_fc (m_in 998 (by decide +kernel) rfl) (m_fc (m_in 445 (by decide +kernel) rfl) (m_fc (m_in 1002 (by decide +kernel) rfl) (m_fc (m_in 709 (by decide +kernel) rfl) (m_fc (m_in 1172 (by decide +kernel) rfl) (m_fc (m_in 713 (by decide +kernel) rfl) (m_fc (m_in 1176 (by decide +kernel) rfl) (m_fc (m_in 717 (by decide +kernel) rfl) (m_fc (m_in 1180 (by decide +kernel) rfl) (m_fc (m_in 721 (by decide +kernel) rfl) (m_fc (m_in 1184 (by decide +kernel) rfl) (m_fc (m_in 751 (by decide +kernel) rfl) (m_fc (m_in 1196 (by decide +kernel) rfl) (m_fc (m_in 755 (by decide +kernel) rfl) (m_fc (m_in 1200 (by decide +kernel) rfl) (m_fc (m_in 759 (by decide +kernel) rfl) (m_fc (m_in 1204 (by decide +kernel) rfl) (m_fc (m_in 763 (by decide +kernel) rfl) (m_fc (m_in 1208 (by decide +kernel) rfl) (m_fc (m_in 767 (by decide +kernel) rfl) (m_fc (m_in 1212 (by decide +kernel) rfl) (m_fc (m_in 779 (by decide +kernel) rfl) (m_fc (m_in 1220 (by decide +kernel) rfl) (m_fc (m_in 783 (by decide +kernel) rfl) (m_fc (m_in 1224 (by decide +kernel) rfl) (m_fc (m_in 791 (by decide +kernel) rfl) (m_fc (m_in 1228 (by decide +kernel) rfl) (m_fc (m_in 795 (by decide +kernel) rfl) (m_fc (m_in 1232 (by decide +kernel) rfl) (m_fc (m_in 799 (by decide +kernel) rfl) (m_fc (m_in 1236 (by decide +kernel) rfl) (m_fn))))))))))))))))))))))))))))))))))))))))))))))))))))))))))))))))))))))))))))))))))))))))))))))))))))))))))))))))))))))))))))))))))))))))))))))))))))))))))))))))))))))))))
theorem m_lkMN_ok : ∀ q ∈ m_lkMN, Cond.methodLinkNest (m_RR q.1) q.2.1 (m_Y q.2.2.1) RX8 ∈ lw_tbl :=
  m_fc (List.mem_of_getElem? (i := 316) (by decide +kernel)) (m_fc (List.mem_of_getElem? (i := 219) (by decide +kernel)) (m_fc (List.mem_of_getElem? (i := 102) (by decide +kernel)) (m_fc (List.mem_of_getElem? (i := 213) (by decide +kernel)) (m_fc (List.mem_of_getElem? (i := 370) (by decide +kernel)) (m_fc (List.mem_of_getElem? (i := 393) (by decide +kernel)) (m_fn))))))
def m_len : Instr → Nat → Nat
  | .bipush _, _ => 2 | .sipush _, _ => 3 | .ldc _, _ => 2 | .ldc2_w _, _ => 3
  | .iload _, _ => 2 | .lload _, _ => 2 | .aload _, _ => 2 | .istore _, _ => 2 | .lstore _, _ => 2 | .astore _, _ => 2
  | .iinc _ _, _ => 3 | .ifCond _ _, _ => 3 | .if_icmp _ _, _ => 3 | .goto _, _ => 3
  | .getfield _, _ => 3 | .putfield _, _ => 3 | .invokevirtual _, _ => 3 | .invokespecial _, _ => 3 | .invokestatic _, _ => 3
  | .new _, _ => 3 | .newarray _, _ => 2 | .lookupswitch _ _, n => n | .tableswitch _ _ _ _, n => n
  | _, _ => 1
def m_tsw (pc : Nat) : Int → List Int → List (Int32 × Nat)
  | _, [] => []
  | k, o :: r => (Int32.ofInt k, ((pc : Int) + o).toNat) :: m_tsw pc (k + 1) r
def m_okX (oi : Nat) (q : mI) : Bool := match q with
  | (pc, i, _, a, b, v, sw) => match i with
    | .iconst n => decide (v = .int (Int32.ofInt n))
    | .bipush n => decide (v = .int (Int8.ofInt n).toInt32)
    | .sipush n => decide (v = .int (Int16.ofInt n).toInt32)
    | .lconst n => decide (v = .long (Int64.ofNat n))
    | .ldc n => (match v with | .ref k => Nat.ble 1000000 k && (Nat.blt k 1000015 && (decide (m_strL.getD (k - 1000000) 0 = n) && Nat.beq oi 6)) | _ => false)
    | .ldc2_w n => (match v with | .long x => decide ((oi, n, x) ∈ m_lkK) | _ => false)
    | .iload_n n => Nat.beq a n.val
    | .iload n => Nat.beq a n
    | .lload_n n => Nat.beq a n.val
    | .lload n => Nat.beq a n
    | .aload_n n => Nat.beq a n.val
    | .aload n => Nat.beq a n
    | .istore_n n => Nat.beq a n.val
    | .istore n => Nat.beq a n
    | .lstore_n n => Nat.beq a n.val
    | .lstore n => Nat.beq a n
    | .astore_n n => Nat.beq a n.val
    | .astore n => Nat.beq a n
    | .iinc n d => Nat.beq a n && decide (v = .int (Int32.ofInt d))
    | .ifCond _ off => decide ((pc : Int) + off = (a : Int))
    | .if_icmp _ off => decide ((pc : Int) + off = (a : Int))
    | .goto off => decide ((pc : Int) + off = (a : Int))
    | .lookupswitch d ps => decide ((pc : Int) + d = (a : Int)) && (decide (ps.toList.map (fun z => (Int32.ofInt z.1, ((pc : Int) + z.2).toNat)) = sw) && (ps.toList.all (fun z => decide (0 ≤ (pc : Int) + z.2) && decide ((Int32.ofInt z.1).toInt = z.1)) && ((ps.toList.zip (ps.toList.drop 1)).all (fun (a, next) => a.1 < next.1))))
    | .tableswitch d lo hi offs => decide ((pc : Int) + d = (a : Int)) && (decide (m_tsw pc lo offs.toList = sw) && (offs.toList.all (fun z => decide (0 ≤ (pc : Int) + z)) && (decide (lo = 0) && (decide (hi + 1 = (offs.size : Int)) && decide (offs.size < 1000)))))
    | .getfield n => decide ((oi, n, a, b) ∈ m_lkF) || decide ((oi, n, a, b) ∈ m_lkN)
    | .putfield n => decide ((oi, n, a, b) ∈ m_lkF) || decide ((oi, n, a, b) ∈ m_lkN)
    | .invokevirtual n => decide ((oi, n, a, b) ∈ m_lkM)
    | .invokestatic n => decide ((oi, n, a, b) ∈ m_lkM)
    | .invokespecial n => decide ((oi, n, a, b) ∈ m_lkM) || decide ((oi, n, a, b) ∈ m_lkMN)
    | .new n => decide ((oi, n, a) ∈ m_lkC)
    | _ => true
def m_okI (oi : Nat) (cc : ByteArray) (q : mI) : Bool := decide (decode cc q.1 = .ok (q.2.1, m_len q.2.1 (q.2.2.1 - q.1))) && (Nat.beq q.2.2.1 (q.1 + m_len q.2.1 (q.2.2.1 - q.1)) && m_okX oi q)
def m_okC (oi : Nat) (cc : ByteArray) (cd : mL) : Bool := cd.all (fun x => x.2.all (m_okI oi cc))
end
