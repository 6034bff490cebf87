section
-- ===== PART A: goes FIRST, ahead of the names: the tables' words, and 'selects' of the private methods out of them =====
/-- a private method of a class that the tables say can be made, by its rows of tables_1 -/
def lw_okq (q : MethodName × Nat) : Prop := (q.1.cls ≠ "java/lang/invoke/MethodHandle" ∧ q.1.cls ≠ "java/lang/invoke/VarHandle") ∧ Cond.instantiable q.1.cls q.2 ∈ tables_1 ∧ Cond.privateMethod q.1 ∈ tables_1 ∧ Cond.instanceMethod q.1 ∈ tables_1
theorem lw_p0 : lw_okq (⟨"VouchFlow$Reader", "takeCount", "(I)Z"⟩, 4) := ⟨⟨by decide +kernel, by decide +kernel⟩, List.mem_of_getElem? (i := 65) (by decide +kernel), List.mem_of_getElem? (i := 241) (by decide +kernel), List.mem_of_getElem? (i := 242) (by decide +kernel)⟩
theorem lw_p1 : lw_okq (⟨"VouchFlow$Reader", "moveTo", "(I)Z"⟩, 4) := ⟨⟨by decide +kernel, by decide +kernel⟩, List.mem_of_getElem? (i := 65) (by decide +kernel), List.mem_of_getElem? (i := 245) (by decide +kernel), List.mem_of_getElem? (i := 246) (by decide +kernel)⟩
theorem lw_p2 : lw_okq (⟨"VouchFlow$Reader", "takeBoundsEnd", "(I)Z"⟩, 4) := ⟨⟨by decide +kernel, by decide +kernel⟩, List.mem_of_getElem? (i := 65) (by decide +kernel), List.mem_of_getElem? (i := 249) (by decide +kernel), List.mem_of_getElem? (i := 250) (by decide +kernel)⟩
theorem lw_p3 : lw_okq (⟨"VouchFlow$Reader", "takeBound", "(I)Z"⟩, 4) := ⟨⟨by decide +kernel, by decide +kernel⟩, List.mem_of_getElem? (i := 65) (by decide +kernel), List.mem_of_getElem? (i := 253) (by decide +kernel), List.mem_of_getElem? (i := 254) (by decide +kernel)⟩
theorem lw_p4 : lw_okq (⟨"VouchFlow$Reader", "takeKind", "(I)Z"⟩, 4) := ⟨⟨by decide +kernel, by decide +kernel⟩, List.mem_of_getElem? (i := 65) (by decide +kernel), List.mem_of_getElem? (i := 257) (by decide +kernel), List.mem_of_getElem? (i := 258) (by decide +kernel)⟩
theorem lw_p5 : lw_okq (⟨"VouchFlow$Reader", "takeInPerson", "(I)Z"⟩, 4) := ⟨⟨by decide +kernel, by decide +kernel⟩, List.mem_of_getElem? (i := 65) (by decide +kernel), List.mem_of_getElem? (i := 271) (by decide +kernel), List.mem_of_getElem? (i := 272) (by decide +kernel)⟩
theorem lw_p6 : lw_okq (⟨"VouchFlow$Reader", "canVouchOn", "()Z"⟩, 4) := ⟨⟨by decide +kernel, by decide +kernel⟩, List.mem_of_getElem? (i := 65) (by decide +kernel), List.mem_of_getElem? (i := 275) (by decide +kernel), List.mem_of_getElem? (i := 276) (by decide +kernel)⟩
theorem lw_p7 : lw_okq (⟨"VouchFlow$Reader", "takeWhom", "(I)Z"⟩, 4) := ⟨⟨by decide +kernel, by decide +kernel⟩, List.mem_of_getElem? (i := 65) (by decide +kernel), List.mem_of_getElem? (i := 279) (by decide +kernel), List.mem_of_getElem? (i := 280) (by decide +kernel)⟩
theorem lw_p8 : lw_okq (⟨"VouchFlow$Writer", "put", "(I)V"⟩, 2) := ⟨⟨by decide +kernel, by decide +kernel⟩, List.mem_of_getElem? (i := 87) (by decide +kernel), List.mem_of_getElem? (i := 311) (by decide +kernel), List.mem_of_getElem? (i := 312) (by decide +kernel)⟩
theorem lw_p9 : lw_okq (⟨"VouchFlow$Writer", "writePerson", "(LVouchFlow$Circle;I)V"⟩, 2) := ⟨⟨by decide +kernel, by decide +kernel⟩, List.mem_of_getElem? (i := 87) (by decide +kernel), List.mem_of_getElem? (i := 315) (by decide +kernel), List.mem_of_getElem? (i := 316) (by decide +kernel)⟩
theorem lw_p10 : lw_okq (⟨"VouchFlow", "prepareWeb", "()V"⟩, 11) := ⟨⟨by decide +kernel, by decide +kernel⟩, List.mem_of_getElem? (i := 14) (by decide +kernel), List.mem_of_getElem? (i := 370) (by decide +kernel), List.mem_of_getElem? (i := 371) (by decide +kernel)⟩
theorem lw_p11 : lw_okq (⟨"VouchFlow", "waysTo", "(I)I"⟩, 11) := ⟨⟨by decide +kernel, by decide +kernel⟩, List.mem_of_getElem? (i := 14) (by decide +kernel), List.mem_of_getElem? (i := 418) (by decide +kernel), List.mem_of_getElem? (i := 419) (by decide +kernel)⟩
theorem lw_p12 : lw_okq (⟨"VouchFlow$Flow", "search", "(I)V"⟩, 7) := ⟨⟨by decide +kernel, by decide +kernel⟩, List.mem_of_getElem? (i := 102) (by decide +kernel), List.mem_of_getElem? (i := 435) (by decide +kernel), List.mem_of_getElem? (i := 436) (by decide +kernel)⟩
theorem lw_p13 : lw_okq (⟨"VouchFlow$Flow", "note", "(II)V"⟩, 7) := ⟨⟨by decide +kernel, by decide +kernel⟩, List.mem_of_getElem? (i := 102) (by decide +kernel), List.mem_of_getElem? (i := 439) (by decide +kernel), List.mem_of_getElem? (i := 440) (by decide +kernel)⟩
theorem lw_p14 : lw_okq (⟨"VouchFlow$Flow", "nextOfComing", "(I)I"⟩, 7) := ⟨⟨by decide +kernel, by decide +kernel⟩, List.mem_of_getElem? (i := 102) (by decide +kernel), List.mem_of_getElem? (i := 443) (by decide +kernel), List.mem_of_getElem? (i := 444) (by decide +kernel)⟩
theorem lw_p15 : lw_okq (⟨"VouchFlow$Flow", "nextOfGoing", "(I)I"⟩, 7) := ⟨⟨by decide +kernel, by decide +kernel⟩, List.mem_of_getElem? (i := 102) (by decide +kernel), List.mem_of_getElem? (i := 447) (by decide +kernel), List.mem_of_getElem? (i := 448) (by decide +kernel)⟩
def lw_privs_1 : List (MethodName × Nat) := [(⟨"VouchFlow$Reader", "takeCount", "(I)Z"⟩, 4), (⟨"VouchFlow$Reader", "moveTo", "(I)Z"⟩, 4), (⟨"VouchFlow$Reader", "takeBoundsEnd", "(I)Z"⟩, 4), (⟨"VouchFlow$Reader", "takeBound", "(I)Z"⟩, 4), (⟨"VouchFlow$Reader", "takeKind", "(I)Z"⟩, 4), (⟨"VouchFlow$Reader", "takeInPerson", "(I)Z"⟩, 4), (⟨"VouchFlow$Reader", "canVouchOn", "()Z"⟩, 4), (⟨"VouchFlow$Reader", "takeWhom", "(I)Z"⟩, 4), (⟨"VouchFlow$Writer", "put", "(I)V"⟩, 2), (⟨"VouchFlow$Writer", "writePerson", "(LVouchFlow$Circle;I)V"⟩, 2), (⟨"VouchFlow", "prepareWeb", "()V"⟩, 11), (⟨"VouchFlow", "waysTo", "(I)I"⟩, 11), (⟨"VouchFlow$Flow", "search", "(I)V"⟩, 7), (⟨"VouchFlow$Flow", "note", "(II)V"⟩, 7), (⟨"VouchFlow$Flow", "nextOfComing", "(I)I"⟩, 7), (⟨"VouchFlow$Flow", "nextOfGoing", "(I)I"⟩, 7)]
theorem lw_r1 : ∀ q ∈ lw_privs_1, lw_okq q := List.forall_mem_cons.mpr ⟨lw_p0, List.forall_mem_cons.mpr ⟨lw_p1, List.forall_mem_cons.mpr ⟨lw_p2, List.forall_mem_cons.mpr ⟨lw_p3, List.forall_mem_cons.mpr ⟨lw_p4, List.forall_mem_cons.mpr ⟨lw_p5, List.forall_mem_cons.mpr ⟨lw_p6, List.forall_mem_cons.mpr ⟨lw_p7, List.forall_mem_cons.mpr ⟨lw_p8, List.forall_mem_cons.mpr ⟨lw_p9, List.forall_mem_cons.mpr ⟨lw_p10, List.forall_mem_cons.mpr ⟨lw_p11, List.forall_mem_cons.mpr ⟨lw_p12, List.forall_mem_cons.mpr ⟨lw_p13, List.forall_mem_cons.mpr ⟨lw_p14, List.forall_mem_cons.mpr ⟨lw_p15, fun _ h => absurd h List.not_mem_nil⟩⟩⟩⟩⟩⟩⟩⟩⟩⟩⟩⟩⟩⟩⟩⟩
theorem lw_p16 : lw_okq (⟨"VouchFlow$Flow", "move", "(II)V"⟩, 7) := ⟨⟨by decide +kernel, by decide +kernel⟩, List.mem_of_getElem? (i := 102) (by decide +kernel), List.mem_of_getElem? (i := 452) (by decide +kernel), List.mem_of_getElem? (i := 453) (by decide +kernel)⟩
theorem lw_p17 : lw_okq (⟨"VouchFlow$Flow", "moveFromComing", "(II)V"⟩, 7) := ⟨⟨by decide +kernel, by decide +kernel⟩, List.mem_of_getElem? (i := 102) (by decide +kernel), List.mem_of_getElem? (i := 456) (by decide +kernel), List.mem_of_getElem? (i := 457) (by decide +kernel)⟩
theorem lw_p18 : lw_okq (⟨"VouchFlow$Flow", "moveFromGoing", "(II)V"⟩, 7) := ⟨⟨by decide +kernel, by decide +kernel⟩, List.mem_of_getElem? (i := 102) (by decide +kernel), List.mem_of_getElem? (i := 460) (by decide +kernel), List.mem_of_getElem? (i := 461) (by decide +kernel)⟩
theorem lw_p19 : lw_okq (⟨"VouchFlow", "admitted", "(I)I"⟩, 11) := ⟨⟨by decide +kernel, by decide +kernel⟩, List.mem_of_getElem? (i := 14) (by decide +kernel), List.mem_of_getElem? (i := 464) (by decide +kernel), List.mem_of_getElem? (i := 465) (by decide +kernel)⟩
theorem lw_p20 : lw_okq (⟨"VouchFlow", "takenIn", "()I"⟩, 11) := ⟨⟨by decide +kernel, by decide +kernel⟩, List.mem_of_getElem? (i := 14) (by decide +kernel), List.mem_of_getElem? (i := 469) (by decide +kernel), List.mem_of_getElem? (i := 470) (by decide +kernel)⟩
theorem lw_p21 : lw_okq (⟨"VouchFlow", "prepareWebWithout", "(II)V"⟩, 11) := ⟨⟨by decide +kernel, by decide +kernel⟩, List.mem_of_getElem? (i := 14) (by decide +kernel), List.mem_of_getElem? (i := 514) (by decide +kernel), List.mem_of_getElem? (i := 515) (by decide +kernel)⟩
theorem lw_p22 : lw_okq (⟨"VouchFlow$Walk", "share", "(JI)V"⟩, 4) := ⟨⟨by decide +kernel, by decide +kernel⟩, List.mem_of_getElem? (i := 160) (by decide +kernel), List.mem_of_getElem? (i := 542) (by decide +kernel), List.mem_of_getElem? (i := 543) (by decide +kernel)⟩
theorem lw_p23 : lw_okq (⟨"VouchFlow$Walk", "step", "(LVouchFlow$Circle;I)V"⟩, 4) := ⟨⟨by decide +kernel, by decide +kernel⟩, List.mem_of_getElem? (i := 160) (by decide +kernel), List.mem_of_getElem? (i := 549) (by decide +kernel), List.mem_of_getElem? (i := 550) (by decide +kernel)⟩
theorem lw_p24 : lw_okq (⟨"VouchFlow$Walk", "commonDivisor", "(I)J"⟩, 4) := ⟨⟨by decide +kernel, by decide +kernel⟩, List.mem_of_getElem? (i := 160) (by decide +kernel), List.mem_of_getElem? (i := 557) (by decide +kernel), List.mem_of_getElem? (i := 558) (by decide +kernel)⟩
theorem lw_p25 : lw_okq (⟨"VouchFlow$Walk", "comingBefore", "(I)I"⟩, 4) := ⟨⟨by decide +kernel, by decide +kernel⟩, List.mem_of_getElem? (i := 160) (by decide +kernel), List.mem_of_getElem? (i := 585) (by decide +kernel), List.mem_of_getElem? (i := 586) (by decide +kernel)⟩
theorem lw_p26 : lw_okq (⟨"VouchFlow", "addInk", "(J)J"⟩, 11) := ⟨⟨by decide +kernel, by decide +kernel⟩, List.mem_of_getElem? (i := 14) (by decide +kernel), List.mem_of_getElem? (i := 598) (by decide +kernel), List.mem_of_getElem? (i := 599) (by decide +kernel)⟩
theorem lw_p27 : lw_okq (⟨"VouchFlow", "addPersons", "(J)J"⟩, 11) := ⟨⟨by decide +kernel, by decide +kernel⟩, List.mem_of_getElem? (i := 14) (by decide +kernel), List.mem_of_getElem? (i := 606) (by decide +kernel), List.mem_of_getElem? (i := 607) (by decide +kernel)⟩
theorem lw_p28 : lw_okq (⟨"VouchFlow", "addTrust", "(J)J"⟩, 11) := ⟨⟨by decide +kernel, by decide +kernel⟩, List.mem_of_getElem? (i := 14) (by decide +kernel), List.mem_of_getElem? (i := 614) (by decide +kernel), List.mem_of_getElem? (i := 615) (by decide +kernel)⟩
theorem lw_p29 : lw_okq (⟨"VouchFlow", "addWalks", "(J)J"⟩, 11) := ⟨⟨by decide +kernel, by decide +kernel⟩, List.mem_of_getElem? (i := 14) (by decide +kernel), List.mem_of_getElem? (i := 622) (by decide +kernel), List.mem_of_getElem? (i := 623) (by decide +kernel)⟩
theorem lw_p30 : lw_okq (⟨"VouchFlowModel", "read", "()I"⟩, 30) := ⟨⟨by decide +kernel, by decide +kernel⟩, List.mem_of_getElem? (i := 627) (by decide +kernel), List.mem_of_getElem? (i := 739) (by decide +kernel), List.mem_of_getElem? (i := 740) (by decide +kernel)⟩
theorem lw_p31 : lw_okq (⟨"VouchFlowModel", "takes", "(I)Z"⟩, 30) := ⟨⟨by decide +kernel, by decide +kernel⟩, List.mem_of_getElem? (i := 627) (by decide +kernel), List.mem_of_getElem? (i := 743) (by decide +kernel), List.mem_of_getElem? (i := 744) (by decide +kernel)⟩
def lw_privs_2 : List (MethodName × Nat) := [(⟨"VouchFlow$Flow", "move", "(II)V"⟩, 7), (⟨"VouchFlow$Flow", "moveFromComing", "(II)V"⟩, 7), (⟨"VouchFlow$Flow", "moveFromGoing", "(II)V"⟩, 7), (⟨"VouchFlow", "admitted", "(I)I"⟩, 11), (⟨"VouchFlow", "takenIn", "()I"⟩, 11), (⟨"VouchFlow", "prepareWebWithout", "(II)V"⟩, 11), (⟨"VouchFlow$Walk", "share", "(JI)V"⟩, 4), (⟨"VouchFlow$Walk", "step", "(LVouchFlow$Circle;I)V"⟩, 4), (⟨"VouchFlow$Walk", "commonDivisor", "(I)J"⟩, 4), (⟨"VouchFlow$Walk", "comingBefore", "(I)I"⟩, 4), (⟨"VouchFlow", "addInk", "(J)J"⟩, 11), (⟨"VouchFlow", "addPersons", "(J)J"⟩, 11), (⟨"VouchFlow", "addTrust", "(J)J"⟩, 11), (⟨"VouchFlow", "addWalks", "(J)J"⟩, 11), (⟨"VouchFlowModel", "read", "()I"⟩, 30), (⟨"VouchFlowModel", "takes", "(I)Z"⟩, 30)]
theorem lw_r2 : ∀ q ∈ lw_privs_2, lw_okq q := List.forall_mem_cons.mpr ⟨lw_p16, List.forall_mem_cons.mpr ⟨lw_p17, List.forall_mem_cons.mpr ⟨lw_p18, List.forall_mem_cons.mpr ⟨lw_p19, List.forall_mem_cons.mpr ⟨lw_p20, List.forall_mem_cons.mpr ⟨lw_p21, List.forall_mem_cons.mpr ⟨lw_p22, List.forall_mem_cons.mpr ⟨lw_p23, List.forall_mem_cons.mpr ⟨lw_p24, List.forall_mem_cons.mpr ⟨lw_p25, List.forall_mem_cons.mpr ⟨lw_p26, List.forall_mem_cons.mpr ⟨lw_p27, List.forall_mem_cons.mpr ⟨lw_p28, List.forall_mem_cons.mpr ⟨lw_p29, List.forall_mem_cons.mpr ⟨lw_p30, List.forall_mem_cons.mpr ⟨lw_p31, fun _ h => absurd h List.not_mem_nil⟩⟩⟩⟩⟩⟩⟩⟩⟩⟩⟩⟩⟩⟩⟩⟩
theorem lw_p32 : lw_okq (⟨"VouchFlowModel", "takesBounds", "(I)Z"⟩, 30) := ⟨⟨by decide +kernel, by decide +kernel⟩, List.mem_of_getElem? (i := 627) (by decide +kernel), List.mem_of_getElem? (i := 747) (by decide +kernel), List.mem_of_getElem? (i := 748) (by decide +kernel)⟩
theorem lw_p33 : lw_okq (⟨"VouchFlowModel", "beginPerson", "(I)V"⟩, 30) := ⟨⟨by decide +kernel, by decide +kernel⟩, List.mem_of_getElem? (i := 627) (by decide +kernel), List.mem_of_getElem? (i := 751) (by decide +kernel), List.mem_of_getElem? (i := 752) (by decide +kernel)⟩
theorem lw_p34 : lw_okq (⟨"VouchFlowModel", "takesWhom", "(I)Z"⟩, 30) := ⟨⟨by decide +kernel, by decide +kernel⟩, List.mem_of_getElem? (i := 627) (by decide +kernel), List.mem_of_getElem? (i := 755) (by decide +kernel), List.mem_of_getElem? (i := 756) (by decide +kernel)⟩
theorem lw_p35 : lw_okq (⟨"VouchFlowModel", "canVouch", "(I)Z"⟩, 30) := ⟨⟨by decide +kernel, by decide +kernel⟩, List.mem_of_getElem? (i := 627) (by decide +kernel), List.mem_of_getElem? (i := 759) (by decide +kernel), List.mem_of_getElem? (i := 760) (by decide +kernel)⟩
theorem lw_p36 : lw_okq (⟨"VouchFlowModel", "takesOfPerson", "(I)Z"⟩, 30) := ⟨⟨by decide +kernel, by decide +kernel⟩, List.mem_of_getElem? (i := 627) (by decide +kernel), List.mem_of_getElem? (i := 763) (by decide +kernel), List.mem_of_getElem? (i := 764) (by decide +kernel)⟩
theorem lw_p37 : lw_okq (⟨"VouchFlowModel", "takesKind", "(I)Z"⟩, 30) := ⟨⟨by decide +kernel, by decide +kernel⟩, List.mem_of_getElem? (i := 627) (by decide +kernel), List.mem_of_getElem? (i := 767) (by decide +kernel), List.mem_of_getElem? (i := 768) (by decide +kernel)⟩
theorem lw_p38 : lw_okq (⟨"VouchFlowModel", "canBegin", "()Z"⟩, 30) := ⟨⟨by decide +kernel, by decide +kernel⟩, List.mem_of_getElem? (i := 627) (by decide +kernel), List.mem_of_getElem? (i := 771) (by decide +kernel), List.mem_of_getElem? (i := 772) (by decide +kernel)⟩
theorem lw_p39 : lw_okq (⟨"VouchFlowModel", "isCircle", "()Z"⟩, 30) := ⟨⟨by decide +kernel, by decide +kernel⟩, List.mem_of_getElem? (i := 627) (by decide +kernel), List.mem_of_getElem? (i := 786) (by decide +kernel), List.mem_of_getElem? (i := 787) (by decide +kernel)⟩
theorem lw_p40 : lw_okq (⟨"VouchFlowModel", "inkNow", "(I)I"⟩, 30) := ⟨⟨by decide +kernel, by decide +kernel⟩, List.mem_of_getElem? (i := 627) (by decide +kernel), List.mem_of_getElem? (i := 790) (by decide +kernel), List.mem_of_getElem? (i := 791) (by decide +kernel)⟩
theorem lw_p41 : lw_okq (⟨"VouchFlowModel", "ink1", "(I)V"⟩, 30) := ⟨⟨by decide +kernel, by decide +kernel⟩, List.mem_of_getElem? (i := 627) (by decide +kernel), List.mem_of_getElem? (i := 794) (by decide +kernel), List.mem_of_getElem? (i := 795) (by decide +kernel)⟩
theorem lw_p42 : lw_okq (⟨"VouchFlowModel", "inkPerson", "(I)V"⟩, 30) := ⟨⟨by decide +kernel, by decide +kernel⟩, List.mem_of_getElem? (i := 627) (by decide +kernel), List.mem_of_getElem? (i := 798) (by decide +kernel), List.mem_of_getElem? (i := 799) (by decide +kernel)⟩
theorem lw_p43 : lw_okq (⟨"VouchFlowModel", "isPerson", "(I)Z"⟩, 30) := ⟨⟨by decide +kernel, by decide +kernel⟩, List.mem_of_getElem? (i := 627) (by decide +kernel), List.mem_of_getElem? (i := 809) (by decide +kernel), List.mem_of_getElem? (i := 810) (by decide +kernel)⟩
theorem lw_p44 : lw_okq (⟨"VouchFlowModel", "ofKind", "(I)I"⟩, 30) := ⟨⟨by decide +kernel, by decide +kernel⟩, List.mem_of_getElem? (i := 627) (by decide +kernel), List.mem_of_getElem? (i := 813) (by decide +kernel), List.mem_of_getElem? (i := 814) (by decide +kernel)⟩
theorem lw_p45 : lw_okq (⟨"VouchFlowModel", "areTwo", "(II)Z"⟩, 30) := ⟨⟨by decide +kernel, by decide +kernel⟩, List.mem_of_getElem? (i := 627) (by decide +kernel), List.mem_of_getElem? (i := 825) (by decide +kernel), List.mem_of_getElem? (i := 826) (by decide +kernel)⟩
theorem lw_p46 : lw_okq (⟨"VouchFlowModel", "aboutNow", "(I)I"⟩, 30) := ⟨⟨by decide +kernel, by decide +kernel⟩, List.mem_of_getElem? (i := 627) (by decide +kernel), List.mem_of_getElem? (i := 841) (by decide +kernel), List.mem_of_getElem? (i := 842) (by decide +kernel)⟩
theorem lw_p47 : lw_okq (⟨"VouchFlowModel", "layLevels", "()V"⟩, 30) := ⟨⟨by decide +kernel, by decide +kernel⟩, List.mem_of_getElem? (i := 627) (by decide +kernel), List.mem_of_getElem? (i := 845) (by decide +kernel), List.mem_of_getElem? (i := 846) (by decide +kernel)⟩
def lw_privs_3 : List (MethodName × Nat) := [(⟨"VouchFlowModel", "takesBounds", "(I)Z"⟩, 30), (⟨"VouchFlowModel", "beginPerson", "(I)V"⟩, 30), (⟨"VouchFlowModel", "takesWhom", "(I)Z"⟩, 30), (⟨"VouchFlowModel", "canVouch", "(I)Z"⟩, 30), (⟨"VouchFlowModel", "takesOfPerson", "(I)Z"⟩, 30), (⟨"VouchFlowModel", "takesKind", "(I)Z"⟩, 30), (⟨"VouchFlowModel", "canBegin", "()Z"⟩, 30), (⟨"VouchFlowModel", "isCircle", "()Z"⟩, 30), (⟨"VouchFlowModel", "inkNow", "(I)I"⟩, 30), (⟨"VouchFlowModel", "ink1", "(I)V"⟩, 30), (⟨"VouchFlowModel", "inkPerson", "(I)V"⟩, 30), (⟨"VouchFlowModel", "isPerson", "(I)Z"⟩, 30), (⟨"VouchFlowModel", "ofKind", "(I)I"⟩, 30), (⟨"VouchFlowModel", "areTwo", "(II)Z"⟩, 30), (⟨"VouchFlowModel", "aboutNow", "(I)I"⟩, 30), (⟨"VouchFlowModel", "layLevels", "()V"⟩, 30)]
theorem lw_r3 : ∀ q ∈ lw_privs_3, lw_okq q := List.forall_mem_cons.mpr ⟨lw_p32, List.forall_mem_cons.mpr ⟨lw_p33, List.forall_mem_cons.mpr ⟨lw_p34, List.forall_mem_cons.mpr ⟨lw_p35, List.forall_mem_cons.mpr ⟨lw_p36, List.forall_mem_cons.mpr ⟨lw_p37, List.forall_mem_cons.mpr ⟨lw_p38, List.forall_mem_cons.mpr ⟨lw_p39, List.forall_mem_cons.mpr ⟨lw_p40, List.forall_mem_cons.mpr ⟨lw_p41, List.forall_mem_cons.mpr ⟨lw_p42, List.forall_mem_cons.mpr ⟨lw_p43, List.forall_mem_cons.mpr ⟨lw_p44, List.forall_mem_cons.mpr ⟨lw_p45, List.forall_mem_cons.mpr ⟨lw_p46, List.forall_mem_cons.mpr ⟨lw_p47, fun _ h => absurd h List.not_mem_nil⟩⟩⟩⟩⟩⟩⟩⟩⟩⟩⟩⟩⟩⟩⟩⟩
theorem lw_p48 : lw_okq (⟨"VouchFlowModel", "vouchedBy", "(I)I"⟩, 30) := ⟨⟨by decide +kernel, by decide +kernel⟩, List.mem_of_getElem? (i := 627) (by decide +kernel), List.mem_of_getElem? (i := 849) (by decide +kernel), List.mem_of_getElem? (i := 850) (by decide +kernel)⟩
theorem lw_p49 : lw_okq (⟨"VouchFlowModel", "vouchesAll", "()I"⟩, 30) := ⟨⟨by decide +kernel, by decide +kernel⟩, List.mem_of_getElem? (i := 627) (by decide +kernel), List.mem_of_getElem? (i := 853) (by decide +kernel), List.mem_of_getElem? (i := 854) (by decide +kernel)⟩
theorem lw_p50 : lw_okq (⟨"VouchFlowModel", "levelsMany", "()I"⟩, 30) := ⟨⟨by decide +kernel, by decide +kernel⟩, List.mem_of_getElem? (i := 627) (by decide +kernel), List.mem_of_getElem? (i := 857) (by decide +kernel), List.mem_of_getElem? (i := 858) (by decide +kernel)⟩
theorem lw_p51 : lw_okq (⟨"VouchFlowModel", "greatestLevel", "()I"⟩, 30) := ⟨⟨by decide +kernel, by decide +kernel⟩, List.mem_of_getElem? (i := 627) (by decide +kernel), List.mem_of_getElem? (i := 861) (by decide +kernel), List.mem_of_getElem? (i := 862) (by decide +kernel)⟩
theorem lw_p52 : lw_okq (⟨"VouchFlowModel", "mostOf", "(I)I"⟩, 30) := ⟨⟨by decide +kernel, by decide +kernel⟩, List.mem_of_getElem? (i := 627) (by decide +kernel), List.mem_of_getElem? (i := 865) (by decide +kernel), List.mem_of_getElem? (i := 866) (by decide +kernel)⟩
theorem lw_p53 : lw_okq (⟨"VouchFlowModel", "personNow", "(II)I"⟩, 30) := ⟨⟨by decide +kernel, by decide +kernel⟩, List.mem_of_getElem? (i := 627) (by decide +kernel), List.mem_of_getElem? (i := 873) (by decide +kernel), List.mem_of_getElem? (i := 874) (by decide +kernel)⟩
theorem lw_p54 : lw_okq (⟨"VouchFlowModel", "lay", "()V"⟩, 30) := ⟨⟨by decide +kernel, by decide +kernel⟩, List.mem_of_getElem? (i := 627) (by decide +kernel), List.mem_of_getElem? (i := 877) (by decide +kernel), List.mem_of_getElem? (i := 878) (by decide +kernel)⟩
theorem lw_p55 : lw_okq (⟨"VouchFlowModel", "wallOf", "(I)I"⟩, 30) := ⟨⟨by decide +kernel, by decide +kernel⟩, List.mem_of_getElem? (i := 627) (by decide +kernel), List.mem_of_getElem? (i := 881) (by decide +kernel), List.mem_of_getElem? (i := 882) (by decide +kernel)⟩
theorem lw_p56 : lw_okq (⟨"VouchFlowModel", "vouchersOf", "(I)I"⟩, 30) := ⟨⟨by decide +kernel, by decide +kernel⟩, List.mem_of_getElem? (i := 627) (by decide +kernel), List.mem_of_getElem? (i := 885) (by decide +kernel), List.mem_of_getElem? (i := 886) (by decide +kernel)⟩
theorem lw_p57 : lw_okq (⟨"VouchFlowModel", "allIn", "()I"⟩, 30) := ⟨⟨by decide +kernel, by decide +kernel⟩, List.mem_of_getElem? (i := 627) (by decide +kernel), List.mem_of_getElem? (i := 889) (by decide +kernel), List.mem_of_getElem? (i := 890) (by decide +kernel)⟩
theorem lw_p58 : lw_okq (⟨"VouchFlowModel", "canBe", "(I)Z"⟩, 30) := ⟨⟨by decide +kernel, by decide +kernel⟩, List.mem_of_getElem? (i := 627) (by decide +kernel), List.mem_of_getElem? (i := 893) (by decide +kernel), List.mem_of_getElem? (i := 894) (by decide +kernel)⟩
theorem lw_p59 : lw_okq (⟨"VouchFlowModel", "takenIn", "()I"⟩, 30) := ⟨⟨by decide +kernel, by decide +kernel⟩, List.mem_of_getElem? (i := 627) (by decide +kernel), List.mem_of_getElem? (i := 897) (by decide +kernel), List.mem_of_getElem? (i := 898) (by decide +kernel)⟩
theorem lw_p60 : lw_okq (⟨"VouchFlowModel", "apartNow", "(I)I"⟩, 30) := ⟨⟨by decide +kernel, by decide +kernel⟩, List.mem_of_getElem? (i := 627) (by decide +kernel), List.mem_of_getElem? (i := 901) (by decide +kernel), List.mem_of_getElem? (i := 902) (by decide +kernel)⟩
theorem lw_p61 : lw_okq (⟨"VouchFlowModel", "isLed", "(II)Z"⟩, 30) := ⟨⟨by decide +kernel, by decide +kernel⟩, List.mem_of_getElem? (i := 627) (by decide +kernel), List.mem_of_getElem? (i := 905) (by decide +kernel), List.mem_of_getElem? (i := 906) (by decide +kernel)⟩
theorem lw_p62 : lw_okq (⟨"VouchFlowModel", "generousNow", "()I"⟩, 30) := ⟨⟨by decide +kernel, by decide +kernel⟩, List.mem_of_getElem? (i := 627) (by decide +kernel), List.mem_of_getElem? (i := 917) (by decide +kernel), List.mem_of_getElem? (i := 918) (by decide +kernel)⟩
theorem lw_p63 : lw_okq (⟨"VouchFlowModel", "trustNow", "(I)I"⟩, 30) := ⟨⟨by decide +kernel, by decide +kernel⟩, List.mem_of_getElem? (i := 627) (by decide +kernel), List.mem_of_getElem? (i := 925) (by decide +kernel), List.mem_of_getElem? (i := 926) (by decide +kernel)⟩
def lw_privs_4 : List (MethodName × Nat) := [(⟨"VouchFlowModel", "vouchedBy", "(I)I"⟩, 30), (⟨"VouchFlowModel", "vouchesAll", "()I"⟩, 30), (⟨"VouchFlowModel", "levelsMany", "()I"⟩, 30), (⟨"VouchFlowModel", "greatestLevel", "()I"⟩, 30), (⟨"VouchFlowModel", "mostOf", "(I)I"⟩, 30), (⟨"VouchFlowModel", "personNow", "(II)I"⟩, 30), (⟨"VouchFlowModel", "lay", "()V"⟩, 30), (⟨"VouchFlowModel", "wallOf", "(I)I"⟩, 30), (⟨"VouchFlowModel", "vouchersOf", "(I)I"⟩, 30), (⟨"VouchFlowModel", "allIn", "()I"⟩, 30), (⟨"VouchFlowModel", "canBe", "(I)Z"⟩, 30), (⟨"VouchFlowModel", "takenIn", "()I"⟩, 30), (⟨"VouchFlowModel", "apartNow", "(I)I"⟩, 30), (⟨"VouchFlowModel", "isLed", "(II)Z"⟩, 30), (⟨"VouchFlowModel", "generousNow", "()I"⟩, 30), (⟨"VouchFlowModel", "trustNow", "(I)I"⟩, 30)]
theorem lw_r4 : ∀ q ∈ lw_privs_4, lw_okq q := List.forall_mem_cons.mpr ⟨lw_p48, List.forall_mem_cons.mpr ⟨lw_p49, List.forall_mem_cons.mpr ⟨lw_p50, List.forall_mem_cons.mpr ⟨lw_p51, List.forall_mem_cons.mpr ⟨lw_p52, List.forall_mem_cons.mpr ⟨lw_p53, List.forall_mem_cons.mpr ⟨lw_p54, List.forall_mem_cons.mpr ⟨lw_p55, List.forall_mem_cons.mpr ⟨lw_p56, List.forall_mem_cons.mpr ⟨lw_p57, List.forall_mem_cons.mpr ⟨lw_p58, List.forall_mem_cons.mpr ⟨lw_p59, List.forall_mem_cons.mpr ⟨lw_p60, List.forall_mem_cons.mpr ⟨lw_p61, List.forall_mem_cons.mpr ⟨lw_p62, List.forall_mem_cons.mpr ⟨lw_p63, fun _ h => absurd h List.not_mem_nil⟩⟩⟩⟩⟩⟩⟩⟩⟩⟩⟩⟩⟩⟩⟩⟩
theorem lw_p64 : lw_okq (⟨"VouchFlowModel", "flood", "()I"⟩, 30) := ⟨⟨by decide +kernel, by decide +kernel⟩, List.mem_of_getElem? (i := 627) (by decide +kernel), List.mem_of_getElem? (i := 929) (by decide +kernel), List.mem_of_getElem? (i := 930) (by decide +kernel)⟩
theorem lw_p65 : lw_okq (⟨"VouchFlowModel", "withoutFalse", "()I"⟩, 30) := ⟨⟨by decide +kernel, by decide +kernel⟩, List.mem_of_getElem? (i := 627) (by decide +kernel), List.mem_of_getElem? (i := 933) (by decide +kernel), List.mem_of_getElem? (i := 934) (by decide +kernel)⟩
theorem lw_p66 : lw_okq (⟨"VouchFlowModel", "togetherNow", "(I)I"⟩, 30) := ⟨⟨by decide +kernel, by decide +kernel⟩, List.mem_of_getElem? (i := 627) (by decide +kernel), List.mem_of_getElem? (i := 941) (by decide +kernel), List.mem_of_getElem? (i := 942) (by decide +kernel)⟩
theorem lw_p67 : lw_okq (⟨"VouchFlowModel", "cutNow", "(I)I"⟩, 30) := ⟨⟨by decide +kernel, by decide +kernel⟩, List.mem_of_getElem? (i := 627) (by decide +kernel), List.mem_of_getElem? (i := 949) (by decide +kernel), List.mem_of_getElem? (i := 950) (by decide +kernel)⟩
theorem lw_p68 : lw_okq (⟨"VouchFlowModel", "cutSet", "()I"⟩, 30) := ⟨⟨by decide +kernel, by decide +kernel⟩, List.mem_of_getElem? (i := 627) (by decide +kernel), List.mem_of_getElem? (i := 953) (by decide +kernel), List.mem_of_getElem? (i := 954) (by decide +kernel)⟩
theorem lw_p69 : lw_okq (⟨"VouchFlowModel", "costOf", "(I)I"⟩, 30) := ⟨⟨by decide +kernel, by decide +kernel⟩, List.mem_of_getElem? (i := 627) (by decide +kernel), List.mem_of_getElem? (i := 957) (by decide +kernel), List.mem_of_getElem? (i := 958) (by decide +kernel)⟩
theorem lw_p70 : lw_okq (⟨"VouchFlowModel", "withoutNow", "(III)I"⟩, 30) := ⟨⟨by decide +kernel, by decide +kernel⟩, List.mem_of_getElem? (i := 627) (by decide +kernel), List.mem_of_getElem? (i := 969) (by decide +kernel), List.mem_of_getElem? (i := 970) (by decide +kernel)⟩
theorem lw_p71 : lw_okq (⟨"VouchFlowModel", "dearestNow", "()I"⟩, 30) := ⟨⟨by decide +kernel, by decide +kernel⟩, List.mem_of_getElem? (i := 627) (by decide +kernel), List.mem_of_getElem? (i := 977) (by decide +kernel), List.mem_of_getElem? (i := 978) (by decide +kernel)⟩
theorem lw_p72 : lw_okq (⟨"VouchFlowModel", "areSeeds", "()Z"⟩, 30) := ⟨⟨by decide +kernel, by decide +kernel⟩, List.mem_of_getElem? (i := 627) (by decide +kernel), List.mem_of_getElem? (i := 985) (by decide +kernel), List.mem_of_getElem? (i := 986) (by decide +kernel)⟩
theorem lw_p73 : lw_okq (⟨"VouchFlowModel", "chanceNow", "(III)I"⟩, 30) := ⟨⟨by decide +kernel, by decide +kernel⟩, List.mem_of_getElem? (i := 627) (by decide +kernel), List.mem_of_getElem? (i := 989) (by decide +kernel), List.mem_of_getElem? (i := 990) (by decide +kernel)⟩
theorem lw_p74 : lw_okq (⟨"VouchFlowModel", "layChances", "(I)V"⟩, 30) := ⟨⟨by decide +kernel, by decide +kernel⟩, List.mem_of_getElem? (i := 627) (by decide +kernel), List.mem_of_getElem? (i := 993) (by decide +kernel), List.mem_of_getElem? (i := 994) (by decide +kernel)⟩
theorem lw_p75 : lw_okq (⟨"VouchFlowModel", "goesTo", "(III)V"⟩, 30) := ⟨⟨by decide +kernel, by decide +kernel⟩, List.mem_of_getElem? (i := 627) (by decide +kernel), List.mem_of_getElem? (i := 997) (by decide +kernel), List.mem_of_getElem? (i := 998) (by decide +kernel)⟩
theorem lw_p76 : lw_okq (⟨"VouchFlowModel", "thousandthsNow", "(II)I"⟩, 30) := ⟨⟨by decide +kernel, by decide +kernel⟩, List.mem_of_getElem? (i := 627) (by decide +kernel), List.mem_of_getElem? (i := 1009) (by decide +kernel), List.mem_of_getElem? (i := 1010) (by decide +kernel)⟩
theorem lw_p77 : lw_okq (⟨"VouchFlowModel", "orderNow", "(II)I"⟩, 30) := ⟨⟨by decide +kernel, by decide +kernel⟩, List.mem_of_getElem? (i := 627) (by decide +kernel), List.mem_of_getElem? (i := 1018) (by decide +kernel), List.mem_of_getElem? (i := 1019) (by decide +kernel)⟩
theorem lw_p78 : lw_okq (⟨"VouchFlowModel", "placeOf", "(I)I"⟩, 30) := ⟨⟨by decide +kernel, by decide +kernel⟩, List.mem_of_getElem? (i := 627) (by decide +kernel), List.mem_of_getElem? (i := 1022) (by decide +kernel), List.mem_of_getElem? (i := 1023) (by decide +kernel)⟩
theorem lw_p79 : lw_okq (⟨"VouchFlowModel", "howMany", "(I)I"⟩, 30) := ⟨⟨by decide +kernel, by decide +kernel⟩, List.mem_of_getElem? (i := 627) (by decide +kernel), List.mem_of_getElem? (i := 1030) (by decide +kernel), List.mem_of_getElem? (i := 1031) (by decide +kernel)⟩
def lw_privs_5 : List (MethodName × Nat) := [(⟨"VouchFlowModel", "flood", "()I"⟩, 30), (⟨"VouchFlowModel", "withoutFalse", "()I"⟩, 30), (⟨"VouchFlowModel", "togetherNow", "(I)I"⟩, 30), (⟨"VouchFlowModel", "cutNow", "(I)I"⟩, 30), (⟨"VouchFlowModel", "cutSet", "()I"⟩, 30), (⟨"VouchFlowModel", "costOf", "(I)I"⟩, 30), (⟨"VouchFlowModel", "withoutNow", "(III)I"⟩, 30), (⟨"VouchFlowModel", "dearestNow", "()I"⟩, 30), (⟨"VouchFlowModel", "areSeeds", "()Z"⟩, 30), (⟨"VouchFlowModel", "chanceNow", "(III)I"⟩, 30), (⟨"VouchFlowModel", "layChances", "(I)V"⟩, 30), (⟨"VouchFlowModel", "goesTo", "(III)V"⟩, 30), (⟨"VouchFlowModel", "thousandthsNow", "(II)I"⟩, 30), (⟨"VouchFlowModel", "orderNow", "(II)I"⟩, 30), (⟨"VouchFlowModel", "placeOf", "(I)I"⟩, 30), (⟨"VouchFlowModel", "howMany", "(I)I"⟩, 30)]
theorem lw_r5 : ∀ q ∈ lw_privs_5, lw_okq q := List.forall_mem_cons.mpr ⟨lw_p64, List.forall_mem_cons.mpr ⟨lw_p65, List.forall_mem_cons.mpr ⟨lw_p66, List.forall_mem_cons.mpr ⟨lw_p67, List.forall_mem_cons.mpr ⟨lw_p68, List.forall_mem_cons.mpr ⟨lw_p69, List.forall_mem_cons.mpr ⟨lw_p70, List.forall_mem_cons.mpr ⟨lw_p71, List.forall_mem_cons.mpr ⟨lw_p72, List.forall_mem_cons.mpr ⟨lw_p73, List.forall_mem_cons.mpr ⟨lw_p74, List.forall_mem_cons.mpr ⟨lw_p75, List.forall_mem_cons.mpr ⟨lw_p76, List.forall_mem_cons.mpr ⟨lw_p77, List.forall_mem_cons.mpr ⟨lw_p78, List.forall_mem_cons.mpr ⟨lw_p79, fun _ h => absurd h List.not_mem_nil⟩⟩⟩⟩⟩⟩⟩⟩⟩⟩⟩⟩⟩⟩⟩⟩
theorem lw_p80 : lw_okq (⟨"VouchFlowModel", "mixInk", "()V"⟩, 30) := ⟨⟨by decide +kernel, by decide +kernel⟩, List.mem_of_getElem? (i := 627) (by decide +kernel), List.mem_of_getElem? (i := 1039) (by decide +kernel), List.mem_of_getElem? (i := 1040) (by decide +kernel)⟩
theorem lw_p81 : lw_okq (⟨"VouchFlowModel", "mix", "(J)V"⟩, 30) := ⟨⟨by decide +kernel, by decide +kernel⟩, List.mem_of_getElem? (i := 627) (by decide +kernel), List.mem_of_getElem? (i := 1043) (by decide +kernel), List.mem_of_getElem? (i := 1044) (by decide +kernel)⟩
theorem lw_p82 : lw_okq (⟨"VouchFlowModel", "mixPersons", "()V"⟩, 30) := ⟨⟨by decide +kernel, by decide +kernel⟩, List.mem_of_getElem? (i := 627) (by decide +kernel), List.mem_of_getElem? (i := 1048) (by decide +kernel), List.mem_of_getElem? (i := 1049) (by decide +kernel)⟩
theorem lw_p83 : lw_okq (⟨"VouchFlowModel", "mixTrust", "()V"⟩, 30) := ⟨⟨by decide +kernel, by decide +kernel⟩, List.mem_of_getElem? (i := 627) (by decide +kernel), List.mem_of_getElem? (i := 1052) (by decide +kernel), List.mem_of_getElem? (i := 1053) (by decide +kernel)⟩
theorem lw_p84 : lw_okq (⟨"VouchFlowModel", "mixWalk", "(I)V"⟩, 30) := ⟨⟨by decide +kernel, by decide +kernel⟩, List.mem_of_getElem? (i := 627) (by decide +kernel), List.mem_of_getElem? (i := 1056) (by decide +kernel), List.mem_of_getElem? (i := 1057) (by decide +kernel)⟩
def lw_privs_6 : List (MethodName × Nat) := [(⟨"VouchFlowModel", "mixInk", "()V"⟩, 30), (⟨"VouchFlowModel", "mix", "(J)V"⟩, 30), (⟨"VouchFlowModel", "mixPersons", "()V"⟩, 30), (⟨"VouchFlowModel", "mixTrust", "()V"⟩, 30), (⟨"VouchFlowModel", "mixWalk", "(I)V"⟩, 30)]
theorem lw_r6 : ∀ q ∈ lw_privs_6, lw_okq q := List.forall_mem_cons.mpr ⟨lw_p80, List.forall_mem_cons.mpr ⟨lw_p81, List.forall_mem_cons.mpr ⟨lw_p82, List.forall_mem_cons.mpr ⟨lw_p83, List.forall_mem_cons.mpr ⟨lw_p84, fun _ h => absurd h List.not_mem_nil⟩⟩⟩⟩⟩
def lw_privs : List (MethodName × Nat) := lw_privs_1 ++ (lw_privs_2 ++ (lw_privs_3 ++ (lw_privs_4 ++ (lw_privs_5 ++ (lw_privs_6)))))
def lw_tbl : List Cond := k2_sels lw_privs ++ tables_1
theorem lw_privs_ok : ∀ q ∈ lw_privs, lw_okq q := by
  show ∀ q ∈ lw_privs_1 ++ (lw_privs_2 ++ (lw_privs_3 ++ (lw_privs_4 ++ (lw_privs_5 ++ (lw_privs_6))))), lw_okq q
  exact List.forall_mem_append.mpr ⟨lw_r1, List.forall_mem_append.mpr ⟨lw_r2, List.forall_mem_append.mpr ⟨lw_r3, List.forall_mem_append.mpr ⟨lw_r4, List.forall_mem_append.mpr ⟨lw_r5, lw_r6⟩⟩⟩⟩⟩
end
section
def RX0 : String := "VouchFlow$Circle"
def TX0 : u_T := fun k => match k with
  | 0 => ("VouchFlow$Circle", "persons", "I", false)
  | 1 => ("VouchFlow$Circle", "boundCount", "I", false)
  | 2 => ("VouchFlow$Circle", "bounds", "[I", true)
  | 3 => ("VouchFlow$Circle", "kinds", "[I", true)
  | _ => ("VouchFlow$Circle", "vouched", "[I", true)
def tyX0 : Nat → FieldType := fun k => match k with
  | 0 => .int
  | 1 => .int
  | 2 => .array .int
  | 3 => .array .int
  | _ => .array .int
abbrev wsX00 : List Cond := u_ws RX0 TX0 5
theorem nmX0 : ∀ a, a < 5 → ∀ b, b < 5 → a ≠ b → (TX0 a).2.1 ≠ (TX0 b).2.1 := by decide +kernel
theorem tyX0_ok : ∀ k, k < 5 → parseFieldDescriptor (TX0 k).2.2.1 = some (tyX0 k) := by decide +kernel
abbrev cX0_init : ByteArray := prog_2_method_1_code
def yX0_init : MethodName := ⟨RX0, "<init>", "()V"⟩
abbrev cX0_clear : ByteArray := prog_2_method_2_code
def yX0_clear : MethodName := ⟨RX0, "clear", "()V"⟩
abbrev cX0_become : ByteArray := prog_2_method_3_code
def yX0_become : MethodName := ⟨RX0, "become", "(LVouchFlow$Circle;)V"⟩
abbrev cX0_exists : ByteArray := prog_2_method_4_code
def yX0_exists : MethodName := ⟨RX0, "exists", "()Z"⟩
abbrev cX0_everyone : ByteArray := prog_2_method_5_code
def yX0_everyone : MethodName := ⟨RX0, "everyone", "()I"⟩
abbrev cX0_has : ByteArray := prog_2_method_6_code
def yX0_has : MethodName := ⟨RX0, "has", "(I)Z"⟩
abbrev cX0_hasPair : ByteArray := prog_2_method_7_code
def yX0_hasPair : MethodName := ⟨RX0, "hasPair", "(II)Z"⟩
abbrev cX0_hasVouch : ByteArray := prog_2_method_8_code
def yX0_hasVouch : MethodName := ⟨RX0, "hasVouch", "(II)Z"⟩
abbrev cX0_ofKind : ByteArray := prog_2_method_9_code
def yX0_ofKind : MethodName := ⟨RX0, "ofKind", "(I)I"⟩
abbrev cX0_vouchersOf : ByteArray := prog_2_method_10_code
def yX0_vouchersOf : MethodName := ⟨RX0, "vouchersOf", "(I)I"⟩
abbrev cX0_vouchCount : ByteArray := prog_2_method_11_code
def yX0_vouchCount : MethodName := ⟨RX0, "vouchCount", "()I"⟩
def RX1 : String := "VouchFlow$Flow"
def TX1 : u_T := fun k => match k with
  | 0 => ("VouchFlow$Flow", "web", "LVouchFlow$Web;", true)
  | 1 => ("VouchFlow$Flow", "coming", "[I", true)
  | 2 => ("VouchFlow$Flow", "along", "[I", true)
  | 3 => ("VouchFlow$Flow", "before", "[I", true)
  | 4 => ("VouchFlow$Flow", "found", "[I", true)
  | 5 => ("VouchFlow$Flow", "foundCount", "I", false)
  | _ => ("VouchFlow$Flow", "seen", "I", false)
def tyX1 : Nat → FieldType := fun k => match k with
  | 0 => .object "VouchFlow$Web"
  | 1 => .array .int
  | 2 => .array .int
  | 3 => .array .int
  | 4 => .array .int
  | 5 => .int
  | _ => .int
abbrev wsX10 : List Cond := u_ws RX1 TX1 7
theorem nmX1 : ∀ a, a < 7 → ∀ b, b < 7 → a ≠ b → (TX1 a).2.1 ≠ (TX1 b).2.1 := by decide +kernel
theorem tyX1_ok : ∀ k, k < 7 → parseFieldDescriptor (TX1 k).2.2.1 = some (tyX1 k) := by decide +kernel
abbrev cX1_init : ByteArray := prog_3_method_1_code
def yX1_init : MethodName := ⟨RX1, "<init>", "()V"⟩
abbrev cX1_begin : ByteArray := prog_3_method_2_code
def yX1_begin : MethodName := ⟨RX1, "begin", "()V"⟩
abbrev cX1_sendTo : ByteArray := prog_3_method_3_code
def yX1_sendTo : MethodName := ⟨RX1, "sendTo", "(I)Z"⟩
abbrev cX1_reached : ByteArray := prog_3_method_4_code
def yX1_reached : MethodName := ⟨RX1, "reached", "()I"⟩
abbrev cX1_search : ByteArray := prog_3_method_5_code
def yX1_search : MethodName := ⟨RX1, "search", "(I)V"⟩
abbrev cX1_note : ByteArray := prog_3_method_6_code
def yX1_note : MethodName := ⟨RX1, "note", "(II)V"⟩
abbrev cX1_nextOfComing : ByteArray := prog_3_method_7_code
def yX1_nextOfComing : MethodName := ⟨RX1, "nextOfComing", "(I)I"⟩
abbrev cX1_nextOfGoing : ByteArray := prog_3_method_8_code
def yX1_nextOfGoing : MethodName := ⟨RX1, "nextOfGoing", "(I)I"⟩
abbrev cX1_move : ByteArray := prog_3_method_9_code
def yX1_move : MethodName := ⟨RX1, "move", "(II)V"⟩
abbrev cX1_moveFromComing : ByteArray := prog_3_method_10_code
def yX1_moveFromComing : MethodName := ⟨RX1, "moveFromComing", "(II)V"⟩
abbrev cX1_moveFromGoing : ByteArray := prog_3_method_11_code
def yX1_moveFromGoing : MethodName := ⟨RX1, "moveFromGoing", "(II)V"⟩
def RX2 : String := "VouchFlow$Reader"
def TX2 : u_T := fun k => match k with
  | 0 => ("VouchFlow$Reader", "draft", "LVouchFlow$Circle;", true)
  | 1 => ("VouchFlow$Reader", "state", "I", false)
  | 2 => ("VouchFlow$Reader", "current", "I", false)
  | _ => ("VouchFlow$Reader", "lastWhom", "I", false)
def tyX2 : Nat → FieldType := fun k => match k with
  | 0 => .object "VouchFlow$Circle"
  | 1 => .int
  | 2 => .int
  | _ => .int
abbrev wsX20 : List Cond := u_ws RX2 TX2 4
theorem nmX2 : ∀ a, a < 4 → ∀ b, b < 4 → a ≠ b → (TX2 a).2.1 ≠ (TX2 b).2.1 := by decide +kernel
theorem tyX2_ok : ∀ k, k < 4 → parseFieldDescriptor (TX2 k).2.2.1 = some (tyX2 k) := by decide +kernel
abbrev cX2_init : ByteArray := prog_4_method_1_code
def yX2_init : MethodName := ⟨RX2, "<init>", "()V"⟩
abbrev cX2_begin : ByteArray := prog_4_method_2_code
def yX2_begin : MethodName := ⟨RX2, "begin", "()V"⟩
abbrev cX2_isComplete : ByteArray := prog_4_method_3_code
def yX2_isComplete : MethodName := ⟨RX2, "isComplete", "()Z"⟩
abbrev cX2_take : ByteArray := prog_4_method_4_code
def yX2_take : MethodName := ⟨RX2, "take", "(I)Z"⟩
abbrev cX2_moveTo : ByteArray := prog_4_method_5_code
def yX2_moveTo : MethodName := ⟨RX2, "moveTo", "(I)Z"⟩
abbrev cX2_takeCount : ByteArray := prog_4_method_6_code
def yX2_takeCount : MethodName := ⟨RX2, "takeCount", "(I)Z"⟩
abbrev cX2_takeBound : ByteArray := prog_4_method_7_code
def yX2_takeBound : MethodName := ⟨RX2, "takeBound", "(I)Z"⟩
abbrev cX2_takeBoundsEnd : ByteArray := prog_4_method_8_code
def yX2_takeBoundsEnd : MethodName := ⟨RX2, "takeBoundsEnd", "(I)Z"⟩
abbrev cX2_takeKind : ByteArray := prog_4_method_9_code
def yX2_takeKind : MethodName := ⟨RX2, "takeKind", "(I)Z"⟩
abbrev cX2_takeInPerson : ByteArray := prog_4_method_10_code
def yX2_takeInPerson : MethodName := ⟨RX2, "takeInPerson", "(I)Z"⟩
abbrev cX2_canVouchOn : ByteArray := prog_4_method_11_code
def yX2_canVouchOn : MethodName := ⟨RX2, "canVouchOn", "()Z"⟩
abbrev cX2_takeWhom : ByteArray := prog_4_method_12_code
def yX2_takeWhom : MethodName := ⟨RX2, "takeWhom", "(I)Z"⟩
def RX3 : String := "VouchFlow$Walk"
def TX3 : u_T := fun k => match k with
  | 0 => ("VouchFlow$Walk", "persons", "I", false)
  | 1 => ("VouchFlow$Walk", "whole", "J", false)
  | 2 => ("VouchFlow$Walk", "parts", "[J", true)
  | _ => ("VouchFlow$Walk", "next", "[J", true)
def tyX3 : Nat → FieldType := fun k => match k with
  | 0 => .int
  | 1 => .long
  | 2 => .array .long
  | _ => .array .long
abbrev wsX30 : List Cond := u_ws RX3 TX3 4
theorem nmX3 : ∀ a, a < 4 → ∀ b, b < 4 → a ≠ b → (TX3 a).2.1 ≠ (TX3 b).2.1 := by decide +kernel
theorem tyX3_ok : ∀ k, k < 4 → parseFieldDescriptor (TX3 k).2.2.1 = some (tyX3 k) := by decide +kernel
abbrev cX3_init : ByteArray := prog_5_method_1_code
def yX3_init : MethodName := ⟨RX3, "<init>", "()V"⟩
abbrev cX3_go : ByteArray := prog_5_method_2_code
def yX3_go : MethodName := ⟨RX3, "go", "(LVouchFlow$Circle;I)V"⟩
abbrev cX3_step : ByteArray := prog_5_method_3_code
def yX3_step : MethodName := ⟨RX3, "step", "(LVouchFlow$Circle;I)V"⟩
abbrev cX3_share : ByteArray := prog_5_method_4_code
def yX3_share : MethodName := ⟨RX3, "share", "(JI)V"⟩
abbrev cX3_numerator : ByteArray := prog_5_method_5_code
def yX3_numerator : MethodName := ⟨RX3, "numerator", "(I)I"⟩
abbrev cX3_denominator : ByteArray := prog_5_method_6_code
def yX3_denominator : MethodName := ⟨RX3, "denominator", "(I)I"⟩
abbrev cX3_thousandPart : ByteArray := prog_5_method_7_code
def yX3_thousandPart : MethodName := ⟨RX3, "thousandPart", "(I)I"⟩
abbrev cX3_personAt : ByteArray := prog_5_method_8_code
def yX3_personAt : MethodName := ⟨RX3, "personAt", "(I)I"⟩
abbrev cX3_comingBefore : ByteArray := prog_5_method_9_code
def yX3_comingBefore : MethodName := ⟨RX3, "comingBefore", "(I)I"⟩
abbrev cX3_commonDivisor : ByteArray := prog_5_method_10_code
def yX3_commonDivisor : MethodName := ⟨RX3, "commonDivisor", "(I)J"⟩
def RX4 : String := "VouchFlow$Web"
def TX4 : u_T := fun k => match k with
  | 0 => ("VouchFlow$Web", "persons", "I", false)
  | 1 => ("VouchFlow$Web", "seeds", "I", false)
  | 2 => ("VouchFlow$Web", "vouched", "[I", true)
  | 3 => ("VouchFlow$Web", "levels", "[I", true)
  | _ => ("VouchFlow$Web", "limits", "[I", true)
def tyX4 : Nat → FieldType := fun k => match k with
  | 0 => .int
  | 1 => .int
  | 2 => .array .int
  | 3 => .array .int
  | _ => .array .int
abbrev wsX40 : List Cond := u_ws RX4 TX4 5
theorem nmX4 : ∀ a, a < 5 → ∀ b, b < 5 → a ≠ b → (TX4 a).2.1 ≠ (TX4 b).2.1 := by decide +kernel
theorem tyX4_ok : ∀ k, k < 5 → parseFieldDescriptor (TX4 k).2.2.1 = some (tyX4 k) := by decide +kernel
abbrev cX4_init : ByteArray := prog_6_method_1_code
def yX4_init : MethodName := ⟨RX4, "<init>", "()V"⟩
abbrev cX4_copy : ByteArray := prog_6_method_2_code
def yX4_copy : MethodName := ⟨RX4, "copy", "(LVouchFlow$Circle;)V"⟩
abbrev cX4_leaveOut : ByteArray := prog_6_method_3_code
def yX4_leaveOut : MethodName := ⟨RX4, "leaveOut", "(II)V"⟩
abbrev cX4_silence : ByteArray := prog_6_method_4_code
def yX4_silence : MethodName := ⟨RX4, "silence", "(I)V"⟩
abbrev cX4_settle : ByteArray := prog_6_method_5_code
def yX4_settle : MethodName := ⟨RX4, "settle", "(LVouchFlow$Circle;)V"⟩
abbrev cX4_allowOnePathThroughAllBut : ByteArray := prog_6_method_6_code
def yX4_allowOnePathThroughAllBut : MethodName := ⟨RX4, "allowOnePathThroughAllBut", "(I)V"⟩
abbrev cX4_vouchedBy : ByteArray := prog_6_method_7_code
def yX4_vouchedBy : MethodName := ⟨RX4, "vouchedBy", "(I)I"⟩
abbrev cX4_reachedWithout : ByteArray := prog_6_method_8_code
def yX4_reachedWithout : MethodName := ⟨RX4, "reachedWithout", "(I)I"⟩
abbrev cX4_personsWithLevel : ByteArray := prog_6_method_9_code
def yX4_personsWithLevel : MethodName := ⟨RX4, "personsWithLevel", "()I"⟩
abbrev cX4_greatestLevel : ByteArray := prog_6_method_10_code
def yX4_greatestLevel : MethodName := ⟨RX4, "greatestLevel", "()I"⟩
abbrev cX4_limitsOf : ByteArray := prog_6_method_11_code
def yX4_limitsOf : MethodName := ⟨RX4, "limitsOf", "(I)I"⟩
def RX5 : String := "VouchFlow$Writer"
def TX5 : u_T := fun k => match k with
  | 0 => ("VouchFlow$Writer", "text", "[I", true)
  | _ => ("VouchFlow$Writer", "length", "I", false)
def tyX5 : Nat → FieldType := fun k => match k with
  | 0 => .array .int
  | _ => .int
abbrev wsX50 : List Cond := u_ws RX5 TX5 2
theorem nmX5 : ∀ a, a < 2 → ∀ b, b < 2 → a ≠ b → (TX5 a).2.1 ≠ (TX5 b).2.1 := by decide +kernel
theorem tyX5_ok : ∀ k, k < 2 → parseFieldDescriptor (TX5 k).2.2.1 = some (tyX5 k) := by decide +kernel
abbrev cX5_init : ByteArray := prog_7_method_1_code
def yX5_init : MethodName := ⟨RX5, "<init>", "()V"⟩
abbrev cX5_write : ByteArray := prog_7_method_2_code
def yX5_write : MethodName := ⟨RX5, "write", "(LVouchFlow$Circle;)V"⟩
abbrev cX5_writePerson : ByteArray := prog_7_method_3_code
def yX5_writePerson : MethodName := ⟨RX5, "writePerson", "(LVouchFlow$Circle;I)V"⟩
abbrev cX5_put : ByteArray := prog_7_method_4_code
def yX5_put : MethodName := ⟨RX5, "put", "(I)V"⟩
def RX6 : String := "VouchFlow"
def TX6 : u_T := fun k => match k with
  | 0 => ("VouchFlow", "page", "[I", true)
  | 1 => ("VouchFlow", "pageLength", "I", false)
  | 2 => ("VouchFlow", "present", "LVouchFlow$Circle;", true)
  | 3 => ("VouchFlow", "reader", "LVouchFlow$Reader;", true)
  | 4 => ("VouchFlow", "writer", "LVouchFlow$Writer;", true)
  | 5 => ("VouchFlow", "flow", "LVouchFlow$Flow;", true)
  | 6 => ("VouchFlow", "web", "LVouchFlow$Web;", true)
  | 7 => ("VouchFlow", "walk", "LVouchFlow$Walk;", true)
  | 8 => ("VouchFlow", "circlesRead", "I", false)
  | 9 => ("VouchFlow", "vouchesAdded", "I", false)
  | _ => ("VouchFlow", "vouchesRemoved", "I", false)
def tyX6 : Nat → FieldType := fun k => match k with
  | 0 => .array .int
  | 1 => .int
  | 2 => .object "VouchFlow$Circle"
  | 3 => .object "VouchFlow$Reader"
  | 4 => .object "VouchFlow$Writer"
  | 5 => .object "VouchFlow$Flow"
  | 6 => .object "VouchFlow$Web"
  | 7 => .object "VouchFlow$Walk"
  | 8 => .int
  | 9 => .int
  | _ => .int
abbrev wsX60 : List Cond := u_ws RX6 TX6 11
theorem nmX6 : ∀ a, a < 11 → ∀ b, b < 11 → a ≠ b → (TX6 a).2.1 ≠ (TX6 b).2.1 := by decide +kernel
theorem tyX6_ok : ∀ k, k < 11 → parseFieldDescriptor (TX6 k).2.2.1 = some (tyX6 k) := by decide +kernel
abbrev cX6_init : ByteArray := prog_1_method_1_code
def yX6_init : MethodName := ⟨RX6, "<init>", "()V"⟩
abbrev cX6_letter : ByteArray := prog_1_method_2_code
def yX6_letter : MethodName := ⟨RX6, "letter", "(I)I"⟩
abbrev cX6_blank : ByteArray := prog_1_method_3_code
def yX6_blank : MethodName := ⟨RX6, "blank", "()I"⟩
abbrev cX6_fault : ByteArray := prog_1_method_4_code
def yX6_fault : MethodName := ⟨RX6, "fault", "()I"⟩
abbrev cX6_circle : ByteArray := prog_1_method_5_code
def yX6_circle : MethodName := ⟨RX6, "circle", "()I"⟩
abbrev cX6_ink : ByteArray := prog_1_method_6_code
def yX6_ink : MethodName := ⟨RX6, "ink", "(I)I"⟩
abbrev cX6_kind : ByteArray := prog_1_method_7_code
def yX6_kind : MethodName := ⟨RX6, "kind", "(II)I"⟩
abbrev cX6_as : ByteArray := prog_1_method_8_code
def yX6_as : MethodName := ⟨RX6, "as", "(II)I"⟩
abbrev cX6_vouch : ByteArray := prog_1_method_9_code
def yX6_vouch : MethodName := ⟨RX6, "vouch", "(II)I"⟩
abbrev cX6_recall : ByteArray := prog_1_method_10_code
def yX6_recall : MethodName := ⟨RX6, "recall", "(II)I"⟩
abbrev cX6_bound : ByteArray := prog_1_method_11_code
def yX6_bound : MethodName := ⟨RX6, "bound", "(II)I"⟩
abbrev cX6_about : ByteArray := prog_1_method_12_code
def yX6_about : MethodName := ⟨RX6, "about", "(I)I"⟩
abbrev cX6_person : ByteArray := prog_1_method_13_code
def yX6_person : MethodName := ⟨RX6, "person", "(II)I"⟩
abbrev cX6_vouches : ByteArray := prog_1_method_14_code
def yX6_vouches : MethodName := ⟨RX6, "vouches", "(II)I"⟩
abbrev cX6_generous : ByteArray := prog_1_method_15_code
def yX6_generous : MethodName := ⟨RX6, "generous", "()I"⟩
abbrev cX6_trust : ByteArray := prog_1_method_16_code
def yX6_trust : MethodName := ⟨RX6, "trust", "(I)I"⟩
abbrev cX6_together : ByteArray := prog_1_method_17_code
def yX6_together : MethodName := ⟨RX6, "together", "(I)I"⟩
abbrev cX6_cut : ByteArray := prog_1_method_18_code
def yX6_cut : MethodName := ⟨RX6, "cut", "(I)I"⟩
abbrev cX6_apart : ByteArray := prog_1_method_19_code
def yX6_apart : MethodName := ⟨RX6, "apart", "(I)I"⟩
abbrev cX6_without : ByteArray := prog_1_method_20_code
def yX6_without : MethodName := ⟨RX6, "without", "(III)I"⟩
abbrev cX6_dearest : ByteArray := prog_1_method_21_code
def yX6_dearest : MethodName := ⟨RX6, "dearest", "()I"⟩
abbrev cX6_chance : ByteArray := prog_1_method_22_code
def yX6_chance : MethodName := ⟨RX6, "chance", "(III)I"⟩
abbrev cX6_thousandths : ByteArray := prog_1_method_23_code
def yX6_thousandths : MethodName := ⟨RX6, "thousandths", "(II)I"⟩
abbrev cX6_order : ByteArray := prog_1_method_24_code
def yX6_order : MethodName := ⟨RX6, "order", "(II)I"⟩
abbrev cX6_count : ByteArray := prog_1_method_25_code
def yX6_count : MethodName := ⟨RX6, "count", "(I)I"⟩
abbrev cX6_digest : ByteArray := prog_1_method_26_code
def yX6_digest : MethodName := ⟨RX6, "digest", "()J"⟩
abbrev cX6_add : ByteArray := prog_1_method_27_code
def yX6_add : MethodName := ⟨RX6, "add", "(JI)J"⟩
abbrev cX6_addInk : ByteArray := prog_1_method_28_code
def yX6_addInk : MethodName := ⟨RX6, "addInk", "(J)J"⟩
abbrev cX6_addPersons : ByteArray := prog_1_method_29_code
def yX6_addPersons : MethodName := ⟨RX6, "addPersons", "(J)J"⟩
abbrev cX6_addTrust : ByteArray := prog_1_method_30_code
def yX6_addTrust : MethodName := ⟨RX6, "addTrust", "(J)J"⟩
abbrev cX6_addWalks : ByteArray := prog_1_method_31_code
def yX6_addWalks : MethodName := ⟨RX6, "addWalks", "(J)J"⟩
abbrev cX6_isKind : ByteArray := prog_1_method_32_code
def yX6_isKind : MethodName := ⟨RX6, "isKind", "(I)Z"⟩
abbrev cX6_isStepCount : ByteArray := prog_1_method_33_code
def yX6_isStepCount : MethodName := ⟨RX6, "isStepCount", "(I)Z"⟩
abbrev cX6_bit : ByteArray := prog_1_method_34_code
def yX6_bit : MethodName := ⟨RX6, "bit", "(II)I"⟩
abbrev cX6_prepareWeb : ByteArray := prog_1_method_35_code
def yX6_prepareWeb : MethodName := ⟨RX6, "prepareWeb", "()V"⟩
abbrev cX6_prepareWebWithout : ByteArray := prog_1_method_36_code
def yX6_prepareWebWithout : MethodName := ⟨RX6, "prepareWebWithout", "(II)V"⟩
abbrev cX6_admitted : ByteArray := prog_1_method_37_code
def yX6_admitted : MethodName := ⟨RX6, "admitted", "(I)I"⟩
abbrev cX6_takenIn : ByteArray := prog_1_method_38_code
def yX6_takenIn : MethodName := ⟨RX6, "takenIn", "()I"⟩
abbrev cX6_waysTo : ByteArray := prog_1_method_39_code
def yX6_waysTo : MethodName := ⟨RX6, "waysTo", "(I)I"⟩
def RX7 : String := "VouchFlowModel"
def TX7 : u_T := fun k => match k with
  | 0 => ("VouchFlowModel", "persons", "I", false)
  | 1 => ("VouchFlowModel", "kind", "[I", true)
  | 2 => ("VouchFlowModel", "vouched", "[I", true)
  | 3 => ("VouchFlowModel", "bounds", "I", false)
  | 4 => ("VouchFlowModel", "bound", "[I", true)
  | 5 => ("VouchFlowModel", "circles", "I", false)
  | 6 => ("VouchFlowModel", "came", "I", false)
  | 7 => ("VouchFlowModel", "gone", "I", false)
  | 8 => ("VouchFlowModel", "pageLength", "I", false)
  | 9 => ("VouchFlowModel", "page", "[I", true)
  | 10 => ("VouchFlowModel", "stage", "I", false)
  | 11 => ("VouchFlowModel", "newPersons", "I", false)
  | 12 => ("VouchFlowModel", "newBounds", "I", false)
  | 13 => ("VouchFlowModel", "newBound", "[I", true)
  | 14 => ("VouchFlowModel", "newAt", "I", false)
  | 15 => ("VouchFlowModel", "newLast", "I", false)
  | 16 => ("VouchFlowModel", "newSeeds", "I", false)
  | 17 => ("VouchFlowModel", "newKind", "[I", true)
  | 18 => ("VouchFlowModel", "newVouched", "[I", true)
  | 19 => ("VouchFlowModel", "inkAsked", "I", false)
  | 20 => ("VouchFlowModel", "inkMany", "I", false)
  | 21 => ("VouchFlowModel", "inkTold", "I", false)
  | 22 => ("VouchFlowModel", "level", "[I", true)
  | 23 => ("VouchFlowModel", "most", "[I", true)
  | 24 => ("VouchFlowModel", "wallMost", "[I", true)
  | 25 => ("VouchFlowModel", "kept", "[I", true)
  | 26 => ("VouchFlowModel", "chance", "[J", true)
  | 27 => ("VouchFlowModel", "chanceNext", "[J", true)
  | 28 => ("VouchFlowModel", "below", "J", false)
  | _ => ("VouchFlowModel", "h", "J", false)
def tyX7 : Nat → FieldType := fun k => match k with
  | 0 => .int
  | 1 => .array .int
  | 2 => .array .int
  | 3 => .int
  | 4 => .array .int
  | 5 => .int
  | 6 => .int
  | 7 => .int
  | 8 => .int
  | 9 => .array .int
  | 10 => .int
  | 11 => .int
  | 12 => .int
  | 13 => .array .int
  | 14 => .int
  | 15 => .int
  | 16 => .int
  | 17 => .array .int
  | 18 => .array .int
  | 19 => .int
  | 20 => .int
  | 21 => .int
  | 22 => .array .int
  | 23 => .array .int
  | 24 => .array .int
  | 25 => .array .int
  | 26 => .array .long
  | 27 => .array .long
  | 28 => .long
  | _ => .long
abbrev wsX70 : List Cond := u_ws RX7 TX7 30
theorem nmX7 : ∀ a, a < 30 → ∀ b, b < 30 → a ≠ b → (TX7 a).2.1 ≠ (TX7 b).2.1 := by decide +kernel
theorem tyX7_ok : ∀ k, k < 30 → parseFieldDescriptor (TX7 k).2.2.1 = some (tyX7 k) := by decide +kernel
abbrev cX7_init : ByteArray := prog_9_method_1_code
def yX7_init : MethodName := ⟨RX7, "<init>", "()V"⟩
abbrev cX7_within : ByteArray := prog_9_method_3_code
def yX7_within : MethodName := ⟨RX7, "within", "(III)Z"⟩
abbrev cX7_has : ByteArray := prog_9_method_4_code
def yX7_has : MethodName := ⟨RX7, "has", "(II)Z"⟩
abbrev cX7_size : ByteArray := prog_9_method_5_code
def yX7_size : MethodName := ⟨RX7, "size", "(I)I"⟩
abbrev cX7_letter : ByteArray := prog_9_method_6_code
def yX7_letter : MethodName := ⟨RX7, "letter", "(I)I"⟩
abbrev cX7_blank : ByteArray := prog_9_method_7_code
def yX7_blank : MethodName := ⟨RX7, "blank", "()I"⟩
abbrev cX7_canVouch : ByteArray := prog_9_method_8_code
def yX7_canVouch : MethodName := ⟨RX7, "canVouch", "(I)Z"⟩
abbrev cX7_canBegin : ByteArray := prog_9_method_9_code
def yX7_canBegin : MethodName := ⟨RX7, "canBegin", "()Z"⟩
abbrev cX7_beginPerson : ByteArray := prog_9_method_10_code
def yX7_beginPerson : MethodName := ⟨RX7, "beginPerson", "(I)V"⟩
abbrev cX7_takesBounds : ByteArray := prog_9_method_11_code
def yX7_takesBounds : MethodName := ⟨RX7, "takesBounds", "(I)Z"⟩
abbrev cX7_takesKind : ByteArray := prog_9_method_12_code
def yX7_takesKind : MethodName := ⟨RX7, "takesKind", "(I)Z"⟩
abbrev cX7_takesOfPerson : ByteArray := prog_9_method_13_code
def yX7_takesOfPerson : MethodName := ⟨RX7, "takesOfPerson", "(I)Z"⟩
abbrev cX7_takesWhom : ByteArray := prog_9_method_14_code
def yX7_takesWhom : MethodName := ⟨RX7, "takesWhom", "(I)Z"⟩
abbrev cX7_takes : ByteArray := prog_9_method_15_code
def yX7_takes : MethodName := ⟨RX7, "takes", "(I)Z"⟩
abbrev cX7_read : ByteArray := prog_9_method_16_code
def yX7_read : MethodName := ⟨RX7, "read", "()I"⟩
abbrev cX7_fault : ByteArray := prog_9_method_17_code
def yX7_fault : MethodName := ⟨RX7, "fault", "()I"⟩
abbrev cX7_circle : ByteArray := prog_9_method_18_code
def yX7_circle : MethodName := ⟨RX7, "circle", "()I"⟩
abbrev cX7_isCircle : ByteArray := prog_9_method_19_code
def yX7_isCircle : MethodName := ⟨RX7, "isCircle", "()Z"⟩
abbrev cX7_ink1 : ByteArray := prog_9_method_20_code
def yX7_ink1 : MethodName := ⟨RX7, "ink1", "(I)V"⟩
abbrev cX7_inkPerson : ByteArray := prog_9_method_21_code
def yX7_inkPerson : MethodName := ⟨RX7, "inkPerson", "(I)V"⟩
abbrev cX7_inkNow : ByteArray := prog_9_method_22_code
def yX7_inkNow : MethodName := ⟨RX7, "inkNow", "(I)I"⟩
abbrev cX7_ink : ByteArray := prog_9_method_23_code
def yX7_ink : MethodName := ⟨RX7, "ink", "(I)I"⟩
abbrev cX7_isPerson : ByteArray := prog_9_method_24_code
def yX7_isPerson : MethodName := ⟨RX7, "isPerson", "(I)Z"⟩
abbrev cX7_areTwo : ByteArray := prog_9_method_25_code
def yX7_areTwo : MethodName := ⟨RX7, "areTwo", "(II)Z"⟩
abbrev cX7_ofKind : ByteArray := prog_9_method_26_code
def yX7_ofKind : MethodName := ⟨RX7, "ofKind", "(I)I"⟩
abbrev cX7_kind : ByteArray := prog_9_method_27_code
def yX7_kind : MethodName := ⟨RX7, "kind", "(II)I"⟩
abbrev cX7_as : ByteArray := prog_9_method_28_code
def yX7_as : MethodName := ⟨RX7, "as", "(II)I"⟩
abbrev cX7_vouch : ByteArray := prog_9_method_29_code
def yX7_vouch : MethodName := ⟨RX7, "vouch", "(II)I"⟩
abbrev cX7_recall : ByteArray := prog_9_method_30_code
def yX7_recall : MethodName := ⟨RX7, "recall", "(II)I"⟩
abbrev cX7_bound : ByteArray := prog_9_method_31_code
def yX7_bound : MethodName := ⟨RX7, "bound", "(II)I"⟩
abbrev cX7_vouchedBy : ByteArray := prog_9_method_32_code
def yX7_vouchedBy : MethodName := ⟨RX7, "vouchedBy", "(I)I"⟩
abbrev cX7_wallOf : ByteArray := prog_9_method_33_code
def yX7_wallOf : MethodName := ⟨RX7, "wallOf", "(I)I"⟩
abbrev cX7_layLevels : ByteArray := prog_9_method_34_code
def yX7_layLevels : MethodName := ⟨RX7, "layLevels", "()V"⟩
abbrev cX7_mostOf : ByteArray := prog_9_method_35_code
def yX7_mostOf : MethodName := ⟨RX7, "mostOf", "(I)I"⟩
abbrev cX7_lay : ByteArray := prog_9_method_36_code
def yX7_lay : MethodName := ⟨RX7, "lay", "()V"⟩
abbrev cX7_canBe : ByteArray := prog_9_method_37_code
def yX7_canBe : MethodName := ⟨RX7, "canBe", "(I)Z"⟩
abbrev cX7_allIn : ByteArray := prog_9_method_38_code
def yX7_allIn : MethodName := ⟨RX7, "allIn", "()I"⟩
abbrev cX7_flood : ByteArray := prog_9_method_39_code
def yX7_flood : MethodName := ⟨RX7, "flood", "()I"⟩
abbrev cX7_takenIn : ByteArray := prog_9_method_40_code
def yX7_takenIn : MethodName := ⟨RX7, "takenIn", "()I"⟩
abbrev cX7_vouchesAll : ByteArray := prog_9_method_41_code
def yX7_vouchesAll : MethodName := ⟨RX7, "vouchesAll", "()I"⟩
abbrev cX7_levelsMany : ByteArray := prog_9_method_42_code
def yX7_levelsMany : MethodName := ⟨RX7, "levelsMany", "()I"⟩
abbrev cX7_greatestLevel : ByteArray := prog_9_method_43_code
def yX7_greatestLevel : MethodName := ⟨RX7, "greatestLevel", "()I"⟩
abbrev cX7_aboutNow : ByteArray := prog_9_method_44_code
def yX7_aboutNow : MethodName := ⟨RX7, "aboutNow", "(I)I"⟩
abbrev cX7_about : ByteArray := prog_9_method_45_code
def yX7_about : MethodName := ⟨RX7, "about", "(I)I"⟩
abbrev cX7_vouchersOf : ByteArray := prog_9_method_46_code
def yX7_vouchersOf : MethodName := ⟨RX7, "vouchersOf", "(I)I"⟩
abbrev cX7_personNow : ByteArray := prog_9_method_47_code
def yX7_personNow : MethodName := ⟨RX7, "personNow", "(II)I"⟩
abbrev cX7_person : ByteArray := prog_9_method_48_code
def yX7_person : MethodName := ⟨RX7, "person", "(II)I"⟩
abbrev cX7_vouches : ByteArray := prog_9_method_49_code
def yX7_vouches : MethodName := ⟨RX7, "vouches", "(II)I"⟩
abbrev cX7_generousNow : ByteArray := prog_9_method_50_code
def yX7_generousNow : MethodName := ⟨RX7, "generousNow", "()I"⟩
abbrev cX7_generous : ByteArray := prog_9_method_51_code
def yX7_generous : MethodName := ⟨RX7, "generous", "()I"⟩
abbrev cX7_withoutFalse : ByteArray := prog_9_method_52_code
def yX7_withoutFalse : MethodName := ⟨RX7, "withoutFalse", "()I"⟩
abbrev cX7_trustNow : ByteArray := prog_9_method_53_code
def yX7_trustNow : MethodName := ⟨RX7, "trustNow", "(I)I"⟩
abbrev cX7_trust : ByteArray := prog_9_method_54_code
def yX7_trust : MethodName := ⟨RX7, "trust", "(I)I"⟩
abbrev cX7_togetherNow : ByteArray := prog_9_method_55_code
def yX7_togetherNow : MethodName := ⟨RX7, "togetherNow", "(I)I"⟩
abbrev cX7_together : ByteArray := prog_9_method_56_code
def yX7_together : MethodName := ⟨RX7, "together", "(I)I"⟩
abbrev cX7_costOf : ByteArray := prog_9_method_57_code
def yX7_costOf : MethodName := ⟨RX7, "costOf", "(I)I"⟩
abbrev cX7_cutSet : ByteArray := prog_9_method_58_code
def yX7_cutSet : MethodName := ⟨RX7, "cutSet", "()I"⟩
abbrev cX7_cutNow : ByteArray := prog_9_method_59_code
def yX7_cutNow : MethodName := ⟨RX7, "cutNow", "(I)I"⟩
abbrev cX7_cut : ByteArray := prog_9_method_60_code
def yX7_cut : MethodName := ⟨RX7, "cut", "(I)I"⟩
abbrev cX7_isLed : ByteArray := prog_9_method_61_code
def yX7_isLed : MethodName := ⟨RX7, "isLed", "(II)Z"⟩
abbrev cX7_apartNow : ByteArray := prog_9_method_62_code
def yX7_apartNow : MethodName := ⟨RX7, "apartNow", "(I)I"⟩
abbrev cX7_apart : ByteArray := prog_9_method_63_code
def yX7_apart : MethodName := ⟨RX7, "apart", "(I)I"⟩
abbrev cX7_withoutNow : ByteArray := prog_9_method_64_code
def yX7_withoutNow : MethodName := ⟨RX7, "withoutNow", "(III)I"⟩
abbrev cX7_without : ByteArray := prog_9_method_65_code
def yX7_without : MethodName := ⟨RX7, "without", "(III)I"⟩
abbrev cX7_dearestNow : ByteArray := prog_9_method_66_code
def yX7_dearestNow : MethodName := ⟨RX7, "dearestNow", "()I"⟩
abbrev cX7_dearest : ByteArray := prog_9_method_67_code
def yX7_dearest : MethodName := ⟨RX7, "dearest", "()I"⟩
abbrev cX7_goesTo : ByteArray := prog_9_method_68_code
def yX7_goesTo : MethodName := ⟨RX7, "goesTo", "(III)V"⟩
abbrev cX7_layChances : ByteArray := prog_9_method_69_code
def yX7_layChances : MethodName := ⟨RX7, "layChances", "(I)V"⟩
abbrev cX7_common : ByteArray := prog_9_method_70_code
def yX7_common : MethodName := ⟨RX7, "common", "(JJ)J"⟩
abbrev cX7_chanceNow : ByteArray := prog_9_method_71_code
def yX7_chanceNow : MethodName := ⟨RX7, "chanceNow", "(III)I"⟩
abbrev cX7_areSeeds : ByteArray := prog_9_method_72_code
def yX7_areSeeds : MethodName := ⟨RX7, "areSeeds", "()Z"⟩
abbrev cX7_chance : ByteArray := prog_9_method_73_code
def yX7_chance : MethodName := ⟨RX7, "chance", "(III)I"⟩
abbrev cX7_thousandthsNow : ByteArray := prog_9_method_74_code
def yX7_thousandthsNow : MethodName := ⟨RX7, "thousandthsNow", "(II)I"⟩
abbrev cX7_thousandths : ByteArray := prog_9_method_75_code
def yX7_thousandths : MethodName := ⟨RX7, "thousandths", "(II)I"⟩
abbrev cX7_placeOf : ByteArray := prog_9_method_76_code
def yX7_placeOf : MethodName := ⟨RX7, "placeOf", "(I)I"⟩
abbrev cX7_orderNow : ByteArray := prog_9_method_77_code
def yX7_orderNow : MethodName := ⟨RX7, "orderNow", "(II)I"⟩
abbrev cX7_order : ByteArray := prog_9_method_78_code
def yX7_order : MethodName := ⟨RX7, "order", "(II)I"⟩
abbrev cX7_howMany : ByteArray := prog_9_method_79_code
def yX7_howMany : MethodName := ⟨RX7, "howMany", "(I)I"⟩
abbrev cX7_count : ByteArray := prog_9_method_80_code
def yX7_count : MethodName := ⟨RX7, "count", "(I)I"⟩
abbrev cX7_mix : ByteArray := prog_9_method_81_code
def yX7_mix : MethodName := ⟨RX7, "mix", "(J)V"⟩
abbrev cX7_mixInk : ByteArray := prog_9_method_82_code
def yX7_mixInk : MethodName := ⟨RX7, "mixInk", "()V"⟩
abbrev cX7_mixPersons : ByteArray := prog_9_method_83_code
def yX7_mixPersons : MethodName := ⟨RX7, "mixPersons", "()V"⟩
abbrev cX7_mixTrust : ByteArray := prog_9_method_84_code
def yX7_mixTrust : MethodName := ⟨RX7, "mixTrust", "()V"⟩
abbrev cX7_mixWalk : ByteArray := prog_9_method_85_code
def yX7_mixWalk : MethodName := ⟨RX7, "mixWalk", "(I)V"⟩
abbrev cX7_digest : ByteArray := prog_9_method_86_code
def yX7_digest : MethodName := ⟨RX7, "digest", "()J"⟩
def RJ6 : String := "java/lang/Integer"
abbrev cJ6_bitCount_0f7a4 : ByteArray := prog_10_method_49_code
def yJ6_bitCount_0f7a4 : MethodName := ⟨RJ6, "bitCount", "(I)I"⟩
def RJ9 : String := "java/lang/Math"
abbrev cJ9_max_7cf53 : ByteArray := prog_11_method_65_code
def yJ9_max_7cf53 : MethodName := ⟨RJ9, "max", "(II)I"⟩
abbrev cJ9_max_f86c9 : ByteArray := prog_11_method_66_code
def yJ9_max_f86c9 : MethodName := ⟨RJ9, "max", "(JJ)J"⟩
def RJ10 : String := "java/lang/System"
def RJ7 : String := "java/util/Arrays"
abbrev cJ7_fill_d0a16 : ByteArray := prog_13_method_101_code
def yJ7_fill_d0a16 : MethodName := ⟨RJ7, "fill", "([JJ)V"⟩
abbrev cJ7_fill_53178 : ByteArray := prog_13_method_103_code
def yJ7_fill_53178 : MethodName := ⟨RJ7, "fill", "([II)V"⟩
def RL : String := "VouchFlowLaw"
abbrev cL_law : ByteArray := code
def yL_law : MethodName := ⟨RL, "law", "([I)Z"⟩
abbrev vwCl : List vw_C := [(RX0, TX0, 5), (RX1, TX1, 7), (RX2, TX2, 4), (RX3, TX3, 4), (RX4, TX4, 5), (RX5, TX5, 2), (RX6, TX6, 11), (RX7, TX7, 30)]
end
section
theorem dX0_init_0 : decode cX0_init 0 = .ok (.aload_n 0, 1) := by decide +kernel
theorem dX0_init_1 : decode cX0_init 1 = .ok (.invokespecial 3, 3) := by decide +kernel
theorem dX0_init_4 : decode cX0_init 4 = .ok (.aload_n 0, 1) := by decide +kernel
theorem dX0_init_5 : decode cX0_init 5 = .ok (.iconst 5, 1) := by decide +kernel
theorem dX0_init_6 : decode cX0_init 6 = .ok (.newarray .int, 2) := by decide +kernel
theorem dX0_init_8 : decode cX0_init 8 = .ok (.putfield 9, 3) := by decide +kernel
theorem dX0_init_11 : decode cX0_init 11 = .ok (.aload_n 0, 1) := by decide +kernel
theorem dX0_init_12 : decode cX0_init 12 = .ok (.bipush 9, 2) := by decide +kernel
theorem dX0_init_14 : decode cX0_init 14 = .ok (.newarray .int, 2) := by decide +kernel
theorem dX0_init_16 : decode cX0_init 16 = .ok (.putfield 15, 3) := by decide +kernel
theorem dX0_init_19 : decode cX0_init 19 = .ok (.aload_n 0, 1) := by decide +kernel
theorem dX0_init_20 : decode cX0_init 20 = .ok (.bipush 9, 2) := by decide +kernel
theorem dX0_init_22 : decode cX0_init 22 = .ok (.newarray .int, 2) := by decide +kernel
theorem dX0_init_24 : decode cX0_init 24 = .ok (.putfield 18, 3) := by decide +kernel
theorem dX0_init_27 : decode cX0_init 27 = .ok (.return_, 1) := by decide +kernel
theorem dX0_clear_0 : decode cX0_clear 0 = .ok (.aload_n 0, 1) := by decide +kernel
theorem dX0_clear_1 : decode cX0_clear 1 = .ok (.iconst 0, 1) := by decide +kernel
theorem dX0_clear_2 : decode cX0_clear 2 = .ok (.putfield 21, 3) := by decide +kernel
theorem dX0_clear_5 : decode cX0_clear 5 = .ok (.aload_n 0, 1) := by decide +kernel
theorem dX0_clear_6 : decode cX0_clear 6 = .ok (.iconst 0, 1) := by decide +kernel
theorem dX0_clear_7 : decode cX0_clear 7 = .ok (.putfield 25, 3) := by decide +kernel
theorem dX0_clear_10 : decode cX0_clear 10 = .ok (.aload_n 0, 1) := by decide +kernel
theorem dX0_clear_11 : decode cX0_clear 11 = .ok (.getfield 9, 3) := by decide +kernel
theorem dX0_clear_14 : decode cX0_clear 14 = .ok (.iconst 0, 1) := by decide +kernel
theorem dX0_clear_15 : decode cX0_clear 15 = .ok (.invokestatic 28, 3) := by decide +kernel
theorem dX0_clear_18 : decode cX0_clear 18 = .ok (.aload_n 0, 1) := by decide +kernel
theorem dX0_clear_19 : decode cX0_clear 19 = .ok (.getfield 15, 3) := by decide +kernel
theorem dX0_clear_22 : decode cX0_clear 22 = .ok (.iconst 0, 1) := by decide +kernel
theorem dX0_clear_23 : decode cX0_clear 23 = .ok (.invokestatic 28, 3) := by decide +kernel
theorem dX0_clear_26 : decode cX0_clear 26 = .ok (.aload_n 0, 1) := by decide +kernel
theorem dX0_clear_27 : decode cX0_clear 27 = .ok (.getfield 18, 3) := by decide +kernel
theorem dX0_clear_30 : decode cX0_clear 30 = .ok (.iconst 0, 1) := by decide +kernel
theorem dX0_clear_31 : decode cX0_clear 31 = .ok (.invokestatic 28, 3) := by decide +kernel
theorem dX0_clear_34 : decode cX0_clear 34 = .ok (.return_, 1) := by decide +kernel
theorem dX0_become_0 : decode cX0_become 0 = .ok (.aload_n 0, 1) := by decide +kernel
theorem dX0_become_1 : decode cX0_become 1 = .ok (.aload_n 1, 1) := by decide +kernel
theorem dX0_become_2 : decode cX0_become 2 = .ok (.getfield 21, 3) := by decide +kernel
theorem dX0_become_5 : decode cX0_become 5 = .ok (.putfield 21, 3) := by decide +kernel
theorem dX0_become_8 : decode cX0_become 8 = .ok (.aload_n 0, 1) := by decide +kernel
theorem dX0_become_9 : decode cX0_become 9 = .ok (.aload_n 1, 1) := by decide +kernel
theorem dX0_become_10 : decode cX0_become 10 = .ok (.getfield 25, 3) := by decide +kernel
theorem dX0_become_13 : decode cX0_become 13 = .ok (.putfield 25, 3) := by decide +kernel
theorem dX0_become_16 : decode cX0_become 16 = .ok (.aload_n 1, 1) := by decide +kernel
theorem dX0_become_17 : decode cX0_become 17 = .ok (.getfield 9, 3) := by decide +kernel
theorem dX0_become_20 : decode cX0_become 20 = .ok (.iconst 0, 1) := by decide +kernel
theorem dX0_become_21 : decode cX0_become 21 = .ok (.aload_n 0, 1) := by decide +kernel
theorem dX0_become_22 : decode cX0_become 22 = .ok (.getfield 9, 3) := by decide +kernel
theorem dX0_become_25 : decode cX0_become 25 = .ok (.iconst 0, 1) := by decide +kernel
theorem dX0_become_26 : decode cX0_become 26 = .ok (.iconst 5, 1) := by decide +kernel
theorem dX0_become_27 : decode cX0_become 27 = .ok (.invokestatic 34, 3) := by decide +kernel
theorem dX0_become_30 : decode cX0_become 30 = .ok (.aload_n 1, 1) := by decide +kernel
theorem dX0_become_31 : decode cX0_become 31 = .ok (.getfield 15, 3) := by decide +kernel
theorem dX0_become_34 : decode cX0_become 34 = .ok (.iconst 0, 1) := by decide +kernel
theorem dX0_become_35 : decode cX0_become 35 = .ok (.aload_n 0, 1) := by decide +kernel
theorem dX0_become_36 : decode cX0_become 36 = .ok (.getfield 15, 3) := by decide +kernel
theorem dX0_become_39 : decode cX0_become 39 = .ok (.iconst 0, 1) := by decide +kernel
theorem dX0_become_40 : decode cX0_become 40 = .ok (.bipush 9, 2) := by decide +kernel
theorem dX0_become_42 : decode cX0_become 42 = .ok (.invokestatic 34, 3) := by decide +kernel
theorem dX0_become_45 : decode cX0_become 45 = .ok (.aload_n 1, 1) := by decide +kernel
theorem dX0_become_46 : decode cX0_become 46 = .ok (.getfield 18, 3) := by decide +kernel
theorem dX0_become_49 : decode cX0_become 49 = .ok (.iconst 0, 1) := by decide +kernel
theorem dX0_become_50 : decode cX0_become 50 = .ok (.aload_n 0, 1) := by decide +kernel
theorem dX0_become_51 : decode cX0_become 51 = .ok (.getfield 18, 3) := by decide +kernel
theorem dX0_become_54 : decode cX0_become 54 = .ok (.iconst 0, 1) := by decide +kernel
theorem dX0_become_55 : decode cX0_become 55 = .ok (.bipush 9, 2) := by decide +kernel
theorem dX0_become_57 : decode cX0_become 57 = .ok (.invokestatic 34, 3) := by decide +kernel
theorem dX0_become_60 : decode cX0_become 60 = .ok (.return_, 1) := by decide +kernel
theorem dX0_exists_0 : decode cX0_exists 0 = .ok (.aload_n 0, 1) := by decide +kernel
theorem dX0_exists_1 : decode cX0_exists 1 = .ok (.getfield 21, 3) := by decide +kernel
theorem dX0_exists_4 : decode cX0_exists 4 = .ok (.ifCond .le 7, 3) := by decide +kernel
theorem dX0_exists_7 : decode cX0_exists 7 = .ok (.iconst 1, 1) := by decide +kernel
theorem dX0_exists_8 : decode cX0_exists 8 = .ok (.goto 4, 3) := by decide +kernel
theorem dX0_exists_11 : decode cX0_exists 11 = .ok (.iconst 0, 1) := by decide +kernel
theorem dX0_exists_12 : decode cX0_exists 12 = .ok (.ireturn, 1) := by decide +kernel
theorem dX0_everyone_0 : decode cX0_everyone 0 = .ok (.iconst 1, 1) := by decide +kernel
theorem dX0_everyone_1 : decode cX0_everyone 1 = .ok (.aload_n 0, 1) := by decide +kernel
theorem dX0_everyone_2 : decode cX0_everyone 2 = .ok (.getfield 21, 3) := by decide +kernel
theorem dX0_everyone_5 : decode cX0_everyone 5 = .ok (.ishl, 1) := by decide +kernel
theorem dX0_everyone_6 : decode cX0_everyone 6 = .ok (.iconst 1, 1) := by decide +kernel
theorem dX0_everyone_7 : decode cX0_everyone 7 = .ok (.isub, 1) := by decide +kernel
theorem dX0_everyone_8 : decode cX0_everyone 8 = .ok (.ireturn, 1) := by decide +kernel
theorem dX0_has_0 : decode cX0_has 0 = .ok (.iload_n 1, 1) := by decide +kernel
theorem dX0_has_1 : decode cX0_has 1 = .ok (.ifCond .lt 15, 3) := by decide +kernel
theorem dX0_has_4 : decode cX0_has 4 = .ok (.iload_n 1, 1) := by decide +kernel
theorem dX0_has_5 : decode cX0_has 5 = .ok (.aload_n 0, 1) := by decide +kernel
theorem dX0_has_6 : decode cX0_has 6 = .ok (.getfield 21, 3) := by decide +kernel
theorem dX0_has_9 : decode cX0_has 9 = .ok (.if_icmp .ge 7, 3) := by decide +kernel
theorem dX0_has_12 : decode cX0_has 12 = .ok (.iconst 1, 1) := by decide +kernel
theorem dX0_has_13 : decode cX0_has 13 = .ok (.goto 4, 3) := by decide +kernel
theorem dX0_has_16 : decode cX0_has 16 = .ok (.iconst 0, 1) := by decide +kernel
theorem dX0_has_17 : decode cX0_has 17 = .ok (.ireturn, 1) := by decide +kernel
theorem dX0_hasPair_0 : decode cX0_hasPair 0 = .ok (.aload_n 0, 1) := by decide +kernel
theorem dX0_hasPair_1 : decode cX0_hasPair 1 = .ok (.iload_n 1, 1) := by decide +kernel
theorem dX0_hasPair_2 : decode cX0_hasPair 2 = .ok (.invokevirtual 40, 3) := by decide +kernel
theorem dX0_hasPair_5 : decode cX0_hasPair 5 = .ok (.ifCond .eq 20, 3) := by decide +kernel
theorem dX0_hasPair_8 : decode cX0_hasPair 8 = .ok (.aload_n 0, 1) := by decide +kernel
theorem dX0_hasPair_9 : decode cX0_hasPair 9 = .ok (.iload_n 2, 1) := by decide +kernel
theorem dX0_hasPair_10 : decode cX0_hasPair 10 = .ok (.invokevirtual 40, 3) := by decide +kernel
theorem dX0_hasPair_13 : decode cX0_hasPair 13 = .ok (.ifCond .eq 12, 3) := by decide +kernel
theorem dX0_hasPair_16 : decode cX0_hasPair 16 = .ok (.iload_n 1, 1) := by decide +kernel
theorem dX0_hasPair_17 : decode cX0_hasPair 17 = .ok (.iload_n 2, 1) := by decide +kernel
theorem dX0_hasPair_18 : decode cX0_hasPair 18 = .ok (.if_icmp .eq 7, 3) := by decide +kernel
theorem dX0_hasPair_21 : decode cX0_hasPair 21 = .ok (.iconst 1, 1) := by decide +kernel
theorem dX0_hasPair_22 : decode cX0_hasPair 22 = .ok (.goto 4, 3) := by decide +kernel
theorem dX0_hasPair_25 : decode cX0_hasPair 25 = .ok (.iconst 0, 1) := by decide +kernel
theorem dX0_hasPair_26 : decode cX0_hasPair 26 = .ok (.ireturn, 1) := by decide +kernel
theorem dX0_hasVouch_0 : decode cX0_hasVouch 0 = .ok (.aload_n 0, 1) := by decide +kernel
theorem dX0_hasVouch_1 : decode cX0_hasVouch 1 = .ok (.getfield 18, 3) := by decide +kernel
theorem dX0_hasVouch_4 : decode cX0_hasVouch 4 = .ok (.iload_n 1, 1) := by decide +kernel
theorem dX0_hasVouch_5 : decode cX0_hasVouch 5 = .ok (.iaload, 1) := by decide +kernel
theorem dX0_hasVouch_6 : decode cX0_hasVouch 6 = .ok (.iload_n 2, 1) := by decide +kernel
theorem dX0_hasVouch_7 : decode cX0_hasVouch 7 = .ok (.invokestatic 44, 3) := by decide +kernel
theorem dX0_hasVouch_10 : decode cX0_hasVouch 10 = .ok (.iconst 1, 1) := by decide +kernel
theorem dX0_hasVouch_11 : decode cX0_hasVouch 11 = .ok (.if_icmp .ne 7, 3) := by decide +kernel
theorem dX0_hasVouch_14 : decode cX0_hasVouch 14 = .ok (.iconst 1, 1) := by decide +kernel
theorem dX0_hasVouch_15 : decode cX0_hasVouch 15 = .ok (.goto 4, 3) := by decide +kernel
theorem dX0_hasVouch_18 : decode cX0_hasVouch 18 = .ok (.iconst 0, 1) := by decide +kernel
theorem dX0_hasVouch_19 : decode cX0_hasVouch 19 = .ok (.ireturn, 1) := by decide +kernel
theorem dX0_ofKind_0 : decode cX0_ofKind 0 = .ok (.iconst 0, 1) := by decide +kernel
theorem dX0_ofKind_1 : decode cX0_ofKind 1 = .ok (.istore_n 2, 1) := by decide +kernel
theorem dX0_ofKind_2 : decode cX0_ofKind 2 = .ok (.iconst 0, 1) := by decide +kernel
theorem dX0_ofKind_3 : decode cX0_ofKind 3 = .ok (.istore_n 3, 1) := by decide +kernel
theorem dX0_ofKind_4 : decode cX0_ofKind 4 = .ok (.iload_n 3, 1) := by decide +kernel
theorem dX0_ofKind_5 : decode cX0_ofKind 5 = .ok (.aload_n 0, 1) := by decide +kernel
theorem dX0_ofKind_6 : decode cX0_ofKind 6 = .ok (.getfield 21, 3) := by decide +kernel
theorem dX0_ofKind_9 : decode cX0_ofKind 9 = .ok (.if_icmp .ge 25, 3) := by decide +kernel
theorem dX0_ofKind_12 : decode cX0_ofKind 12 = .ok (.aload_n 0, 1) := by decide +kernel
theorem dX0_ofKind_13 : decode cX0_ofKind 13 = .ok (.getfield 15, 3) := by decide +kernel
theorem dX0_ofKind_16 : decode cX0_ofKind 16 = .ok (.iload_n 3, 1) := by decide +kernel
theorem dX0_ofKind_17 : decode cX0_ofKind 17 = .ok (.iaload, 1) := by decide +kernel
theorem dX0_ofKind_18 : decode cX0_ofKind 18 = .ok (.iload_n 1, 1) := by decide +kernel
theorem dX0_ofKind_19 : decode cX0_ofKind 19 = .ok (.if_icmp .ne 9, 3) := by decide +kernel
theorem dX0_ofKind_22 : decode cX0_ofKind 22 = .ok (.iload_n 2, 1) := by decide +kernel
theorem dX0_ofKind_23 : decode cX0_ofKind 23 = .ok (.iconst 1, 1) := by decide +kernel
theorem dX0_ofKind_24 : decode cX0_ofKind 24 = .ok (.iload_n 3, 1) := by decide +kernel
theorem dX0_ofKind_25 : decode cX0_ofKind 25 = .ok (.ishl, 1) := by decide +kernel
theorem dX0_ofKind_26 : decode cX0_ofKind 26 = .ok (.ior, 1) := by decide +kernel
theorem dX0_ofKind_27 : decode cX0_ofKind 27 = .ok (.istore_n 2, 1) := by decide +kernel
theorem dX0_ofKind_28 : decode cX0_ofKind 28 = .ok (.iinc 3 1, 3) := by decide +kernel
theorem dX0_ofKind_31 : decode cX0_ofKind 31 = .ok (.goto (-27), 3) := by decide +kernel
theorem dX0_ofKind_34 : decode cX0_ofKind 34 = .ok (.iload_n 2, 1) := by decide +kernel
theorem dX0_ofKind_35 : decode cX0_ofKind 35 = .ok (.ireturn, 1) := by decide +kernel
theorem dX0_vouchersOf_0 : decode cX0_vouchersOf 0 = .ok (.iconst 0, 1) := by decide +kernel
theorem dX0_vouchersOf_1 : decode cX0_vouchersOf 1 = .ok (.istore_n 2, 1) := by decide +kernel
theorem dX0_vouchersOf_2 : decode cX0_vouchersOf 2 = .ok (.iconst 0, 1) := by decide +kernel
theorem dX0_vouchersOf_3 : decode cX0_vouchersOf 3 = .ok (.istore_n 3, 1) := by decide +kernel
theorem dX0_vouchersOf_4 : decode cX0_vouchersOf 4 = .ok (.iload_n 3, 1) := by decide +kernel
theorem dX0_vouchersOf_5 : decode cX0_vouchersOf 5 = .ok (.aload_n 0, 1) := by decide +kernel
theorem dX0_vouchersOf_6 : decode cX0_vouchersOf 6 = .ok (.getfield 21, 3) := by decide +kernel
theorem dX0_vouchersOf_9 : decode cX0_vouchersOf 9 = .ok (.if_icmp .ge 24, 3) := by decide +kernel
theorem dX0_vouchersOf_12 : decode cX0_vouchersOf 12 = .ok (.aload_n 0, 1) := by decide +kernel
theorem dX0_vouchersOf_13 : decode cX0_vouchersOf 13 = .ok (.iload_n 3, 1) := by decide +kernel
theorem dX0_vouchersOf_14 : decode cX0_vouchersOf 14 = .ok (.iload_n 1, 1) := by decide +kernel
theorem dX0_vouchersOf_15 : decode cX0_vouchersOf 15 = .ok (.invokevirtual 48, 3) := by decide +kernel
theorem dX0_vouchersOf_18 : decode cX0_vouchersOf 18 = .ok (.ifCond .eq 9, 3) := by decide +kernel
theorem dX0_vouchersOf_21 : decode cX0_vouchersOf 21 = .ok (.iload_n 2, 1) := by decide +kernel
theorem dX0_vouchersOf_22 : decode cX0_vouchersOf 22 = .ok (.iconst 1, 1) := by decide +kernel
theorem dX0_vouchersOf_23 : decode cX0_vouchersOf 23 = .ok (.iload_n 3, 1) := by decide +kernel
theorem dX0_vouchersOf_24 : decode cX0_vouchersOf 24 = .ok (.ishl, 1) := by decide +kernel
theorem dX0_vouchersOf_25 : decode cX0_vouchersOf 25 = .ok (.ior, 1) := by decide +kernel
theorem dX0_vouchersOf_26 : decode cX0_vouchersOf 26 = .ok (.istore_n 2, 1) := by decide +kernel
theorem dX0_vouchersOf_27 : decode cX0_vouchersOf 27 = .ok (.iinc 3 1, 3) := by decide +kernel
theorem dX0_vouchersOf_30 : decode cX0_vouchersOf 30 = .ok (.goto (-26), 3) := by decide +kernel
theorem dX0_vouchersOf_33 : decode cX0_vouchersOf 33 = .ok (.iload_n 2, 1) := by decide +kernel
theorem dX0_vouchersOf_34 : decode cX0_vouchersOf 34 = .ok (.ireturn, 1) := by decide +kernel
theorem dX0_vouchCount_0 : decode cX0_vouchCount 0 = .ok (.iconst 0, 1) := by decide +kernel
theorem dX0_vouchCount_1 : decode cX0_vouchCount 1 = .ok (.istore_n 1, 1) := by decide +kernel
theorem dX0_vouchCount_2 : decode cX0_vouchCount 2 = .ok (.iconst 0, 1) := by decide +kernel
theorem dX0_vouchCount_3 : decode cX0_vouchCount 3 = .ok (.istore_n 2, 1) := by decide +kernel
theorem dX0_vouchCount_4 : decode cX0_vouchCount 4 = .ok (.iload_n 2, 1) := by decide +kernel
theorem dX0_vouchCount_5 : decode cX0_vouchCount 5 = .ok (.aload_n 0, 1) := by decide +kernel
theorem dX0_vouchCount_6 : decode cX0_vouchCount 6 = .ok (.getfield 21, 3) := by decide +kernel
theorem dX0_vouchCount_9 : decode cX0_vouchCount 9 = .ok (.if_icmp .ge 21, 3) := by decide +kernel
theorem dX0_vouchCount_12 : decode cX0_vouchCount 12 = .ok (.iload_n 1, 1) := by decide +kernel
theorem dX0_vouchCount_13 : decode cX0_vouchCount 13 = .ok (.aload_n 0, 1) := by decide +kernel
theorem dX0_vouchCount_14 : decode cX0_vouchCount 14 = .ok (.getfield 18, 3) := by decide +kernel
theorem dX0_vouchCount_17 : decode cX0_vouchCount 17 = .ok (.iload_n 2, 1) := by decide +kernel
theorem dX0_vouchCount_18 : decode cX0_vouchCount 18 = .ok (.iaload, 1) := by decide +kernel
theorem dX0_vouchCount_19 : decode cX0_vouchCount 19 = .ok (.invokestatic 52, 3) := by decide +kernel
theorem dX0_vouchCount_22 : decode cX0_vouchCount 22 = .ok (.iadd, 1) := by decide +kernel
theorem dX0_vouchCount_23 : decode cX0_vouchCount 23 = .ok (.istore_n 1, 1) := by decide +kernel
theorem dX0_vouchCount_24 : decode cX0_vouchCount 24 = .ok (.iinc 2 1, 3) := by decide +kernel
theorem dX0_vouchCount_27 : decode cX0_vouchCount 27 = .ok (.goto (-23), 3) := by decide +kernel
theorem dX0_vouchCount_30 : decode cX0_vouchCount 30 = .ok (.iload_n 1, 1) := by decide +kernel
theorem dX0_vouchCount_31 : decode cX0_vouchCount 31 = .ok (.ireturn, 1) := by decide +kernel
theorem dX1_init_0 : decode cX1_init 0 = .ok (.aload_n 0, 1) := by decide +kernel
theorem dX1_init_1 : decode cX1_init 1 = .ok (.invokespecial 3, 3) := by decide +kernel
theorem dX1_init_4 : decode cX1_init 4 = .ok (.aload_n 0, 1) := by decide +kernel
theorem dX1_init_5 : decode cX1_init 5 = .ok (.new 9, 3) := by decide +kernel
theorem dX1_init_8 : decode cX1_init 8 = .ok (.dup, 1) := by decide +kernel
theorem dX1_init_9 : decode cX1_init 9 = .ok (.invokespecial 11, 3) := by decide +kernel
theorem dX1_init_12 : decode cX1_init 12 = .ok (.putfield 12, 3) := by decide +kernel
theorem dX1_init_15 : decode cX1_init 15 = .ok (.aload_n 0, 1) := by decide +kernel
theorem dX1_init_16 : decode cX1_init 16 = .ok (.bipush 9, 2) := by decide +kernel
theorem dX1_init_18 : decode cX1_init 18 = .ok (.newarray .int, 2) := by decide +kernel
theorem dX1_init_20 : decode cX1_init 20 = .ok (.putfield 18, 3) := by decide +kernel
theorem dX1_init_23 : decode cX1_init 23 = .ok (.aload_n 0, 1) := by decide +kernel
theorem dX1_init_24 : decode cX1_init 24 = .ok (.bipush 81, 2) := by decide +kernel
theorem dX1_init_26 : decode cX1_init 26 = .ok (.newarray .int, 2) := by decide +kernel
theorem dX1_init_28 : decode cX1_init 28 = .ok (.putfield 22, 3) := by decide +kernel
theorem dX1_init_31 : decode cX1_init 31 = .ok (.aload_n 0, 1) := by decide +kernel
theorem dX1_init_32 : decode cX1_init 32 = .ok (.bipush 18, 2) := by decide +kernel
theorem dX1_init_34 : decode cX1_init 34 = .ok (.newarray .int, 2) := by decide +kernel
theorem dX1_init_36 : decode cX1_init 36 = .ok (.putfield 25, 3) := by decide +kernel
theorem dX1_init_39 : decode cX1_init 39 = .ok (.aload_n 0, 1) := by decide +kernel
theorem dX1_init_40 : decode cX1_init 40 = .ok (.bipush 18, 2) := by decide +kernel
theorem dX1_init_42 : decode cX1_init 42 = .ok (.newarray .int, 2) := by decide +kernel
theorem dX1_init_44 : decode cX1_init 44 = .ok (.putfield 28, 3) := by decide +kernel
theorem dX1_init_47 : decode cX1_init 47 = .ok (.return_, 1) := by decide +kernel
theorem dX1_begin_0 : decode cX1_begin 0 = .ok (.aload_n 0, 1) := by decide +kernel
theorem dX1_begin_1 : decode cX1_begin 1 = .ok (.getfield 18, 3) := by decide +kernel
theorem dX1_begin_4 : decode cX1_begin 4 = .ok (.iconst 0, 1) := by decide +kernel
theorem dX1_begin_5 : decode cX1_begin 5 = .ok (.invokestatic 31, 3) := by decide +kernel
theorem dX1_begin_8 : decode cX1_begin 8 = .ok (.aload_n 0, 1) := by decide +kernel
theorem dX1_begin_9 : decode cX1_begin 9 = .ok (.getfield 22, 3) := by decide +kernel
theorem dX1_begin_12 : decode cX1_begin 12 = .ok (.iconst 0, 1) := by decide +kernel
theorem dX1_begin_13 : decode cX1_begin 13 = .ok (.invokestatic 31, 3) := by decide +kernel
theorem dX1_begin_16 : decode cX1_begin 16 = .ok (.return_, 1) := by decide +kernel
theorem dX1_sendTo_0 : decode cX1_sendTo 0 = .ok (.bipush 9, 2) := by decide +kernel
theorem dX1_sendTo_2 : decode cX1_sendTo 2 = .ok (.iload_n 1, 1) := by decide +kernel
theorem dX1_sendTo_3 : decode cX1_sendTo 3 = .ok (.iadd, 1) := by decide +kernel
theorem dX1_sendTo_4 : decode cX1_sendTo 4 = .ok (.istore_n 2, 1) := by decide +kernel
theorem dX1_sendTo_5 : decode cX1_sendTo 5 = .ok (.aload_n 0, 1) := by decide +kernel
theorem dX1_sendTo_6 : decode cX1_sendTo 6 = .ok (.iload_n 2, 1) := by decide +kernel
theorem dX1_sendTo_7 : decode cX1_sendTo 7 = .ok (.invokevirtual 37, 3) := by decide +kernel
theorem dX1_sendTo_10 : decode cX1_sendTo 10 = .ok (.aload_n 0, 1) := by decide +kernel
theorem dX1_sendTo_11 : decode cX1_sendTo 11 = .ok (.getfield 41, 3) := by decide +kernel
theorem dX1_sendTo_14 : decode cX1_sendTo 14 = .ok (.iload_n 2, 1) := by decide +kernel
theorem dX1_sendTo_15 : decode cX1_sendTo 15 = .ok (.invokestatic 45, 3) := by decide +kernel
theorem dX1_sendTo_18 : decode cX1_sendTo 18 = .ok (.ifCond .ne 5, 3) := by decide +kernel
theorem dX1_sendTo_21 : decode cX1_sendTo 21 = .ok (.iconst 0, 1) := by decide +kernel
theorem dX1_sendTo_22 : decode cX1_sendTo 22 = .ok (.ireturn, 1) := by decide +kernel
theorem dX1_sendTo_23 : decode cX1_sendTo 23 = .ok (.iconst 0, 1) := by decide +kernel
theorem dX1_sendTo_24 : decode cX1_sendTo 24 = .ok (.istore_n 3, 1) := by decide +kernel
theorem dX1_sendTo_25 : decode cX1_sendTo 25 = .ok (.iload_n 3, 1) := by decide +kernel
theorem dX1_sendTo_26 : decode cX1_sendTo 26 = .ok (.bipush 18, 2) := by decide +kernel
theorem dX1_sendTo_28 : decode cX1_sendTo 28 = .ok (.if_icmp .ge 37, 3) := by decide +kernel
theorem dX1_sendTo_31 : decode cX1_sendTo 31 = .ok (.aload_n 0, 1) := by decide +kernel
theorem dX1_sendTo_32 : decode cX1_sendTo 32 = .ok (.getfield 25, 3) := by decide +kernel
theorem dX1_sendTo_35 : decode cX1_sendTo 35 = .ok (.iload_n 2, 1) := by decide +kernel
theorem dX1_sendTo_36 : decode cX1_sendTo 36 = .ok (.iaload, 1) := by decide +kernel
theorem dX1_sendTo_37 : decode cX1_sendTo 37 = .ok (.iconst (-1), 1) := by decide +kernel
theorem dX1_sendTo_38 : decode cX1_sendTo 38 = .ok (.if_icmp .eq 27, 3) := by decide +kernel
theorem dX1_sendTo_41 : decode cX1_sendTo 41 = .ok (.aload_n 0, 1) := by decide +kernel
theorem dX1_sendTo_42 : decode cX1_sendTo 42 = .ok (.aload_n 0, 1) := by decide +kernel
theorem dX1_sendTo_43 : decode cX1_sendTo 43 = .ok (.getfield 25, 3) := by decide +kernel
theorem dX1_sendTo_46 : decode cX1_sendTo 46 = .ok (.iload_n 2, 1) := by decide +kernel
theorem dX1_sendTo_47 : decode cX1_sendTo 47 = .ok (.iaload, 1) := by decide +kernel
theorem dX1_sendTo_48 : decode cX1_sendTo 48 = .ok (.iload_n 2, 1) := by decide +kernel
theorem dX1_sendTo_49 : decode cX1_sendTo 49 = .ok (.invokevirtual 49, 3) := by decide +kernel
theorem dX1_sendTo_52 : decode cX1_sendTo 52 = .ok (.aload_n 0, 1) := by decide +kernel
theorem dX1_sendTo_53 : decode cX1_sendTo 53 = .ok (.getfield 25, 3) := by decide +kernel
theorem dX1_sendTo_56 : decode cX1_sendTo 56 = .ok (.iload_n 2, 1) := by decide +kernel
theorem dX1_sendTo_57 : decode cX1_sendTo 57 = .ok (.iaload, 1) := by decide +kernel
theorem dX1_sendTo_58 : decode cX1_sendTo 58 = .ok (.istore_n 2, 1) := by decide +kernel
theorem dX1_sendTo_59 : decode cX1_sendTo 59 = .ok (.iinc 3 1, 3) := by decide +kernel
theorem dX1_sendTo_62 : decode cX1_sendTo 62 = .ok (.goto (-37), 3) := by decide +kernel
theorem dX1_sendTo_65 : decode cX1_sendTo 65 = .ok (.iconst 1, 1) := by decide +kernel
theorem dX1_sendTo_66 : decode cX1_sendTo 66 = .ok (.ireturn, 1) := by decide +kernel
theorem dX1_reached_0 : decode cX1_reached 0 = .ok (.aload_n 0, 1) := by decide +kernel
theorem dX1_reached_1 : decode cX1_reached 1 = .ok (.bipush (-2), 2) := by decide +kernel
theorem dX1_reached_3 : decode cX1_reached 3 = .ok (.invokevirtual 37, 3) := by decide +kernel
theorem dX1_reached_6 : decode cX1_reached 6 = .ok (.aload_n 0, 1) := by decide +kernel
theorem dX1_reached_7 : decode cX1_reached 7 = .ok (.getfield 41, 3) := by decide +kernel
theorem dX1_reached_10 : decode cX1_reached 10 = .ok (.bipush 9, 2) := by decide +kernel
theorem dX1_reached_12 : decode cX1_reached 12 = .ok (.ishr, 1) := by decide +kernel
theorem dX1_reached_13 : decode cX1_reached 13 = .ok (.ireturn, 1) := by decide +kernel
theorem dX1_search_0 : decode cX1_search 0 = .ok (.aload_n 0, 1) := by decide +kernel
theorem dX1_search_1 : decode cX1_search 1 = .ok (.iconst 0, 1) := by decide +kernel
theorem dX1_search_2 : decode cX1_search 2 = .ok (.putfield 41, 3) := by decide +kernel
theorem dX1_search_5 : decode cX1_search 5 = .ok (.aload_n 0, 1) := by decide +kernel
theorem dX1_search_6 : decode cX1_search 6 = .ok (.iconst 0, 1) := by decide +kernel
theorem dX1_search_7 : decode cX1_search 7 = .ok (.putfield 53, 3) := by decide +kernel
theorem dX1_search_10 : decode cX1_search 10 = .ok (.aload_n 0, 1) := by decide +kernel
theorem dX1_search_11 : decode cX1_search 11 = .ok (.aload_n 0, 1) := by decide +kernel
theorem dX1_search_12 : decode cX1_search 12 = .ok (.getfield 12, 3) := by decide +kernel
theorem dX1_search_15 : decode cX1_search 15 = .ok (.getfield 56, 3) := by decide +kernel
theorem dX1_search_18 : decode cX1_search 18 = .ok (.iconst (-1), 1) := by decide +kernel
theorem dX1_search_19 : decode cX1_search 19 = .ok (.invokevirtual 59, 3) := by decide +kernel
theorem dX1_search_22 : decode cX1_search 22 = .ok (.iconst 0, 1) := by decide +kernel
theorem dX1_search_23 : decode cX1_search 23 = .ok (.istore_n 2, 1) := by decide +kernel
theorem dX1_search_24 : decode cX1_search 24 = .ok (.iload_n 2, 1) := by decide +kernel
theorem dX1_search_25 : decode cX1_search 25 = .ok (.aload_n 0, 1) := by decide +kernel
theorem dX1_search_26 : decode cX1_search 26 = .ok (.getfield 53, 3) := by decide +kernel
theorem dX1_search_29 : decode cX1_search 29 = .ok (.if_icmp .ge 55, 3) := by decide +kernel
theorem dX1_search_32 : decode cX1_search 32 = .ok (.iload_n 2, 1) := by decide +kernel
theorem dX1_search_33 : decode cX1_search 33 = .ok (.bipush 18, 2) := by decide +kernel
theorem dX1_search_35 : decode cX1_search 35 = .ok (.if_icmp .ge 49, 3) := by decide +kernel
theorem dX1_search_38 : decode cX1_search 38 = .ok (.aload_n 0, 1) := by decide +kernel
theorem dX1_search_39 : decode cX1_search 39 = .ok (.getfield 28, 3) := by decide +kernel
theorem dX1_search_42 : decode cX1_search 42 = .ok (.iload_n 2, 1) := by decide +kernel
theorem dX1_search_43 : decode cX1_search 43 = .ok (.iaload, 1) := by decide +kernel
theorem dX1_search_44 : decode cX1_search 44 = .ok (.istore_n 3, 1) := by decide +kernel
theorem dX1_search_45 : decode cX1_search 45 = .ok (.iload_n 3, 1) := by decide +kernel
theorem dX1_search_46 : decode cX1_search 46 = .ok (.iload_n 1, 1) := by decide +kernel
theorem dX1_search_47 : decode cX1_search 47 = .ok (.if_icmp .ne 4, 3) := by decide +kernel
theorem dX1_search_50 : decode cX1_search 50 = .ok (.return_, 1) := by decide +kernel
theorem dX1_search_51 : decode cX1_search 51 = .ok (.aload_n 0, 1) := by decide +kernel
theorem dX1_search_52 : decode cX1_search 52 = .ok (.iload_n 3, 1) := by decide +kernel
theorem dX1_search_53 : decode cX1_search 53 = .ok (.bipush 9, 2) := by decide +kernel
theorem dX1_search_55 : decode cX1_search 55 = .ok (.if_icmp .ge 11, 3) := by decide +kernel
theorem dX1_search_58 : decode cX1_search 58 = .ok (.aload_n 0, 1) := by decide +kernel
theorem dX1_search_59 : decode cX1_search 59 = .ok (.iload_n 3, 1) := by decide +kernel
theorem dX1_search_60 : decode cX1_search 60 = .ok (.invokevirtual 62, 3) := by decide +kernel
theorem dX1_search_63 : decode cX1_search 63 = .ok (.goto 11, 3) := by decide +kernel
theorem dX1_search_66 : decode cX1_search 66 = .ok (.aload_n 0, 1) := by decide +kernel
theorem dX1_search_67 : decode cX1_search 67 = .ok (.iload_n 3, 1) := by decide +kernel
theorem dX1_search_68 : decode cX1_search 68 = .ok (.bipush 9, 2) := by decide +kernel
theorem dX1_search_70 : decode cX1_search 70 = .ok (.isub, 1) := by decide +kernel
theorem dX1_search_71 : decode cX1_search 71 = .ok (.invokevirtual 66, 3) := by decide +kernel
theorem dX1_search_74 : decode cX1_search 74 = .ok (.iload_n 3, 1) := by decide +kernel
theorem dX1_search_75 : decode cX1_search 75 = .ok (.invokevirtual 59, 3) := by decide +kernel
theorem dX1_search_78 : decode cX1_search 78 = .ok (.iinc 2 1, 3) := by decide +kernel
theorem dX1_search_81 : decode cX1_search 81 = .ok (.goto (-57), 3) := by decide +kernel
theorem dX1_search_84 : decode cX1_search 84 = .ok (.return_, 1) := by decide +kernel
theorem dX1_note_0 : decode cX1_note 0 = .ok (.iload_n 1, 1) := by decide +kernel
theorem dX1_note_1 : decode cX1_note 1 = .ok (.aload_n 0, 1) := by decide +kernel
theorem dX1_note_2 : decode cX1_note 2 = .ok (.getfield 41, 3) := by decide +kernel
theorem dX1_note_5 : decode cX1_note 5 = .ok (.iconst (-1), 1) := by decide +kernel
theorem dX1_note_6 : decode cX1_note 6 = .ok (.ixor, 1) := by decide +kernel
theorem dX1_note_7 : decode cX1_note 7 = .ok (.iand, 1) := by decide +kernel
theorem dX1_note_8 : decode cX1_note 8 = .ok (.istore_n 3, 1) := by decide +kernel
theorem dX1_note_9 : decode cX1_note 9 = .ok (.iconst 0, 1) := by decide +kernel
theorem dX1_note_10 : decode cX1_note 10 = .ok (.istore 4, 2) := by decide +kernel
theorem dX1_note_12 : decode cX1_note 12 = .ok (.iload 4, 2) := by decide +kernel
theorem dX1_note_14 : decode cX1_note 14 = .ok (.bipush 18, 2) := by decide +kernel
theorem dX1_note_16 : decode cX1_note 16 = .ok (.if_icmp .ge 64, 3) := by decide +kernel
theorem dX1_note_19 : decode cX1_note 19 = .ok (.iload_n 3, 1) := by decide +kernel
theorem dX1_note_20 : decode cX1_note 20 = .ok (.iload 4, 2) := by decide +kernel
theorem dX1_note_22 : decode cX1_note 22 = .ok (.ishr, 1) := by decide +kernel
theorem dX1_note_23 : decode cX1_note 23 = .ok (.ifCond .eq 57, 3) := by decide +kernel
theorem dX1_note_26 : decode cX1_note 26 = .ok (.iload_n 3, 1) := by decide +kernel
theorem dX1_note_27 : decode cX1_note 27 = .ok (.iload 4, 2) := by decide +kernel
theorem dX1_note_29 : decode cX1_note 29 = .ok (.ishr, 1) := by decide +kernel
theorem dX1_note_30 : decode cX1_note 30 = .ok (.iconst 1, 1) := by decide +kernel
theorem dX1_note_31 : decode cX1_note 31 = .ok (.iand, 1) := by decide +kernel
theorem dX1_note_32 : decode cX1_note 32 = .ok (.iconst 1, 1) := by decide +kernel
theorem dX1_note_33 : decode cX1_note 33 = .ok (.if_icmp .ne 41, 3) := by decide +kernel
theorem dX1_note_36 : decode cX1_note 36 = .ok (.aload_n 0, 1) := by decide +kernel
theorem dX1_note_37 : decode cX1_note 37 = .ok (.getfield 53, 3) := by decide +kernel
theorem dX1_note_40 : decode cX1_note 40 = .ok (.bipush 18, 2) := by decide +kernel
theorem dX1_note_42 : decode cX1_note 42 = .ok (.if_icmp .ge 32, 3) := by decide +kernel
theorem dX1_note_45 : decode cX1_note 45 = .ok (.aload_n 0, 1) := by decide +kernel
theorem dX1_note_46 : decode cX1_note 46 = .ok (.getfield 25, 3) := by decide +kernel
theorem dX1_note_49 : decode cX1_note 49 = .ok (.iload 4, 2) := by decide +kernel
theorem dX1_note_51 : decode cX1_note 51 = .ok (.iload_n 2, 1) := by decide +kernel
theorem dX1_note_52 : decode cX1_note 52 = .ok (.iastore, 1) := by decide +kernel
theorem dX1_note_53 : decode cX1_note 53 = .ok (.aload_n 0, 1) := by decide +kernel
theorem dX1_note_54 : decode cX1_note 54 = .ok (.getfield 28, 3) := by decide +kernel
theorem dX1_note_57 : decode cX1_note 57 = .ok (.aload_n 0, 1) := by decide +kernel
theorem dX1_note_58 : decode cX1_note 58 = .ok (.getfield 53, 3) := by decide +kernel
theorem dX1_note_61 : decode cX1_note 61 = .ok (.iload 4, 2) := by decide +kernel
theorem dX1_note_63 : decode cX1_note 63 = .ok (.iastore, 1) := by decide +kernel
theorem dX1_note_64 : decode cX1_note 64 = .ok (.aload_n 0, 1) := by decide +kernel
theorem dX1_note_65 : decode cX1_note 65 = .ok (.dup, 1) := by decide +kernel
theorem dX1_note_66 : decode cX1_note 66 = .ok (.getfield 53, 3) := by decide +kernel
theorem dX1_note_69 : decode cX1_note 69 = .ok (.iconst 1, 1) := by decide +kernel
theorem dX1_note_70 : decode cX1_note 70 = .ok (.iadd, 1) := by decide +kernel
theorem dX1_note_71 : decode cX1_note 71 = .ok (.putfield 53, 3) := by decide +kernel
theorem dX1_note_74 : decode cX1_note 74 = .ok (.iinc 4 1, 3) := by decide +kernel
theorem dX1_note_77 : decode cX1_note 77 = .ok (.goto (-65), 3) := by decide +kernel
theorem dX1_note_80 : decode cX1_note 80 = .ok (.aload_n 0, 1) := by decide +kernel
theorem dX1_note_81 : decode cX1_note 81 = .ok (.dup, 1) := by decide +kernel
theorem dX1_note_82 : decode cX1_note 82 = .ok (.getfield 41, 3) := by decide +kernel
theorem dX1_note_85 : decode cX1_note 85 = .ok (.iload_n 3, 1) := by decide +kernel
theorem dX1_note_86 : decode cX1_note 86 = .ok (.ior, 1) := by decide +kernel
theorem dX1_note_87 : decode cX1_note 87 = .ok (.putfield 41, 3) := by decide +kernel
theorem dX1_note_90 : decode cX1_note 90 = .ok (.return_, 1) := by decide +kernel
theorem dX1_nextOfComing_0 : decode cX1_nextOfComing 0 = .ok (.aload_n 0, 1) := by decide +kernel
theorem dX1_nextOfComing_1 : decode cX1_nextOfComing 1 = .ok (.getfield 18, 3) := by decide +kernel
theorem dX1_nextOfComing_4 : decode cX1_nextOfComing 4 = .ok (.iload_n 1, 1) := by decide +kernel
theorem dX1_nextOfComing_5 : decode cX1_nextOfComing 5 = .ok (.iaload, 1) := by decide +kernel
theorem dX1_nextOfComing_6 : decode cX1_nextOfComing 6 = .ok (.aload_n 0, 1) := by decide +kernel
theorem dX1_nextOfComing_7 : decode cX1_nextOfComing 7 = .ok (.getfield 12, 3) := by decide +kernel
theorem dX1_nextOfComing_10 : decode cX1_nextOfComing 10 = .ok (.getfield 69, 3) := by decide +kernel
theorem dX1_nextOfComing_13 : decode cX1_nextOfComing 13 = .ok (.iload_n 1, 1) := by decide +kernel
theorem dX1_nextOfComing_14 : decode cX1_nextOfComing 14 = .ok (.iaload, 1) := by decide +kernel
theorem dX1_nextOfComing_15 : decode cX1_nextOfComing 15 = .ok (.if_icmp .ge 12, 3) := by decide +kernel
theorem dX1_nextOfComing_18 : decode cX1_nextOfComing 18 = .ok (.iconst 1, 1) := by decide +kernel
theorem dX1_nextOfComing_19 : decode cX1_nextOfComing 19 = .ok (.bipush 9, 2) := by decide +kernel
theorem dX1_nextOfComing_21 : decode cX1_nextOfComing 21 = .ok (.iload_n 1, 1) := by decide +kernel
theorem dX1_nextOfComing_22 : decode cX1_nextOfComing 22 = .ok (.iadd, 1) := by decide +kernel
theorem dX1_nextOfComing_23 : decode cX1_nextOfComing 23 = .ok (.ishl, 1) := by decide +kernel
theorem dX1_nextOfComing_24 : decode cX1_nextOfComing 24 = .ok (.goto 4, 3) := by decide +kernel
theorem dX1_nextOfComing_27 : decode cX1_nextOfComing 27 = .ok (.iconst 0, 1) := by decide +kernel
theorem dX1_nextOfComing_28 : decode cX1_nextOfComing 28 = .ok (.istore_n 2, 1) := by decide +kernel
theorem dX1_nextOfComing_29 : decode cX1_nextOfComing 29 = .ok (.iconst 0, 1) := by decide +kernel
theorem dX1_nextOfComing_30 : decode cX1_nextOfComing 30 = .ok (.istore_n 3, 1) := by decide +kernel
theorem dX1_nextOfComing_31 : decode cX1_nextOfComing 31 = .ok (.iload_n 3, 1) := by decide +kernel
theorem dX1_nextOfComing_32 : decode cX1_nextOfComing 32 = .ok (.aload_n 0, 1) := by decide +kernel
theorem dX1_nextOfComing_33 : decode cX1_nextOfComing 33 = .ok (.getfield 12, 3) := by decide +kernel
theorem dX1_nextOfComing_36 : decode cX1_nextOfComing 36 = .ok (.getfield 72, 3) := by decide +kernel
theorem dX1_nextOfComing_39 : decode cX1_nextOfComing 39 = .ok (.if_icmp .ge 41, 3) := by decide +kernel
theorem dX1_nextOfComing_42 : decode cX1_nextOfComing 42 = .ok (.aload_n 0, 1) := by decide +kernel
theorem dX1_nextOfComing_43 : decode cX1_nextOfComing 43 = .ok (.getfield 18, 3) := by decide +kernel
theorem dX1_nextOfComing_46 : decode cX1_nextOfComing 46 = .ok (.iload_n 1, 1) := by decide +kernel
theorem dX1_nextOfComing_47 : decode cX1_nextOfComing 47 = .ok (.iaload, 1) := by decide +kernel
theorem dX1_nextOfComing_48 : decode cX1_nextOfComing 48 = .ok (.ifCond .le 32, 3) := by decide +kernel
theorem dX1_nextOfComing_51 : decode cX1_nextOfComing 51 = .ok (.aload_n 0, 1) := by decide +kernel
theorem dX1_nextOfComing_52 : decode cX1_nextOfComing 52 = .ok (.getfield 22, 3) := by decide +kernel
theorem dX1_nextOfComing_55 : decode cX1_nextOfComing 55 = .ok (.iload_n 3, 1) := by decide +kernel
theorem dX1_nextOfComing_56 : decode cX1_nextOfComing 56 = .ok (.bipush 9, 2) := by decide +kernel
theorem dX1_nextOfComing_58 : decode cX1_nextOfComing 58 = .ok (.imul, 1) := by decide +kernel
theorem dX1_nextOfComing_59 : decode cX1_nextOfComing 59 = .ok (.iload_n 1, 1) := by decide +kernel
theorem dX1_nextOfComing_60 : decode cX1_nextOfComing 60 = .ok (.iadd, 1) := by decide +kernel
theorem dX1_nextOfComing_61 : decode cX1_nextOfComing 61 = .ok (.iaload, 1) := by decide +kernel
theorem dX1_nextOfComing_62 : decode cX1_nextOfComing 62 = .ok (.ifCond .le 12, 3) := by decide +kernel
theorem dX1_nextOfComing_65 : decode cX1_nextOfComing 65 = .ok (.iload_n 2, 1) := by decide +kernel
theorem dX1_nextOfComing_66 : decode cX1_nextOfComing 66 = .ok (.iconst 1, 1) := by decide +kernel
theorem dX1_nextOfComing_67 : decode cX1_nextOfComing 67 = .ok (.bipush 9, 2) := by decide +kernel
theorem dX1_nextOfComing_69 : decode cX1_nextOfComing 69 = .ok (.iload_n 3, 1) := by decide +kernel
theorem dX1_nextOfComing_70 : decode cX1_nextOfComing 70 = .ok (.iadd, 1) := by decide +kernel
theorem dX1_nextOfComing_71 : decode cX1_nextOfComing 71 = .ok (.ishl, 1) := by decide +kernel
theorem dX1_nextOfComing_72 : decode cX1_nextOfComing 72 = .ok (.ior, 1) := by decide +kernel
theorem dX1_nextOfComing_73 : decode cX1_nextOfComing 73 = .ok (.istore_n 2, 1) := by decide +kernel
theorem dX1_nextOfComing_74 : decode cX1_nextOfComing 74 = .ok (.iinc 3 1, 3) := by decide +kernel
theorem dX1_nextOfComing_77 : decode cX1_nextOfComing 77 = .ok (.goto (-46), 3) := by decide +kernel
theorem dX1_nextOfComing_80 : decode cX1_nextOfComing 80 = .ok (.iload_n 2, 1) := by decide +kernel
theorem dX1_nextOfComing_81 : decode cX1_nextOfComing 81 = .ok (.ireturn, 1) := by decide +kernel
theorem dX1_nextOfGoing_0 : decode cX1_nextOfGoing 0 = .ok (.aload_n 0, 1) := by decide +kernel
theorem dX1_nextOfGoing_1 : decode cX1_nextOfGoing 1 = .ok (.getfield 12, 3) := by decide +kernel
theorem dX1_nextOfGoing_4 : decode cX1_nextOfGoing 4 = .ok (.getfield 75, 3) := by decide +kernel
theorem dX1_nextOfGoing_7 : decode cX1_nextOfGoing 7 = .ok (.iload_n 1, 1) := by decide +kernel
theorem dX1_nextOfGoing_8 : decode cX1_nextOfGoing 8 = .ok (.iaload, 1) := by decide +kernel
theorem dX1_nextOfGoing_9 : decode cX1_nextOfGoing 9 = .ok (.aload_n 0, 1) := by decide +kernel
theorem dX1_nextOfGoing_10 : decode cX1_nextOfGoing 10 = .ok (.getfield 18, 3) := by decide +kernel
theorem dX1_nextOfGoing_13 : decode cX1_nextOfGoing 13 = .ok (.iload_n 1, 1) := by decide +kernel
theorem dX1_nextOfGoing_14 : decode cX1_nextOfGoing 14 = .ok (.iaload, 1) := by decide +kernel
theorem dX1_nextOfGoing_15 : decode cX1_nextOfGoing 15 = .ok (.ifCond .le 9, 3) := by decide +kernel
theorem dX1_nextOfGoing_18 : decode cX1_nextOfGoing 18 = .ok (.iconst 1, 1) := by decide +kernel
theorem dX1_nextOfGoing_19 : decode cX1_nextOfGoing 19 = .ok (.iload_n 1, 1) := by decide +kernel
theorem dX1_nextOfGoing_20 : decode cX1_nextOfGoing 20 = .ok (.ishl, 1) := by decide +kernel
theorem dX1_nextOfGoing_21 : decode cX1_nextOfGoing 21 = .ok (.goto 4, 3) := by decide +kernel
theorem dX1_nextOfGoing_24 : decode cX1_nextOfGoing 24 = .ok (.iconst 0, 1) := by decide +kernel
theorem dX1_nextOfGoing_25 : decode cX1_nextOfGoing 25 = .ok (.ior, 1) := by decide +kernel
theorem dX1_nextOfGoing_26 : decode cX1_nextOfGoing 26 = .ok (.ireturn, 1) := by decide +kernel
theorem dX1_move_0 : decode cX1_move 0 = .ok (.iload_n 1, 1) := by decide +kernel
theorem dX1_move_1 : decode cX1_move 1 = .ok (.bipush 9, 2) := by decide +kernel
theorem dX1_move_3 : decode cX1_move 3 = .ok (.if_icmp .ge 15, 3) := by decide +kernel
theorem dX1_move_6 : decode cX1_move 6 = .ok (.aload_n 0, 1) := by decide +kernel
theorem dX1_move_7 : decode cX1_move 7 = .ok (.iload_n 1, 1) := by decide +kernel
theorem dX1_move_8 : decode cX1_move 8 = .ok (.iload_n 2, 1) := by decide +kernel
theorem dX1_move_9 : decode cX1_move 9 = .ok (.bipush 9, 2) := by decide +kernel
theorem dX1_move_11 : decode cX1_move 11 = .ok (.isub, 1) := by decide +kernel
theorem dX1_move_12 : decode cX1_move 12 = .ok (.invokevirtual 78, 3) := by decide +kernel
theorem dX1_move_15 : decode cX1_move 15 = .ok (.goto 12, 3) := by decide +kernel
theorem dX1_move_18 : decode cX1_move 18 = .ok (.aload_n 0, 1) := by decide +kernel
theorem dX1_move_19 : decode cX1_move 19 = .ok (.iload_n 1, 1) := by decide +kernel
theorem dX1_move_20 : decode cX1_move 20 = .ok (.bipush 9, 2) := by decide +kernel
theorem dX1_move_22 : decode cX1_move 22 = .ok (.isub, 1) := by decide +kernel
theorem dX1_move_23 : decode cX1_move 23 = .ok (.iload_n 2, 1) := by decide +kernel
theorem dX1_move_24 : decode cX1_move 24 = .ok (.invokevirtual 81, 3) := by decide +kernel
theorem dX1_move_27 : decode cX1_move 27 = .ok (.return_, 1) := by decide +kernel
theorem dX1_moveFromComing_0 : decode cX1_moveFromComing 0 = .ok (.iload_n 1, 1) := by decide +kernel
theorem dX1_moveFromComing_1 : decode cX1_moveFromComing 1 = .ok (.iload_n 2, 1) := by decide +kernel
theorem dX1_moveFromComing_2 : decode cX1_moveFromComing 2 = .ok (.if_icmp .ne 16, 3) := by decide +kernel
theorem dX1_moveFromComing_5 : decode cX1_moveFromComing 5 = .ok (.aload_n 0, 1) := by decide +kernel
theorem dX1_moveFromComing_6 : decode cX1_moveFromComing 6 = .ok (.getfield 18, 3) := by decide +kernel
theorem dX1_moveFromComing_9 : decode cX1_moveFromComing 9 = .ok (.iload_n 1, 1) := by decide +kernel
theorem dX1_moveFromComing_10 : decode cX1_moveFromComing 10 = .ok (.dup2, 1) := by decide +kernel
theorem dX1_moveFromComing_11 : decode cX1_moveFromComing 11 = .ok (.iaload, 1) := by decide +kernel
theorem dX1_moveFromComing_12 : decode cX1_moveFromComing 12 = .ok (.iconst 1, 1) := by decide +kernel
theorem dX1_moveFromComing_13 : decode cX1_moveFromComing 13 = .ok (.iadd, 1) := by decide +kernel
theorem dX1_moveFromComing_14 : decode cX1_moveFromComing 14 = .ok (.iastore, 1) := by decide +kernel
theorem dX1_moveFromComing_15 : decode cX1_moveFromComing 15 = .ok (.goto 18, 3) := by decide +kernel
theorem dX1_moveFromComing_18 : decode cX1_moveFromComing 18 = .ok (.aload_n 0, 1) := by decide +kernel
theorem dX1_moveFromComing_19 : decode cX1_moveFromComing 19 = .ok (.getfield 22, 3) := by decide +kernel
theorem dX1_moveFromComing_22 : decode cX1_moveFromComing 22 = .ok (.iload_n 2, 1) := by decide +kernel
theorem dX1_moveFromComing_23 : decode cX1_moveFromComing 23 = .ok (.bipush 9, 2) := by decide +kernel
theorem dX1_moveFromComing_25 : decode cX1_moveFromComing 25 = .ok (.imul, 1) := by decide +kernel
theorem dX1_moveFromComing_26 : decode cX1_moveFromComing 26 = .ok (.iload_n 1, 1) := by decide +kernel
theorem dX1_moveFromComing_27 : decode cX1_moveFromComing 27 = .ok (.iadd, 1) := by decide +kernel
theorem dX1_moveFromComing_28 : decode cX1_moveFromComing 28 = .ok (.dup2, 1) := by decide +kernel
theorem dX1_moveFromComing_29 : decode cX1_moveFromComing 29 = .ok (.iaload, 1) := by decide +kernel
theorem dX1_moveFromComing_30 : decode cX1_moveFromComing 30 = .ok (.iconst 1, 1) := by decide +kernel
theorem dX1_moveFromComing_31 : decode cX1_moveFromComing 31 = .ok (.isub, 1) := by decide +kernel
theorem dX1_moveFromComing_32 : decode cX1_moveFromComing 32 = .ok (.iastore, 1) := by decide +kernel
theorem dX1_moveFromComing_33 : decode cX1_moveFromComing 33 = .ok (.return_, 1) := by decide +kernel
theorem dX1_moveFromGoing_0 : decode cX1_moveFromGoing 0 = .ok (.iload_n 1, 1) := by decide +kernel
theorem dX1_moveFromGoing_1 : decode cX1_moveFromGoing 1 = .ok (.iload_n 2, 1) := by decide +kernel
theorem dX1_moveFromGoing_2 : decode cX1_moveFromGoing 2 = .ok (.if_icmp .ne 16, 3) := by decide +kernel
theorem dX1_moveFromGoing_5 : decode cX1_moveFromGoing 5 = .ok (.aload_n 0, 1) := by decide +kernel
theorem dX1_moveFromGoing_6 : decode cX1_moveFromGoing 6 = .ok (.getfield 18, 3) := by decide +kernel
theorem dX1_moveFromGoing_9 : decode cX1_moveFromGoing 9 = .ok (.iload_n 1, 1) := by decide +kernel
theorem dX1_moveFromGoing_10 : decode cX1_moveFromGoing 10 = .ok (.dup2, 1) := by decide +kernel
theorem dX1_moveFromGoing_11 : decode cX1_moveFromGoing 11 = .ok (.iaload, 1) := by decide +kernel
theorem dX1_moveFromGoing_12 : decode cX1_moveFromGoing 12 = .ok (.iconst 1, 1) := by decide +kernel
theorem dX1_moveFromGoing_13 : decode cX1_moveFromGoing 13 = .ok (.isub, 1) := by decide +kernel
theorem dX1_moveFromGoing_14 : decode cX1_moveFromGoing 14 = .ok (.iastore, 1) := by decide +kernel
theorem dX1_moveFromGoing_15 : decode cX1_moveFromGoing 15 = .ok (.goto 18, 3) := by decide +kernel
theorem dX1_moveFromGoing_18 : decode cX1_moveFromGoing 18 = .ok (.aload_n 0, 1) := by decide +kernel
theorem dX1_moveFromGoing_19 : decode cX1_moveFromGoing 19 = .ok (.getfield 22, 3) := by decide +kernel
theorem dX1_moveFromGoing_22 : decode cX1_moveFromGoing 22 = .ok (.iload_n 1, 1) := by decide +kernel
theorem dX1_moveFromGoing_23 : decode cX1_moveFromGoing 23 = .ok (.bipush 9, 2) := by decide +kernel
theorem dX1_moveFromGoing_25 : decode cX1_moveFromGoing 25 = .ok (.imul, 1) := by decide +kernel
theorem dX1_moveFromGoing_26 : decode cX1_moveFromGoing 26 = .ok (.iload_n 2, 1) := by decide +kernel
theorem dX1_moveFromGoing_27 : decode cX1_moveFromGoing 27 = .ok (.iadd, 1) := by decide +kernel
theorem dX1_moveFromGoing_28 : decode cX1_moveFromGoing 28 = .ok (.dup2, 1) := by decide +kernel
theorem dX1_moveFromGoing_29 : decode cX1_moveFromGoing 29 = .ok (.iaload, 1) := by decide +kernel
theorem dX1_moveFromGoing_30 : decode cX1_moveFromGoing 30 = .ok (.iconst 1, 1) := by decide +kernel
theorem dX1_moveFromGoing_31 : decode cX1_moveFromGoing 31 = .ok (.iadd, 1) := by decide +kernel
theorem dX1_moveFromGoing_32 : decode cX1_moveFromGoing 32 = .ok (.iastore, 1) := by decide +kernel
theorem dX1_moveFromGoing_33 : decode cX1_moveFromGoing 33 = .ok (.return_, 1) := by decide +kernel
theorem dX2_init_0 : decode cX2_init 0 = .ok (.aload_n 0, 1) := by decide +kernel
theorem dX2_init_1 : decode cX2_init 1 = .ok (.invokespecial 3, 3) := by decide +kernel
theorem dX2_init_4 : decode cX2_init 4 = .ok (.aload_n 0, 1) := by decide +kernel
theorem dX2_init_5 : decode cX2_init 5 = .ok (.new 9, 3) := by decide +kernel
theorem dX2_init_8 : decode cX2_init 8 = .ok (.dup, 1) := by decide +kernel
theorem dX2_init_9 : decode cX2_init 9 = .ok (.invokespecial 11, 3) := by decide +kernel
theorem dX2_init_12 : decode cX2_init 12 = .ok (.putfield 12, 3) := by decide +kernel
theorem dX2_init_15 : decode cX2_init 15 = .ok (.return_, 1) := by decide +kernel
theorem dX2_begin_0 : decode cX2_begin 0 = .ok (.aload_n 0, 1) := by decide +kernel
theorem dX2_begin_1 : decode cX2_begin 1 = .ok (.getfield 12, 3) := by decide +kernel
theorem dX2_begin_4 : decode cX2_begin 4 = .ok (.invokevirtual 18, 3) := by decide +kernel
theorem dX2_begin_7 : decode cX2_begin 7 = .ok (.aload_n 0, 1) := by decide +kernel
theorem dX2_begin_8 : decode cX2_begin 8 = .ok (.iconst 0, 1) := by decide +kernel
theorem dX2_begin_9 : decode cX2_begin 9 = .ok (.putfield 21, 3) := by decide +kernel
theorem dX2_begin_12 : decode cX2_begin 12 = .ok (.aload_n 0, 1) := by decide +kernel
theorem dX2_begin_13 : decode cX2_begin 13 = .ok (.iconst 0, 1) := by decide +kernel
theorem dX2_begin_14 : decode cX2_begin 14 = .ok (.putfield 25, 3) := by decide +kernel
theorem dX2_begin_17 : decode cX2_begin 17 = .ok (.aload_n 0, 1) := by decide +kernel
theorem dX2_begin_18 : decode cX2_begin 18 = .ok (.iconst (-1), 1) := by decide +kernel
theorem dX2_begin_19 : decode cX2_begin 19 = .ok (.putfield 28, 3) := by decide +kernel
theorem dX2_begin_22 : decode cX2_begin 22 = .ok (.return_, 1) := by decide +kernel
theorem dX2_isComplete_0 : decode cX2_isComplete 0 = .ok (.aload_n 0, 1) := by decide +kernel
theorem dX2_isComplete_1 : decode cX2_isComplete 1 = .ok (.getfield 21, 3) := by decide +kernel
theorem dX2_isComplete_4 : decode cX2_isComplete 4 = .ok (.iconst 3, 1) := by decide +kernel
theorem dX2_isComplete_5 : decode cX2_isComplete 5 = .ok (.if_icmp .eq 11, 3) := by decide +kernel
theorem dX2_isComplete_8 : decode cX2_isComplete 8 = .ok (.aload_n 0, 1) := by decide +kernel
theorem dX2_isComplete_9 : decode cX2_isComplete 9 = .ok (.getfield 21, 3) := by decide +kernel
theorem dX2_isComplete_12 : decode cX2_isComplete 12 = .ok (.iconst 4, 1) := by decide +kernel
theorem dX2_isComplete_13 : decode cX2_isComplete 13 = .ok (.if_icmp .ne 23, 3) := by decide +kernel
theorem dX2_isComplete_16 : decode cX2_isComplete 16 = .ok (.aload_n 0, 1) := by decide +kernel
theorem dX2_isComplete_17 : decode cX2_isComplete 17 = .ok (.getfield 25, 3) := by decide +kernel
theorem dX2_isComplete_20 : decode cX2_isComplete 20 = .ok (.aload_n 0, 1) := by decide +kernel
theorem dX2_isComplete_21 : decode cX2_isComplete 21 = .ok (.getfield 12, 3) := by decide +kernel
theorem dX2_isComplete_24 : decode cX2_isComplete 24 = .ok (.getfield 31, 3) := by decide +kernel
theorem dX2_isComplete_27 : decode cX2_isComplete 27 = .ok (.iconst 1, 1) := by decide +kernel
theorem dX2_isComplete_28 : decode cX2_isComplete 28 = .ok (.isub, 1) := by decide +kernel
theorem dX2_isComplete_29 : decode cX2_isComplete 29 = .ok (.if_icmp .ne 7, 3) := by decide +kernel
theorem dX2_isComplete_32 : decode cX2_isComplete 32 = .ok (.iconst 1, 1) := by decide +kernel
theorem dX2_isComplete_33 : decode cX2_isComplete 33 = .ok (.goto 4, 3) := by decide +kernel
theorem dX2_isComplete_36 : decode cX2_isComplete 36 = .ok (.iconst 0, 1) := by decide +kernel
theorem dX2_isComplete_37 : decode cX2_isComplete 37 = .ok (.ireturn, 1) := by decide +kernel
theorem dX2_take_0 : decode cX2_take 0 = .ok (.aload_n 0, 1) := by decide +kernel
theorem dX2_take_1 : decode cX2_take 1 = .ok (.getfield 21, 3) := by decide +kernel
theorem dX2_take_4 : decode cX2_take 4 = .ok (.tableswitch 118 0 4 #[36, 45, 65, 90, 112], 36) := by decide +kernel
theorem dX2_take_40 : decode cX2_take 40 = .ok (.aload_n 0, 1) := by decide +kernel
theorem dX2_take_41 : decode cX2_take 41 = .ok (.iload_n 1, 1) := by decide +kernel
theorem dX2_take_42 : decode cX2_take 42 = .ok (.bipush 48, 2) := by decide +kernel
theorem dX2_take_44 : decode cX2_take 44 = .ok (.isub, 1) := by decide +kernel
theorem dX2_take_45 : decode cX2_take 45 = .ok (.invokevirtual 34, 3) := by decide +kernel
theorem dX2_take_48 : decode cX2_take 48 = .ok (.ireturn, 1) := by decide +kernel
theorem dX2_take_49 : decode cX2_take 49 = .ok (.iload_n 1, 1) := by decide +kernel
theorem dX2_take_50 : decode cX2_take 50 = .ok (.bipush 58, 2) := by decide +kernel
theorem dX2_take_52 : decode cX2_take 52 = .ok (.if_icmp .ne 15, 3) := by decide +kernel
theorem dX2_take_55 : decode cX2_take 55 = .ok (.aload_n 0, 1) := by decide +kernel
theorem dX2_take_56 : decode cX2_take 56 = .ok (.iconst 2, 1) := by decide +kernel
theorem dX2_take_57 : decode cX2_take 57 = .ok (.invokevirtual 38, 3) := by decide +kernel
theorem dX2_take_60 : decode cX2_take 60 = .ok (.ifCond .eq 7, 3) := by decide +kernel
theorem dX2_take_63 : decode cX2_take 63 = .ok (.iconst 1, 1) := by decide +kernel
theorem dX2_take_64 : decode cX2_take 64 = .ok (.goto 4, 3) := by decide +kernel
theorem dX2_take_67 : decode cX2_take 67 = .ok (.iconst 0, 1) := by decide +kernel
theorem dX2_take_68 : decode cX2_take 68 = .ok (.ireturn, 1) := by decide +kernel
theorem dX2_take_69 : decode cX2_take 69 = .ok (.aload_n 0, 1) := by decide +kernel
theorem dX2_take_70 : decode cX2_take 70 = .ok (.iload_n 1, 1) := by decide +kernel
theorem dX2_take_71 : decode cX2_take 71 = .ok (.invokevirtual 41, 3) := by decide +kernel
theorem dX2_take_74 : decode cX2_take 74 = .ok (.ifCond .ne 14, 3) := by decide +kernel
theorem dX2_take_77 : decode cX2_take 77 = .ok (.aload_n 0, 1) := by decide +kernel
theorem dX2_take_78 : decode cX2_take 78 = .ok (.iload_n 1, 1) := by decide +kernel
theorem dX2_take_79 : decode cX2_take 79 = .ok (.bipush 48, 2) := by decide +kernel
theorem dX2_take_81 : decode cX2_take 81 = .ok (.isub, 1) := by decide +kernel
theorem dX2_take_82 : decode cX2_take 82 = .ok (.invokevirtual 44, 3) := by decide +kernel
theorem dX2_take_85 : decode cX2_take 85 = .ok (.ifCond .eq 7, 3) := by decide +kernel
theorem dX2_take_88 : decode cX2_take 88 = .ok (.iconst 1, 1) := by decide +kernel
theorem dX2_take_89 : decode cX2_take 89 = .ok (.goto 4, 3) := by decide +kernel
theorem dX2_take_92 : decode cX2_take 92 = .ok (.iconst 0, 1) := by decide +kernel
theorem dX2_take_93 : decode cX2_take 93 = .ok (.ireturn, 1) := by decide +kernel
theorem dX2_take_94 : decode cX2_take 94 = .ok (.aload_n 0, 1) := by decide +kernel
theorem dX2_take_95 : decode cX2_take 95 = .ok (.iload_n 1, 1) := by decide +kernel
theorem dX2_take_96 : decode cX2_take 96 = .ok (.invokevirtual 47, 3) := by decide +kernel
theorem dX2_take_99 : decode cX2_take 99 = .ok (.ifCond .ne 11, 3) := by decide +kernel
theorem dX2_take_102 : decode cX2_take 102 = .ok (.aload_n 0, 1) := by decide +kernel
theorem dX2_take_103 : decode cX2_take 103 = .ok (.iload_n 1, 1) := by decide +kernel
theorem dX2_take_104 : decode cX2_take 104 = .ok (.invokevirtual 50, 3) := by decide +kernel
theorem dX2_take_107 : decode cX2_take 107 = .ok (.ifCond .eq 7, 3) := by decide +kernel
theorem dX2_take_110 : decode cX2_take 110 = .ok (.iconst 1, 1) := by decide +kernel
theorem dX2_take_111 : decode cX2_take 111 = .ok (.goto 4, 3) := by decide +kernel
theorem dX2_take_114 : decode cX2_take 114 = .ok (.iconst 0, 1) := by decide +kernel
theorem dX2_take_115 : decode cX2_take 115 = .ok (.ireturn, 1) := by decide +kernel
theorem dX2_take_116 : decode cX2_take 116 = .ok (.aload_n 0, 1) := by decide +kernel
theorem dX2_take_117 : decode cX2_take 117 = .ok (.iload_n 1, 1) := by decide +kernel
theorem dX2_take_118 : decode cX2_take 118 = .ok (.invokevirtual 50, 3) := by decide +kernel
theorem dX2_take_121 : decode cX2_take 121 = .ok (.ireturn, 1) := by decide +kernel
theorem dX2_take_122 : decode cX2_take 122 = .ok (.aload_n 0, 1) := by decide +kernel
theorem dX2_take_123 : decode cX2_take 123 = .ok (.iload_n 1, 1) := by decide +kernel
theorem dX2_take_124 : decode cX2_take 124 = .ok (.bipush 48, 2) := by decide +kernel
theorem dX2_take_126 : decode cX2_take 126 = .ok (.isub, 1) := by decide +kernel
theorem dX2_take_127 : decode cX2_take 127 = .ok (.invokevirtual 53, 3) := by decide +kernel
theorem dX2_take_130 : decode cX2_take 130 = .ok (.ireturn, 1) := by decide +kernel
theorem dX2_moveTo_0 : decode cX2_moveTo 0 = .ok (.aload_n 0, 1) := by decide +kernel
theorem dX2_moveTo_1 : decode cX2_moveTo 1 = .ok (.iload_n 1, 1) := by decide +kernel
theorem dX2_moveTo_2 : decode cX2_moveTo 2 = .ok (.putfield 21, 3) := by decide +kernel
theorem dX2_moveTo_5 : decode cX2_moveTo 5 = .ok (.iconst 1, 1) := by decide +kernel
theorem dX2_moveTo_6 : decode cX2_moveTo 6 = .ok (.ireturn, 1) := by decide +kernel
theorem dX2_takeCount_0 : decode cX2_takeCount 0 = .ok (.iload_n 1, 1) := by decide +kernel
theorem dX2_takeCount_1 : decode cX2_takeCount 1 = .ok (.iconst 1, 1) := by decide +kernel
theorem dX2_takeCount_2 : decode cX2_takeCount 2 = .ok (.if_icmp .lt 9, 3) := by decide +kernel
theorem dX2_takeCount_5 : decode cX2_takeCount 5 = .ok (.iload_n 1, 1) := by decide +kernel
theorem dX2_takeCount_6 : decode cX2_takeCount 6 = .ok (.bipush 9, 2) := by decide +kernel
theorem dX2_takeCount_8 : decode cX2_takeCount 8 = .ok (.if_icmp .le 5, 3) := by decide +kernel
theorem dX2_takeCount_11 : decode cX2_takeCount 11 = .ok (.iconst 0, 1) := by decide +kernel
theorem dX2_takeCount_12 : decode cX2_takeCount 12 = .ok (.ireturn, 1) := by decide +kernel
theorem dX2_takeCount_13 : decode cX2_takeCount 13 = .ok (.aload_n 0, 1) := by decide +kernel
theorem dX2_takeCount_14 : decode cX2_takeCount 14 = .ok (.getfield 12, 3) := by decide +kernel
theorem dX2_takeCount_17 : decode cX2_takeCount 17 = .ok (.iload_n 1, 1) := by decide +kernel
theorem dX2_takeCount_18 : decode cX2_takeCount 18 = .ok (.putfield 31, 3) := by decide +kernel
theorem dX2_takeCount_21 : decode cX2_takeCount 21 = .ok (.aload_n 0, 1) := by decide +kernel
theorem dX2_takeCount_22 : decode cX2_takeCount 22 = .ok (.iconst 1, 1) := by decide +kernel
theorem dX2_takeCount_23 : decode cX2_takeCount 23 = .ok (.invokevirtual 38, 3) := by decide +kernel
theorem dX2_takeCount_26 : decode cX2_takeCount 26 = .ok (.ireturn, 1) := by decide +kernel
theorem dX2_takeBound_0 : decode cX2_takeBound 0 = .ok (.iload_n 1, 1) := by decide +kernel
theorem dX2_takeBound_1 : decode cX2_takeBound 1 = .ok (.ifCond .lt 20, 3) := by decide +kernel
theorem dX2_takeBound_4 : decode cX2_takeBound 4 = .ok (.iload_n 1, 1) := by decide +kernel
theorem dX2_takeBound_5 : decode cX2_takeBound 5 = .ok (.bipush 9, 2) := by decide +kernel
theorem dX2_takeBound_7 : decode cX2_takeBound 7 = .ok (.if_icmp .gt 14, 3) := by decide +kernel
theorem dX2_takeBound_10 : decode cX2_takeBound 10 = .ok (.aload_n 0, 1) := by decide +kernel
theorem dX2_takeBound_11 : decode cX2_takeBound 11 = .ok (.getfield 12, 3) := by decide +kernel
theorem dX2_takeBound_14 : decode cX2_takeBound 14 = .ok (.getfield 56, 3) := by decide +kernel
theorem dX2_takeBound_17 : decode cX2_takeBound 17 = .ok (.iconst 5, 1) := by decide +kernel
theorem dX2_takeBound_18 : decode cX2_takeBound 18 = .ok (.if_icmp .lt 5, 3) := by decide +kernel
theorem dX2_takeBound_21 : decode cX2_takeBound 21 = .ok (.iconst 0, 1) := by decide +kernel
theorem dX2_takeBound_22 : decode cX2_takeBound 22 = .ok (.ireturn, 1) := by decide +kernel
theorem dX2_takeBound_23 : decode cX2_takeBound 23 = .ok (.aload_n 0, 1) := by decide +kernel
theorem dX2_takeBound_24 : decode cX2_takeBound 24 = .ok (.getfield 12, 3) := by decide +kernel
theorem dX2_takeBound_27 : decode cX2_takeBound 27 = .ok (.getfield 59, 3) := by decide +kernel
theorem dX2_takeBound_30 : decode cX2_takeBound 30 = .ok (.aload_n 0, 1) := by decide +kernel
theorem dX2_takeBound_31 : decode cX2_takeBound 31 = .ok (.getfield 12, 3) := by decide +kernel
theorem dX2_takeBound_34 : decode cX2_takeBound 34 = .ok (.getfield 56, 3) := by decide +kernel
theorem dX2_takeBound_37 : decode cX2_takeBound 37 = .ok (.iload_n 1, 1) := by decide +kernel
theorem dX2_takeBound_38 : decode cX2_takeBound 38 = .ok (.iastore, 1) := by decide +kernel
theorem dX2_takeBound_39 : decode cX2_takeBound 39 = .ok (.aload_n 0, 1) := by decide +kernel
theorem dX2_takeBound_40 : decode cX2_takeBound 40 = .ok (.getfield 12, 3) := by decide +kernel
theorem dX2_takeBound_43 : decode cX2_takeBound 43 = .ok (.dup, 1) := by decide +kernel
theorem dX2_takeBound_44 : decode cX2_takeBound 44 = .ok (.getfield 56, 3) := by decide +kernel
theorem dX2_takeBound_47 : decode cX2_takeBound 47 = .ok (.iconst 1, 1) := by decide +kernel
theorem dX2_takeBound_48 : decode cX2_takeBound 48 = .ok (.iadd, 1) := by decide +kernel
theorem dX2_takeBound_49 : decode cX2_takeBound 49 = .ok (.putfield 56, 3) := by decide +kernel
theorem dX2_takeBound_52 : decode cX2_takeBound 52 = .ok (.iconst 1, 1) := by decide +kernel
theorem dX2_takeBound_53 : decode cX2_takeBound 53 = .ok (.ireturn, 1) := by decide +kernel
theorem dX2_takeBoundsEnd_0 : decode cX2_takeBoundsEnd 0 = .ok (.iload_n 1, 1) := by decide +kernel
theorem dX2_takeBoundsEnd_1 : decode cX2_takeBoundsEnd 1 = .ok (.bipush 58, 2) := by decide +kernel
theorem dX2_takeBoundsEnd_3 : decode cX2_takeBoundsEnd 3 = .ok (.if_icmp .ne 25, 3) := by decide +kernel
theorem dX2_takeBoundsEnd_6 : decode cX2_takeBoundsEnd 6 = .ok (.aload_n 0, 1) := by decide +kernel
theorem dX2_takeBoundsEnd_7 : decode cX2_takeBoundsEnd 7 = .ok (.getfield 12, 3) := by decide +kernel
theorem dX2_takeBoundsEnd_10 : decode cX2_takeBoundsEnd 10 = .ok (.getfield 56, 3) := by decide +kernel
theorem dX2_takeBoundsEnd_13 : decode cX2_takeBoundsEnd 13 = .ok (.ifCond .le 15, 3) := by decide +kernel
theorem dX2_takeBoundsEnd_16 : decode cX2_takeBoundsEnd 16 = .ok (.aload_n 0, 1) := by decide +kernel
theorem dX2_takeBoundsEnd_17 : decode cX2_takeBoundsEnd 17 = .ok (.iconst 3, 1) := by decide +kernel
theorem dX2_takeBoundsEnd_18 : decode cX2_takeBoundsEnd 18 = .ok (.invokevirtual 38, 3) := by decide +kernel
theorem dX2_takeBoundsEnd_21 : decode cX2_takeBoundsEnd 21 = .ok (.ifCond .eq 7, 3) := by decide +kernel
theorem dX2_takeBoundsEnd_24 : decode cX2_takeBoundsEnd 24 = .ok (.iconst 1, 1) := by decide +kernel
theorem dX2_takeBoundsEnd_25 : decode cX2_takeBoundsEnd 25 = .ok (.goto 4, 3) := by decide +kernel
theorem dX2_takeBoundsEnd_28 : decode cX2_takeBoundsEnd 28 = .ok (.iconst 0, 1) := by decide +kernel
theorem dX2_takeBoundsEnd_29 : decode cX2_takeBoundsEnd 29 = .ok (.ireturn, 1) := by decide +kernel
theorem dX2_takeKind_0 : decode cX2_takeKind 0 = .ok (.iload_n 1, 1) := by decide +kernel
theorem dX2_takeKind_1 : decode cX2_takeKind 1 = .ok (.bipush 42, 2) := by decide +kernel
theorem dX2_takeKind_3 : decode cX2_takeKind 3 = .ok (.if_icmp .ne 22, 3) := by decide +kernel
theorem dX2_takeKind_6 : decode cX2_takeKind 6 = .ok (.aload_n 0, 1) := by decide +kernel
theorem dX2_takeKind_7 : decode cX2_takeKind 7 = .ok (.getfield 12, 3) := by decide +kernel
theorem dX2_takeKind_10 : decode cX2_takeKind 10 = .ok (.iconst 1, 1) := by decide +kernel
theorem dX2_takeKind_11 : decode cX2_takeKind 11 = .ok (.invokevirtual 63, 3) := by decide +kernel
theorem dX2_takeKind_14 : decode cX2_takeKind 14 = .ok (.invokestatic 67, 3) := by decide +kernel
theorem dX2_takeKind_17 : decode cX2_takeKind 17 = .ok (.iconst 5, 1) := by decide +kernel
theorem dX2_takeKind_18 : decode cX2_takeKind 18 = .ok (.if_icmp .ge 7, 3) := by decide +kernel
theorem dX2_takeKind_21 : decode cX2_takeKind 21 = .ok (.iconst 1, 1) := by decide +kernel
theorem dX2_takeKind_22 : decode cX2_takeKind 22 = .ok (.goto 4, 3) := by decide +kernel
theorem dX2_takeKind_25 : decode cX2_takeKind 25 = .ok (.iconst 0, 1) := by decide +kernel
theorem dX2_takeKind_26 : decode cX2_takeKind 26 = .ok (.istore_n 2, 1) := by decide +kernel
theorem dX2_takeKind_27 : decode cX2_takeKind 27 = .ok (.iload_n 2, 1) := by decide +kernel
theorem dX2_takeKind_28 : decode cX2_takeKind 28 = .ok (.ifCond .ne 11, 3) := by decide +kernel
theorem dX2_takeKind_31 : decode cX2_takeKind 31 = .ok (.iload_n 1, 1) := by decide +kernel
theorem dX2_takeKind_32 : decode cX2_takeKind 32 = .ok (.bipush 33, 2) := by decide +kernel
theorem dX2_takeKind_34 : decode cX2_takeKind 34 = .ok (.if_icmp .eq 5, 3) := by decide +kernel
theorem dX2_takeKind_37 : decode cX2_takeKind 37 = .ok (.iconst 0, 1) := by decide +kernel
theorem dX2_takeKind_38 : decode cX2_takeKind 38 = .ok (.ireturn, 1) := by decide +kernel
theorem dX2_takeKind_39 : decode cX2_takeKind 39 = .ok (.aload_n 0, 1) := by decide +kernel
theorem dX2_takeKind_40 : decode cX2_takeKind 40 = .ok (.getfield 12, 3) := by decide +kernel
theorem dX2_takeKind_43 : decode cX2_takeKind 43 = .ok (.getfield 72, 3) := by decide +kernel
theorem dX2_takeKind_46 : decode cX2_takeKind 46 = .ok (.aload_n 0, 1) := by decide +kernel
theorem dX2_takeKind_47 : decode cX2_takeKind 47 = .ok (.getfield 25, 3) := by decide +kernel
theorem dX2_takeKind_50 : decode cX2_takeKind 50 = .ok (.iload_n 2, 1) := by decide +kernel
theorem dX2_takeKind_51 : decode cX2_takeKind 51 = .ok (.ifCond .eq 7, 3) := by decide +kernel
theorem dX2_takeKind_54 : decode cX2_takeKind 54 = .ok (.iconst 1, 1) := by decide +kernel
theorem dX2_takeKind_55 : decode cX2_takeKind 55 = .ok (.goto 4, 3) := by decide +kernel
theorem dX2_takeKind_58 : decode cX2_takeKind 58 = .ok (.iconst 2, 1) := by decide +kernel
theorem dX2_takeKind_59 : decode cX2_takeKind 59 = .ok (.iastore, 1) := by decide +kernel
theorem dX2_takeKind_60 : decode cX2_takeKind 60 = .ok (.aload_n 0, 1) := by decide +kernel
theorem dX2_takeKind_61 : decode cX2_takeKind 61 = .ok (.iconst 4, 1) := by decide +kernel
theorem dX2_takeKind_62 : decode cX2_takeKind 62 = .ok (.invokevirtual 38, 3) := by decide +kernel
theorem dX2_takeKind_65 : decode cX2_takeKind 65 = .ok (.ireturn, 1) := by decide +kernel
theorem dX2_takeInPerson_0 : decode cX2_takeInPerson 0 = .ok (.iload_n 1, 1) := by decide +kernel
theorem dX2_takeInPerson_1 : decode cX2_takeInPerson 1 = .ok (.bipush 62, 2) := by decide +kernel
theorem dX2_takeInPerson_3 : decode cX2_takeInPerson 3 = .ok (.if_icmp .ne 24, 3) := by decide +kernel
theorem dX2_takeInPerson_6 : decode cX2_takeInPerson 6 = .ok (.aload_n 0, 1) := by decide +kernel
theorem dX2_takeInPerson_7 : decode cX2_takeInPerson 7 = .ok (.invokevirtual 75, 3) := by decide +kernel
theorem dX2_takeInPerson_10 : decode cX2_takeInPerson 10 = .ok (.ifCond .eq 15, 3) := by decide +kernel
theorem dX2_takeInPerson_13 : decode cX2_takeInPerson 13 = .ok (.aload_n 0, 1) := by decide +kernel
theorem dX2_takeInPerson_14 : decode cX2_takeInPerson 14 = .ok (.iconst 5, 1) := by decide +kernel
theorem dX2_takeInPerson_15 : decode cX2_takeInPerson 15 = .ok (.invokevirtual 38, 3) := by decide +kernel
theorem dX2_takeInPerson_18 : decode cX2_takeInPerson 18 = .ok (.ifCond .eq 7, 3) := by decide +kernel
theorem dX2_takeInPerson_21 : decode cX2_takeInPerson 21 = .ok (.iconst 1, 1) := by decide +kernel
theorem dX2_takeInPerson_22 : decode cX2_takeInPerson 22 = .ok (.goto 4, 3) := by decide +kernel
theorem dX2_takeInPerson_25 : decode cX2_takeInPerson 25 = .ok (.iconst 0, 1) := by decide +kernel
theorem dX2_takeInPerson_26 : decode cX2_takeInPerson 26 = .ok (.ireturn, 1) := by decide +kernel
theorem dX2_takeInPerson_27 : decode cX2_takeInPerson 27 = .ok (.iload_n 1, 1) := by decide +kernel
theorem dX2_takeInPerson_28 : decode cX2_takeInPerson 28 = .ok (.bipush 59, 2) := by decide +kernel
theorem dX2_takeInPerson_30 : decode cX2_takeInPerson 30 = .ok (.if_icmp .ne 19, 3) := by decide +kernel
theorem dX2_takeInPerson_33 : decode cX2_takeInPerson 33 = .ok (.aload_n 0, 1) := by decide +kernel
theorem dX2_takeInPerson_34 : decode cX2_takeInPerson 34 = .ok (.getfield 25, 3) := by decide +kernel
theorem dX2_takeInPerson_37 : decode cX2_takeInPerson 37 = .ok (.iconst 1, 1) := by decide +kernel
theorem dX2_takeInPerson_38 : decode cX2_takeInPerson 38 = .ok (.iadd, 1) := by decide +kernel
theorem dX2_takeInPerson_39 : decode cX2_takeInPerson 39 = .ok (.aload_n 0, 1) := by decide +kernel
theorem dX2_takeInPerson_40 : decode cX2_takeInPerson 40 = .ok (.getfield 12, 3) := by decide +kernel
theorem dX2_takeInPerson_43 : decode cX2_takeInPerson 43 = .ok (.getfield 31, 3) := by decide +kernel
theorem dX2_takeInPerson_46 : decode cX2_takeInPerson 46 = .ok (.if_icmp .lt 5, 3) := by decide +kernel
theorem dX2_takeInPerson_49 : decode cX2_takeInPerson 49 = .ok (.iconst 0, 1) := by decide +kernel
theorem dX2_takeInPerson_50 : decode cX2_takeInPerson 50 = .ok (.ireturn, 1) := by decide +kernel
theorem dX2_takeInPerson_51 : decode cX2_takeInPerson 51 = .ok (.aload_n 0, 1) := by decide +kernel
theorem dX2_takeInPerson_52 : decode cX2_takeInPerson 52 = .ok (.dup, 1) := by decide +kernel
theorem dX2_takeInPerson_53 : decode cX2_takeInPerson 53 = .ok (.getfield 25, 3) := by decide +kernel
theorem dX2_takeInPerson_56 : decode cX2_takeInPerson 56 = .ok (.iconst 1, 1) := by decide +kernel
theorem dX2_takeInPerson_57 : decode cX2_takeInPerson 57 = .ok (.iadd, 1) := by decide +kernel
theorem dX2_takeInPerson_58 : decode cX2_takeInPerson 58 = .ok (.putfield 25, 3) := by decide +kernel
theorem dX2_takeInPerson_61 : decode cX2_takeInPerson 61 = .ok (.aload_n 0, 1) := by decide +kernel
theorem dX2_takeInPerson_62 : decode cX2_takeInPerson 62 = .ok (.iconst (-1), 1) := by decide +kernel
theorem dX2_takeInPerson_63 : decode cX2_takeInPerson 63 = .ok (.putfield 28, 3) := by decide +kernel
theorem dX2_takeInPerson_66 : decode cX2_takeInPerson 66 = .ok (.aload_n 0, 1) := by decide +kernel
theorem dX2_takeInPerson_67 : decode cX2_takeInPerson 67 = .ok (.iconst 3, 1) := by decide +kernel
theorem dX2_takeInPerson_68 : decode cX2_takeInPerson 68 = .ok (.invokevirtual 38, 3) := by decide +kernel
theorem dX2_takeInPerson_71 : decode cX2_takeInPerson 71 = .ok (.ireturn, 1) := by decide +kernel
theorem dX2_canVouchOn_0 : decode cX2_canVouchOn 0 = .ok (.aload_n 0, 1) := by decide +kernel
theorem dX2_canVouchOn_1 : decode cX2_canVouchOn 1 = .ok (.getfield 28, 3) := by decide +kernel
theorem dX2_canVouchOn_4 : decode cX2_canVouchOn 4 = .ok (.iconst 1, 1) := by decide +kernel
theorem dX2_canVouchOn_5 : decode cX2_canVouchOn 5 = .ok (.iadd, 1) := by decide +kernel
theorem dX2_canVouchOn_6 : decode cX2_canVouchOn 6 = .ok (.aload_n 0, 1) := by decide +kernel
theorem dX2_canVouchOn_7 : decode cX2_canVouchOn 7 = .ok (.getfield 25, 3) := by decide +kernel
theorem dX2_canVouchOn_10 : decode cX2_canVouchOn 10 = .ok (.if_icmp .ne 12, 3) := by decide +kernel
theorem dX2_canVouchOn_13 : decode cX2_canVouchOn 13 = .ok (.aload_n 0, 1) := by decide +kernel
theorem dX2_canVouchOn_14 : decode cX2_canVouchOn 14 = .ok (.getfield 28, 3) := by decide +kernel
theorem dX2_canVouchOn_17 : decode cX2_canVouchOn 17 = .ok (.iconst 2, 1) := by decide +kernel
theorem dX2_canVouchOn_18 : decode cX2_canVouchOn 18 = .ok (.iadd, 1) := by decide +kernel
theorem dX2_canVouchOn_19 : decode cX2_canVouchOn 19 = .ok (.goto 9, 3) := by decide +kernel
theorem dX2_canVouchOn_22 : decode cX2_canVouchOn 22 = .ok (.aload_n 0, 1) := by decide +kernel
theorem dX2_canVouchOn_23 : decode cX2_canVouchOn 23 = .ok (.getfield 28, 3) := by decide +kernel
theorem dX2_canVouchOn_26 : decode cX2_canVouchOn 26 = .ok (.iconst 1, 1) := by decide +kernel
theorem dX2_canVouchOn_27 : decode cX2_canVouchOn 27 = .ok (.iadd, 1) := by decide +kernel
theorem dX2_canVouchOn_28 : decode cX2_canVouchOn 28 = .ok (.istore_n 1, 1) := by decide +kernel
theorem dX2_canVouchOn_29 : decode cX2_canVouchOn 29 = .ok (.iload_n 1, 1) := by decide +kernel
theorem dX2_canVouchOn_30 : decode cX2_canVouchOn 30 = .ok (.aload_n 0, 1) := by decide +kernel
theorem dX2_canVouchOn_31 : decode cX2_canVouchOn 31 = .ok (.getfield 12, 3) := by decide +kernel
theorem dX2_canVouchOn_34 : decode cX2_canVouchOn 34 = .ok (.getfield 31, 3) := by decide +kernel
theorem dX2_canVouchOn_37 : decode cX2_canVouchOn 37 = .ok (.if_icmp .ge 26, 3) := by decide +kernel
theorem dX2_canVouchOn_40 : decode cX2_canVouchOn 40 = .ok (.aload_n 0, 1) := by decide +kernel
theorem dX2_canVouchOn_41 : decode cX2_canVouchOn 41 = .ok (.getfield 12, 3) := by decide +kernel
theorem dX2_canVouchOn_44 : decode cX2_canVouchOn 44 = .ok (.getfield 79, 3) := by decide +kernel
theorem dX2_canVouchOn_47 : decode cX2_canVouchOn 47 = .ok (.aload_n 0, 1) := by decide +kernel
theorem dX2_canVouchOn_48 : decode cX2_canVouchOn 48 = .ok (.getfield 25, 3) := by decide +kernel
theorem dX2_canVouchOn_51 : decode cX2_canVouchOn 51 = .ok (.iaload, 1) := by decide +kernel
theorem dX2_canVouchOn_52 : decode cX2_canVouchOn 52 = .ok (.invokestatic 67, 3) := by decide +kernel
theorem dX2_canVouchOn_55 : decode cX2_canVouchOn 55 = .ok (.iconst 5, 1) := by decide +kernel
theorem dX2_canVouchOn_56 : decode cX2_canVouchOn 56 = .ok (.if_icmp .ge 7, 3) := by decide +kernel
theorem dX2_canVouchOn_59 : decode cX2_canVouchOn 59 = .ok (.iconst 1, 1) := by decide +kernel
theorem dX2_canVouchOn_60 : decode cX2_canVouchOn 60 = .ok (.goto 4, 3) := by decide +kernel
theorem dX2_canVouchOn_63 : decode cX2_canVouchOn 63 = .ok (.iconst 0, 1) := by decide +kernel
theorem dX2_canVouchOn_64 : decode cX2_canVouchOn 64 = .ok (.ireturn, 1) := by decide +kernel
theorem dX2_takeWhom_0 : decode cX2_takeWhom 0 = .ok (.iload_n 1, 1) := by decide +kernel
theorem dX2_takeWhom_1 : decode cX2_takeWhom 1 = .ok (.aload_n 0, 1) := by decide +kernel
theorem dX2_takeWhom_2 : decode cX2_takeWhom 2 = .ok (.getfield 28, 3) := by decide +kernel
theorem dX2_takeWhom_5 : decode cX2_takeWhom 5 = .ok (.if_icmp .le 22, 3) := by decide +kernel
theorem dX2_takeWhom_8 : decode cX2_takeWhom 8 = .ok (.iload_n 1, 1) := by decide +kernel
theorem dX2_takeWhom_9 : decode cX2_takeWhom 9 = .ok (.aload_n 0, 1) := by decide +kernel
theorem dX2_takeWhom_10 : decode cX2_takeWhom 10 = .ok (.getfield 12, 3) := by decide +kernel
theorem dX2_takeWhom_13 : decode cX2_takeWhom 13 = .ok (.getfield 31, 3) := by decide +kernel
theorem dX2_takeWhom_16 : decode cX2_takeWhom 16 = .ok (.if_icmp .ge 11, 3) := by decide +kernel
theorem dX2_takeWhom_19 : decode cX2_takeWhom 19 = .ok (.iload_n 1, 1) := by decide +kernel
theorem dX2_takeWhom_20 : decode cX2_takeWhom 20 = .ok (.aload_n 0, 1) := by decide +kernel
theorem dX2_takeWhom_21 : decode cX2_takeWhom 21 = .ok (.getfield 25, 3) := by decide +kernel
theorem dX2_takeWhom_24 : decode cX2_takeWhom 24 = .ok (.if_icmp .ne 5, 3) := by decide +kernel
theorem dX2_takeWhom_27 : decode cX2_takeWhom 27 = .ok (.iconst 0, 1) := by decide +kernel
theorem dX2_takeWhom_28 : decode cX2_takeWhom 28 = .ok (.ireturn, 1) := by decide +kernel
theorem dX2_takeWhom_29 : decode cX2_takeWhom 29 = .ok (.aload_n 0, 1) := by decide +kernel
theorem dX2_takeWhom_30 : decode cX2_takeWhom 30 = .ok (.getfield 12, 3) := by decide +kernel
theorem dX2_takeWhom_33 : decode cX2_takeWhom 33 = .ok (.getfield 79, 3) := by decide +kernel
theorem dX2_takeWhom_36 : decode cX2_takeWhom 36 = .ok (.aload_n 0, 1) := by decide +kernel
theorem dX2_takeWhom_37 : decode cX2_takeWhom 37 = .ok (.getfield 25, 3) := by decide +kernel
theorem dX2_takeWhom_40 : decode cX2_takeWhom 40 = .ok (.dup2, 1) := by decide +kernel
theorem dX2_takeWhom_41 : decode cX2_takeWhom 41 = .ok (.iaload, 1) := by decide +kernel
theorem dX2_takeWhom_42 : decode cX2_takeWhom 42 = .ok (.iconst 1, 1) := by decide +kernel
theorem dX2_takeWhom_43 : decode cX2_takeWhom 43 = .ok (.iload_n 1, 1) := by decide +kernel
theorem dX2_takeWhom_44 : decode cX2_takeWhom 44 = .ok (.ishl, 1) := by decide +kernel
theorem dX2_takeWhom_45 : decode cX2_takeWhom 45 = .ok (.ior, 1) := by decide +kernel
theorem dX2_takeWhom_46 : decode cX2_takeWhom 46 = .ok (.iastore, 1) := by decide +kernel
theorem dX2_takeWhom_47 : decode cX2_takeWhom 47 = .ok (.aload_n 0, 1) := by decide +kernel
theorem dX2_takeWhom_48 : decode cX2_takeWhom 48 = .ok (.iload_n 1, 1) := by decide +kernel
theorem dX2_takeWhom_49 : decode cX2_takeWhom 49 = .ok (.putfield 28, 3) := by decide +kernel
theorem dX2_takeWhom_52 : decode cX2_takeWhom 52 = .ok (.aload_n 0, 1) := by decide +kernel
theorem dX2_takeWhom_53 : decode cX2_takeWhom 53 = .ok (.iconst 4, 1) := by decide +kernel
theorem dX2_takeWhom_54 : decode cX2_takeWhom 54 = .ok (.invokevirtual 38, 3) := by decide +kernel
theorem dX2_takeWhom_57 : decode cX2_takeWhom 57 = .ok (.ireturn, 1) := by decide +kernel
theorem dX3_init_0 : decode cX3_init 0 = .ok (.aload_n 0, 1) := by decide +kernel
theorem dX3_init_1 : decode cX3_init 1 = .ok (.invokespecial 3, 3) := by decide +kernel
theorem dX3_init_4 : decode cX3_init 4 = .ok (.aload_n 0, 1) := by decide +kernel
theorem dX3_init_5 : decode cX3_init 5 = .ok (.bipush 9, 2) := by decide +kernel
theorem dX3_init_7 : decode cX3_init 7 = .ok (.newarray .long, 2) := by decide +kernel
theorem dX3_init_9 : decode cX3_init 9 = .ok (.putfield 9, 3) := by decide +kernel
theorem dX3_init_12 : decode cX3_init 12 = .ok (.aload_n 0, 1) := by decide +kernel
theorem dX3_init_13 : decode cX3_init 13 = .ok (.bipush 9, 2) := by decide +kernel
theorem dX3_init_15 : decode cX3_init 15 = .ok (.newarray .long, 2) := by decide +kernel
theorem dX3_init_17 : decode cX3_init 17 = .ok (.putfield 15, 3) := by decide +kernel
theorem dX3_init_20 : decode cX3_init 20 = .ok (.return_, 1) := by decide +kernel
theorem dX3_go_0 : decode cX3_go 0 = .ok (.aload_n 1, 1) := by decide +kernel
theorem dX3_go_1 : decode cX3_go 1 = .ok (.iconst 1, 1) := by decide +kernel
theorem dX3_go_2 : decode cX3_go 2 = .ok (.invokevirtual 18, 3) := by decide +kernel
theorem dX3_go_5 : decode cX3_go 5 = .ok (.istore_n 3, 1) := by decide +kernel
theorem dX3_go_6 : decode cX3_go 6 = .ok (.aload_n 0, 1) := by decide +kernel
theorem dX3_go_7 : decode cX3_go 7 = .ok (.aload_n 1, 1) := by decide +kernel
theorem dX3_go_8 : decode cX3_go 8 = .ok (.getfield 24, 3) := by decide +kernel
theorem dX3_go_11 : decode cX3_go 11 = .ok (.putfield 28, 3) := by decide +kernel
theorem dX3_go_14 : decode cX3_go 14 = .ok (.aload_n 0, 1) := by decide +kernel
theorem dX3_go_15 : decode cX3_go 15 = .ok (.ldc2_w 29, 3) := by decide +kernel
theorem dX3_go_18 : decode cX3_go 18 = .ok (.putfield 31, 3) := by decide +kernel
theorem dX3_go_21 : decode cX3_go 21 = .ok (.aload_n 0, 1) := by decide +kernel
theorem dX3_go_22 : decode cX3_go 22 = .ok (.getfield 15, 3) := by decide +kernel
theorem dX3_go_25 : decode cX3_go 25 = .ok (.lconst 0, 1) := by decide +kernel
theorem dX3_go_26 : decode cX3_go 26 = .ok (.invokestatic 35, 3) := by decide +kernel
theorem dX3_go_29 : decode cX3_go 29 = .ok (.aload_n 0, 1) := by decide +kernel
theorem dX3_go_30 : decode cX3_go 30 = .ok (.ldc2_w 29, 3) := by decide +kernel
theorem dX3_go_33 : decode cX3_go 33 = .ok (.iload_n 3, 1) := by decide +kernel
theorem dX3_go_34 : decode cX3_go 34 = .ok (.invokevirtual 41, 3) := by decide +kernel
theorem dX3_go_37 : decode cX3_go 37 = .ok (.aload_n 0, 1) := by decide +kernel
theorem dX3_go_38 : decode cX3_go 38 = .ok (.getfield 15, 3) := by decide +kernel
theorem dX3_go_41 : decode cX3_go 41 = .ok (.iconst 0, 1) := by decide +kernel
theorem dX3_go_42 : decode cX3_go 42 = .ok (.aload_n 0, 1) := by decide +kernel
theorem dX3_go_43 : decode cX3_go 43 = .ok (.getfield 9, 3) := by decide +kernel
theorem dX3_go_46 : decode cX3_go 46 = .ok (.iconst 0, 1) := by decide +kernel
theorem dX3_go_47 : decode cX3_go 47 = .ok (.bipush 9, 2) := by decide +kernel
theorem dX3_go_49 : decode cX3_go 49 = .ok (.invokestatic 45, 3) := by decide +kernel
theorem dX3_go_52 : decode cX3_go 52 = .ok (.iconst 0, 1) := by decide +kernel
theorem dX3_go_53 : decode cX3_go 53 = .ok (.istore 4, 2) := by decide +kernel
theorem dX3_go_55 : decode cX3_go 55 = .ok (.iload 4, 2) := by decide +kernel
theorem dX3_go_57 : decode cX3_go 57 = .ok (.iload_n 2, 1) := by decide +kernel
theorem dX3_go_58 : decode cX3_go 58 = .ok (.if_icmp .ge 15, 3) := by decide +kernel
theorem dX3_go_61 : decode cX3_go 61 = .ok (.aload_n 0, 1) := by decide +kernel
theorem dX3_go_62 : decode cX3_go 62 = .ok (.aload_n 1, 1) := by decide +kernel
theorem dX3_go_63 : decode cX3_go 63 = .ok (.iload_n 3, 1) := by decide +kernel
theorem dX3_go_64 : decode cX3_go 64 = .ok (.invokevirtual 51, 3) := by decide +kernel
theorem dX3_go_67 : decode cX3_go 67 = .ok (.iinc 4 1, 3) := by decide +kernel
theorem dX3_go_70 : decode cX3_go 70 = .ok (.goto (-15), 3) := by decide +kernel
theorem dX3_go_73 : decode cX3_go 73 = .ok (.return_, 1) := by decide +kernel
theorem dX3_step_0 : decode cX3_step 0 = .ok (.aload_n 0, 1) := by decide +kernel
theorem dX3_step_1 : decode cX3_step 1 = .ok (.getfield 15, 3) := by decide +kernel
theorem dX3_step_4 : decode cX3_step 4 = .ok (.lconst 0, 1) := by decide +kernel
theorem dX3_step_5 : decode cX3_step 5 = .ok (.invokestatic 35, 3) := by decide +kernel
theorem dX3_step_8 : decode cX3_step 8 = .ok (.iconst 0, 1) := by decide +kernel
theorem dX3_step_9 : decode cX3_step 9 = .ok (.istore_n 3, 1) := by decide +kernel
theorem dX3_step_10 : decode cX3_step 10 = .ok (.iload_n 3, 1) := by decide +kernel
theorem dX3_step_11 : decode cX3_step 11 = .ok (.aload_n 0, 1) := by decide +kernel
theorem dX3_step_12 : decode cX3_step 12 = .ok (.getfield 28, 3) := by decide +kernel
theorem dX3_step_15 : decode cX3_step 15 = .ok (.if_icmp .ge 42, 3) := by decide +kernel
theorem dX3_step_18 : decode cX3_step 18 = .ok (.aload_n 0, 1) := by decide +kernel
theorem dX3_step_19 : decode cX3_step 19 = .ok (.ldc2_w 29, 3) := by decide +kernel
theorem dX3_step_22 : decode cX3_step 22 = .ok (.aload_n 0, 1) := by decide +kernel
theorem dX3_step_23 : decode cX3_step 23 = .ok (.getfield 9, 3) := by decide +kernel
theorem dX3_step_26 : decode cX3_step 26 = .ok (.iload_n 3, 1) := by decide +kernel
theorem dX3_step_27 : decode cX3_step 27 = .ok (.laload, 1) := by decide +kernel
theorem dX3_step_28 : decode cX3_step 28 = .ok (.lmul, 1) := by decide +kernel
theorem dX3_step_29 : decode cX3_step 29 = .ok (.aload_n 1, 1) := by decide +kernel
theorem dX3_step_30 : decode cX3_step 30 = .ok (.getfield 55, 3) := by decide +kernel
theorem dX3_step_33 : decode cX3_step 33 = .ok (.iload_n 3, 1) := by decide +kernel
theorem dX3_step_34 : decode cX3_step 34 = .ok (.iaload, 1) := by decide +kernel
theorem dX3_step_35 : decode cX3_step 35 = .ok (.ifCond .ne 7, 3) := by decide +kernel
theorem dX3_step_38 : decode cX3_step 38 = .ok (.iload_n 2, 1) := by decide +kernel
theorem dX3_step_39 : decode cX3_step 39 = .ok (.goto 9, 3) := by decide +kernel
theorem dX3_step_42 : decode cX3_step 42 = .ok (.aload_n 1, 1) := by decide +kernel
theorem dX3_step_43 : decode cX3_step 43 = .ok (.getfield 55, 3) := by decide +kernel
theorem dX3_step_46 : decode cX3_step 46 = .ok (.iload_n 3, 1) := by decide +kernel
theorem dX3_step_47 : decode cX3_step 47 = .ok (.iaload, 1) := by decide +kernel
theorem dX3_step_48 : decode cX3_step 48 = .ok (.invokevirtual 41, 3) := by decide +kernel
theorem dX3_step_51 : decode cX3_step 51 = .ok (.iinc 3 1, 3) := by decide +kernel
theorem dX3_step_54 : decode cX3_step 54 = .ok (.goto (-44), 3) := by decide +kernel
theorem dX3_step_57 : decode cX3_step 57 = .ok (.aload_n 0, 1) := by decide +kernel
theorem dX3_step_58 : decode cX3_step 58 = .ok (.getfield 15, 3) := by decide +kernel
theorem dX3_step_61 : decode cX3_step 61 = .ok (.iconst 0, 1) := by decide +kernel
theorem dX3_step_62 : decode cX3_step 62 = .ok (.aload_n 0, 1) := by decide +kernel
theorem dX3_step_63 : decode cX3_step 63 = .ok (.getfield 9, 3) := by decide +kernel
theorem dX3_step_66 : decode cX3_step 66 = .ok (.iconst 0, 1) := by decide +kernel
theorem dX3_step_67 : decode cX3_step 67 = .ok (.bipush 9, 2) := by decide +kernel
theorem dX3_step_69 : decode cX3_step 69 = .ok (.invokestatic 45, 3) := by decide +kernel
theorem dX3_step_72 : decode cX3_step 72 = .ok (.aload_n 0, 1) := by decide +kernel
theorem dX3_step_73 : decode cX3_step 73 = .ok (.dup, 1) := by decide +kernel
theorem dX3_step_74 : decode cX3_step 74 = .ok (.getfield 31, 3) := by decide +kernel
theorem dX3_step_77 : decode cX3_step 77 = .ok (.ldc2_w 29, 3) := by decide +kernel
theorem dX3_step_80 : decode cX3_step 80 = .ok (.lmul, 1) := by decide +kernel
theorem dX3_step_81 : decode cX3_step 81 = .ok (.putfield 31, 3) := by decide +kernel
theorem dX3_step_84 : decode cX3_step 84 = .ok (.return_, 1) := by decide +kernel
theorem dX3_share_0 : decode cX3_share 0 = .ok (.iload_n 3, 1) := by decide +kernel
theorem dX3_share_1 : decode cX3_share 1 = .ok (.invokestatic 59, 3) := by decide +kernel
theorem dX3_share_4 : decode cX3_share 4 = .ok (.istore 4, 2) := by decide +kernel
theorem dX3_share_6 : decode cX3_share 6 = .ok (.lload_n 1, 1) := by decide +kernel
theorem dX3_share_7 : decode cX3_share 7 = .ok (.lconst 0, 1) := by decide +kernel
theorem dX3_share_8 : decode cX3_share 8 = .ok (.lcmp, 1) := by decide +kernel
theorem dX3_share_9 : decode cX3_share 9 = .ok (.ifCond .eq 8, 3) := by decide +kernel
theorem dX3_share_12 : decode cX3_share 12 = .ok (.iload 4, 2) := by decide +kernel
theorem dX3_share_14 : decode cX3_share 14 = .ok (.ifCond .ne 4, 3) := by decide +kernel
theorem dX3_share_17 : decode cX3_share 17 = .ok (.return_, 1) := by decide +kernel
theorem dX3_share_18 : decode cX3_share 18 = .ok (.lload_n 1, 1) := by decide +kernel
theorem dX3_share_19 : decode cX3_share 19 = .ok (.iload 4, 2) := by decide +kernel
theorem dX3_share_21 : decode cX3_share 21 = .ok (.i2l, 1) := by decide +kernel
theorem dX3_share_22 : decode cX3_share 22 = .ok (.ldiv, 1) := by decide +kernel
theorem dX3_share_23 : decode cX3_share 23 = .ok (.lstore 5, 2) := by decide +kernel
theorem dX3_share_25 : decode cX3_share 25 = .ok (.iconst 0, 1) := by decide +kernel
theorem dX3_share_26 : decode cX3_share 26 = .ok (.istore 7, 2) := by decide +kernel
theorem dX3_share_28 : decode cX3_share 28 = .ok (.iload 7, 2) := by decide +kernel
theorem dX3_share_30 : decode cX3_share 30 = .ok (.aload_n 0, 1) := by decide +kernel
theorem dX3_share_31 : decode cX3_share 31 = .ok (.getfield 28, 3) := by decide +kernel
theorem dX3_share_34 : decode cX3_share 34 = .ok (.if_icmp .ge 31, 3) := by decide +kernel
theorem dX3_share_37 : decode cX3_share 37 = .ok (.iload_n 3, 1) := by decide +kernel
theorem dX3_share_38 : decode cX3_share 38 = .ok (.iload 7, 2) := by decide +kernel
theorem dX3_share_40 : decode cX3_share 40 = .ok (.invokestatic 64, 3) := by decide +kernel
theorem dX3_share_43 : decode cX3_share 43 = .ok (.iconst 1, 1) := by decide +kernel
theorem dX3_share_44 : decode cX3_share 44 = .ok (.if_icmp .ne 15, 3) := by decide +kernel
theorem dX3_share_47 : decode cX3_share 47 = .ok (.aload_n 0, 1) := by decide +kernel
theorem dX3_share_48 : decode cX3_share 48 = .ok (.getfield 15, 3) := by decide +kernel
theorem dX3_share_51 : decode cX3_share 51 = .ok (.iload 7, 2) := by decide +kernel
theorem dX3_share_53 : decode cX3_share 53 = .ok (.dup2, 1) := by decide +kernel
theorem dX3_share_54 : decode cX3_share 54 = .ok (.laload, 1) := by decide +kernel
theorem dX3_share_55 : decode cX3_share 55 = .ok (.lload 5, 2) := by decide +kernel
theorem dX3_share_57 : decode cX3_share 57 = .ok (.ladd, 1) := by decide +kernel
theorem dX3_share_58 : decode cX3_share 58 = .ok (.lastore, 1) := by decide +kernel
theorem dX3_share_59 : decode cX3_share 59 = .ok (.iinc 7 1, 3) := by decide +kernel
theorem dX3_share_62 : decode cX3_share 62 = .ok (.goto (-34), 3) := by decide +kernel
theorem dX3_share_65 : decode cX3_share 65 = .ok (.return_, 1) := by decide +kernel
theorem dX3_numerator_0 : decode cX3_numerator 0 = .ok (.aload_n 0, 1) := by decide +kernel
theorem dX3_numerator_1 : decode cX3_numerator 1 = .ok (.getfield 9, 3) := by decide +kernel
theorem dX3_numerator_4 : decode cX3_numerator 4 = .ok (.iload_n 1, 1) := by decide +kernel
theorem dX3_numerator_5 : decode cX3_numerator 5 = .ok (.laload, 1) := by decide +kernel
theorem dX3_numerator_6 : decode cX3_numerator 6 = .ok (.aload_n 0, 1) := by decide +kernel
theorem dX3_numerator_7 : decode cX3_numerator 7 = .ok (.iload_n 1, 1) := by decide +kernel
theorem dX3_numerator_8 : decode cX3_numerator 8 = .ok (.invokevirtual 68, 3) := by decide +kernel
theorem dX3_numerator_11 : decode cX3_numerator 11 = .ok (.ldiv, 1) := by decide +kernel
theorem dX3_numerator_12 : decode cX3_numerator 12 = .ok (.l2i, 1) := by decide +kernel
theorem dX3_numerator_13 : decode cX3_numerator 13 = .ok (.ireturn, 1) := by decide +kernel
theorem dX3_denominator_0 : decode cX3_denominator 0 = .ok (.aload_n 0, 1) := by decide +kernel
theorem dX3_denominator_1 : decode cX3_denominator 1 = .ok (.getfield 31, 3) := by decide +kernel
theorem dX3_denominator_4 : decode cX3_denominator 4 = .ok (.aload_n 0, 1) := by decide +kernel
theorem dX3_denominator_5 : decode cX3_denominator 5 = .ok (.iload_n 1, 1) := by decide +kernel
theorem dX3_denominator_6 : decode cX3_denominator 6 = .ok (.invokevirtual 68, 3) := by decide +kernel
theorem dX3_denominator_9 : decode cX3_denominator 9 = .ok (.ldiv, 1) := by decide +kernel
theorem dX3_denominator_10 : decode cX3_denominator 10 = .ok (.l2i, 1) := by decide +kernel
theorem dX3_denominator_11 : decode cX3_denominator 11 = .ok (.ireturn, 1) := by decide +kernel
theorem dX3_thousandPart_0 : decode cX3_thousandPart 0 = .ok (.aload_n 0, 1) := by decide +kernel
theorem dX3_thousandPart_1 : decode cX3_thousandPart 1 = .ok (.getfield 31, 3) := by decide +kernel
theorem dX3_thousandPart_4 : decode cX3_thousandPart 4 = .ok (.lconst 0, 1) := by decide +kernel
theorem dX3_thousandPart_5 : decode cX3_thousandPart 5 = .ok (.lcmp, 1) := by decide +kernel
theorem dX3_thousandPart_6 : decode cX3_thousandPart 6 = .ok (.ifCond .ne 7, 3) := by decide +kernel
theorem dX3_thousandPart_9 : decode cX3_thousandPart 9 = .ok (.iconst 0, 1) := by decide +kernel
theorem dX3_thousandPart_10 : decode cX3_thousandPart 10 = .ok (.goto 19, 3) := by decide +kernel
theorem dX3_thousandPart_13 : decode cX3_thousandPart 13 = .ok (.ldc2_w 72, 3) := by decide +kernel
theorem dX3_thousandPart_16 : decode cX3_thousandPart 16 = .ok (.aload_n 0, 1) := by decide +kernel
theorem dX3_thousandPart_17 : decode cX3_thousandPart 17 = .ok (.getfield 9, 3) := by decide +kernel
theorem dX3_thousandPart_20 : decode cX3_thousandPart 20 = .ok (.iload_n 1, 1) := by decide +kernel
theorem dX3_thousandPart_21 : decode cX3_thousandPart 21 = .ok (.laload, 1) := by decide +kernel
theorem dX3_thousandPart_22 : decode cX3_thousandPart 22 = .ok (.lmul, 1) := by decide +kernel
theorem dX3_thousandPart_23 : decode cX3_thousandPart 23 = .ok (.aload_n 0, 1) := by decide +kernel
theorem dX3_thousandPart_24 : decode cX3_thousandPart 24 = .ok (.getfield 31, 3) := by decide +kernel
theorem dX3_thousandPart_27 : decode cX3_thousandPart 27 = .ok (.ldiv, 1) := by decide +kernel
theorem dX3_thousandPart_28 : decode cX3_thousandPart 28 = .ok (.l2i, 1) := by decide +kernel
theorem dX3_thousandPart_29 : decode cX3_thousandPart 29 = .ok (.ireturn, 1) := by decide +kernel
theorem dX3_personAt_0 : decode cX3_personAt 0 = .ok (.iconst 0, 1) := by decide +kernel
theorem dX3_personAt_1 : decode cX3_personAt 1 = .ok (.istore_n 2, 1) := by decide +kernel
theorem dX3_personAt_2 : decode cX3_personAt 2 = .ok (.iload_n 2, 1) := by decide +kernel
theorem dX3_personAt_3 : decode cX3_personAt 3 = .ok (.aload_n 0, 1) := by decide +kernel
theorem dX3_personAt_4 : decode cX3_personAt 4 = .ok (.getfield 28, 3) := by decide +kernel
theorem dX3_personAt_7 : decode cX3_personAt 7 = .ok (.if_icmp .ge 20, 3) := by decide +kernel
theorem dX3_personAt_10 : decode cX3_personAt 10 = .ok (.aload_n 0, 1) := by decide +kernel
theorem dX3_personAt_11 : decode cX3_personAt 11 = .ok (.iload_n 2, 1) := by decide +kernel
theorem dX3_personAt_12 : decode cX3_personAt 12 = .ok (.invokevirtual 74, 3) := by decide +kernel
theorem dX3_personAt_15 : decode cX3_personAt 15 = .ok (.iload_n 1, 1) := by decide +kernel
theorem dX3_personAt_16 : decode cX3_personAt 16 = .ok (.if_icmp .ne 5, 3) := by decide +kernel
theorem dX3_personAt_19 : decode cX3_personAt 19 = .ok (.iload_n 2, 1) := by decide +kernel
theorem dX3_personAt_20 : decode cX3_personAt 20 = .ok (.ireturn, 1) := by decide +kernel
theorem dX3_personAt_21 : decode cX3_personAt 21 = .ok (.iinc 2 1, 3) := by decide +kernel
theorem dX3_personAt_24 : decode cX3_personAt 24 = .ok (.goto (-22), 3) := by decide +kernel
theorem dX3_personAt_27 : decode cX3_personAt 27 = .ok (.bipush (-101), 2) := by decide +kernel
theorem dX3_personAt_29 : decode cX3_personAt 29 = .ok (.ireturn, 1) := by decide +kernel
theorem dX3_comingBefore_0 : decode cX3_comingBefore 0 = .ok (.iconst 0, 1) := by decide +kernel
theorem dX3_comingBefore_1 : decode cX3_comingBefore 1 = .ok (.istore_n 2, 1) := by decide +kernel
theorem dX3_comingBefore_2 : decode cX3_comingBefore 2 = .ok (.iconst 0, 1) := by decide +kernel
theorem dX3_comingBefore_3 : decode cX3_comingBefore 3 = .ok (.istore_n 3, 1) := by decide +kernel
theorem dX3_comingBefore_4 : decode cX3_comingBefore 4 = .ok (.iload_n 3, 1) := by decide +kernel
theorem dX3_comingBefore_5 : decode cX3_comingBefore 5 = .ok (.aload_n 0, 1) := by decide +kernel
theorem dX3_comingBefore_6 : decode cX3_comingBefore 6 = .ok (.getfield 28, 3) := by decide +kernel
theorem dX3_comingBefore_9 : decode cX3_comingBefore 9 = .ok (.if_icmp .ge 49, 3) := by decide +kernel
theorem dX3_comingBefore_12 : decode cX3_comingBefore 12 = .ok (.aload_n 0, 1) := by decide +kernel
theorem dX3_comingBefore_13 : decode cX3_comingBefore 13 = .ok (.getfield 9, 3) := by decide +kernel
theorem dX3_comingBefore_16 : decode cX3_comingBefore 16 = .ok (.iload_n 3, 1) := by decide +kernel
theorem dX3_comingBefore_17 : decode cX3_comingBefore 17 = .ok (.laload, 1) := by decide +kernel
theorem dX3_comingBefore_18 : decode cX3_comingBefore 18 = .ok (.aload_n 0, 1) := by decide +kernel
theorem dX3_comingBefore_19 : decode cX3_comingBefore 19 = .ok (.getfield 9, 3) := by decide +kernel
theorem dX3_comingBefore_22 : decode cX3_comingBefore 22 = .ok (.iload_n 1, 1) := by decide +kernel
theorem dX3_comingBefore_23 : decode cX3_comingBefore 23 = .ok (.laload, 1) := by decide +kernel
theorem dX3_comingBefore_24 : decode cX3_comingBefore 24 = .ok (.lcmp, 1) := by decide +kernel
theorem dX3_comingBefore_25 : decode cX3_comingBefore 25 = .ok (.ifCond .gt 24, 3) := by decide +kernel
theorem dX3_comingBefore_28 : decode cX3_comingBefore 28 = .ok (.aload_n 0, 1) := by decide +kernel
theorem dX3_comingBefore_29 : decode cX3_comingBefore 29 = .ok (.getfield 9, 3) := by decide +kernel
theorem dX3_comingBefore_32 : decode cX3_comingBefore 32 = .ok (.iload_n 3, 1) := by decide +kernel
theorem dX3_comingBefore_33 : decode cX3_comingBefore 33 = .ok (.laload, 1) := by decide +kernel
theorem dX3_comingBefore_34 : decode cX3_comingBefore 34 = .ok (.aload_n 0, 1) := by decide +kernel
theorem dX3_comingBefore_35 : decode cX3_comingBefore 35 = .ok (.getfield 9, 3) := by decide +kernel
theorem dX3_comingBefore_38 : decode cX3_comingBefore 38 = .ok (.iload_n 1, 1) := by decide +kernel
theorem dX3_comingBefore_39 : decode cX3_comingBefore 39 = .ok (.laload, 1) := by decide +kernel
theorem dX3_comingBefore_40 : decode cX3_comingBefore 40 = .ok (.lcmp, 1) := by decide +kernel
theorem dX3_comingBefore_41 : decode cX3_comingBefore 41 = .ok (.ifCond .ne 11, 3) := by decide +kernel
theorem dX3_comingBefore_44 : decode cX3_comingBefore 44 = .ok (.iload_n 3, 1) := by decide +kernel
theorem dX3_comingBefore_45 : decode cX3_comingBefore 45 = .ok (.iload_n 1, 1) := by decide +kernel
theorem dX3_comingBefore_46 : decode cX3_comingBefore 46 = .ok (.if_icmp .ge 6, 3) := by decide +kernel
theorem dX3_comingBefore_49 : decode cX3_comingBefore 49 = .ok (.iinc 2 1, 3) := by decide +kernel
theorem dX3_comingBefore_52 : decode cX3_comingBefore 52 = .ok (.iinc 3 1, 3) := by decide +kernel
theorem dX3_comingBefore_55 : decode cX3_comingBefore 55 = .ok (.goto (-51), 3) := by decide +kernel
theorem dX3_comingBefore_58 : decode cX3_comingBefore 58 = .ok (.iload_n 2, 1) := by decide +kernel
theorem dX3_comingBefore_59 : decode cX3_comingBefore 59 = .ok (.ireturn, 1) := by decide +kernel
theorem dX3_commonDivisor_0 : decode cX3_commonDivisor 0 = .ok (.aload_n 0, 1) := by decide +kernel
theorem dX3_commonDivisor_1 : decode cX3_commonDivisor 1 = .ok (.getfield 31, 3) := by decide +kernel
theorem dX3_commonDivisor_4 : decode cX3_commonDivisor 4 = .ok (.lstore_n 2, 1) := by decide +kernel
theorem dX3_commonDivisor_5 : decode cX3_commonDivisor 5 = .ok (.aload_n 0, 1) := by decide +kernel
theorem dX3_commonDivisor_6 : decode cX3_commonDivisor 6 = .ok (.getfield 9, 3) := by decide +kernel
theorem dX3_commonDivisor_9 : decode cX3_commonDivisor 9 = .ok (.iload_n 1, 1) := by decide +kernel
theorem dX3_commonDivisor_10 : decode cX3_commonDivisor 10 = .ok (.laload, 1) := by decide +kernel
theorem dX3_commonDivisor_11 : decode cX3_commonDivisor 11 = .ok (.lstore 4, 2) := by decide +kernel
theorem dX3_commonDivisor_13 : decode cX3_commonDivisor 13 = .ok (.iconst 0, 1) := by decide +kernel
theorem dX3_commonDivisor_14 : decode cX3_commonDivisor 14 = .ok (.istore 6, 2) := by decide +kernel
theorem dX3_commonDivisor_16 : decode cX3_commonDivisor 16 = .ok (.iload 6, 2) := by decide +kernel
theorem dX3_commonDivisor_18 : decode cX3_commonDivisor 18 = .ok (.bipush 100, 2) := by decide +kernel
theorem dX3_commonDivisor_20 : decode cX3_commonDivisor 20 = .ok (.if_icmp .ge 29, 3) := by decide +kernel
theorem dX3_commonDivisor_23 : decode cX3_commonDivisor 23 = .ok (.lload 4, 2) := by decide +kernel
theorem dX3_commonDivisor_25 : decode cX3_commonDivisor 25 = .ok (.lconst 0, 1) := by decide +kernel
theorem dX3_commonDivisor_26 : decode cX3_commonDivisor 26 = .ok (.lcmp, 1) := by decide +kernel
theorem dX3_commonDivisor_27 : decode cX3_commonDivisor 27 = .ok (.ifCond .eq 22, 3) := by decide +kernel
theorem dX3_commonDivisor_30 : decode cX3_commonDivisor 30 = .ok (.lload_n 2, 1) := by decide +kernel
theorem dX3_commonDivisor_31 : decode cX3_commonDivisor 31 = .ok (.lload 4, 2) := by decide +kernel
theorem dX3_commonDivisor_33 : decode cX3_commonDivisor 33 = .ok (.lrem, 1) := by decide +kernel
theorem dX3_commonDivisor_34 : decode cX3_commonDivisor 34 = .ok (.lstore 7, 2) := by decide +kernel
theorem dX3_commonDivisor_36 : decode cX3_commonDivisor 36 = .ok (.lload 4, 2) := by decide +kernel
theorem dX3_commonDivisor_38 : decode cX3_commonDivisor 38 = .ok (.lstore_n 2, 1) := by decide +kernel
theorem dX3_commonDivisor_39 : decode cX3_commonDivisor 39 = .ok (.lload 7, 2) := by decide +kernel
theorem dX3_commonDivisor_41 : decode cX3_commonDivisor 41 = .ok (.lstore 4, 2) := by decide +kernel
theorem dX3_commonDivisor_43 : decode cX3_commonDivisor 43 = .ok (.iinc 6 1, 3) := by decide +kernel
theorem dX3_commonDivisor_46 : decode cX3_commonDivisor 46 = .ok (.goto (-30), 3) := by decide +kernel
theorem dX3_commonDivisor_49 : decode cX3_commonDivisor 49 = .ok (.lload_n 2, 1) := by decide +kernel
theorem dX3_commonDivisor_50 : decode cX3_commonDivisor 50 = .ok (.lconst 1, 1) := by decide +kernel
theorem dX3_commonDivisor_51 : decode cX3_commonDivisor 51 = .ok (.invokestatic 77, 3) := by decide +kernel
theorem dX3_commonDivisor_54 : decode cX3_commonDivisor 54 = .ok (.lreturn, 1) := by decide +kernel
theorem dX4_init_0 : decode cX4_init 0 = .ok (.aload_n 0, 1) := by decide +kernel
theorem dX4_init_1 : decode cX4_init 1 = .ok (.invokespecial 3, 3) := by decide +kernel
theorem dX4_init_4 : decode cX4_init 4 = .ok (.aload_n 0, 1) := by decide +kernel
theorem dX4_init_5 : decode cX4_init 5 = .ok (.bipush 9, 2) := by decide +kernel
theorem dX4_init_7 : decode cX4_init 7 = .ok (.newarray .int, 2) := by decide +kernel
theorem dX4_init_9 : decode cX4_init 9 = .ok (.putfield 9, 3) := by decide +kernel
theorem dX4_init_12 : decode cX4_init 12 = .ok (.aload_n 0, 1) := by decide +kernel
theorem dX4_init_13 : decode cX4_init 13 = .ok (.bipush 9, 2) := by decide +kernel
theorem dX4_init_15 : decode cX4_init 15 = .ok (.newarray .int, 2) := by decide +kernel
theorem dX4_init_17 : decode cX4_init 17 = .ok (.putfield 15, 3) := by decide +kernel
theorem dX4_init_20 : decode cX4_init 20 = .ok (.aload_n 0, 1) := by decide +kernel
theorem dX4_init_21 : decode cX4_init 21 = .ok (.bipush 9, 2) := by decide +kernel
theorem dX4_init_23 : decode cX4_init 23 = .ok (.newarray .int, 2) := by decide +kernel
theorem dX4_init_25 : decode cX4_init 25 = .ok (.putfield 18, 3) := by decide +kernel
theorem dX4_init_28 : decode cX4_init 28 = .ok (.return_, 1) := by decide +kernel
theorem dX4_copy_0 : decode cX4_copy 0 = .ok (.aload_n 0, 1) := by decide +kernel
theorem dX4_copy_1 : decode cX4_copy 1 = .ok (.aload_n 1, 1) := by decide +kernel
theorem dX4_copy_2 : decode cX4_copy 2 = .ok (.getfield 21, 3) := by decide +kernel
theorem dX4_copy_5 : decode cX4_copy 5 = .ok (.putfield 27, 3) := by decide +kernel
theorem dX4_copy_8 : decode cX4_copy 8 = .ok (.aload_n 0, 1) := by decide +kernel
theorem dX4_copy_9 : decode cX4_copy 9 = .ok (.aload_n 1, 1) := by decide +kernel
theorem dX4_copy_10 : decode cX4_copy 10 = .ok (.iconst 1, 1) := by decide +kernel
theorem dX4_copy_11 : decode cX4_copy 11 = .ok (.invokevirtual 28, 3) := by decide +kernel
theorem dX4_copy_14 : decode cX4_copy 14 = .ok (.putfield 32, 3) := by decide +kernel
theorem dX4_copy_17 : decode cX4_copy 17 = .ok (.aload_n 1, 1) := by decide +kernel
theorem dX4_copy_18 : decode cX4_copy 18 = .ok (.getfield 35, 3) := by decide +kernel
theorem dX4_copy_21 : decode cX4_copy 21 = .ok (.iconst 0, 1) := by decide +kernel
theorem dX4_copy_22 : decode cX4_copy 22 = .ok (.aload_n 0, 1) := by decide +kernel
theorem dX4_copy_23 : decode cX4_copy 23 = .ok (.getfield 9, 3) := by decide +kernel
theorem dX4_copy_26 : decode cX4_copy 26 = .ok (.iconst 0, 1) := by decide +kernel
theorem dX4_copy_27 : decode cX4_copy 27 = .ok (.bipush 9, 2) := by decide +kernel
theorem dX4_copy_29 : decode cX4_copy 29 = .ok (.invokestatic 36, 3) := by decide +kernel
theorem dX4_copy_32 : decode cX4_copy 32 = .ok (.return_, 1) := by decide +kernel
theorem dX4_leaveOut_0 : decode cX4_leaveOut 0 = .ok (.aload_n 0, 1) := by decide +kernel
theorem dX4_leaveOut_1 : decode cX4_leaveOut 1 = .ok (.getfield 9, 3) := by decide +kernel
theorem dX4_leaveOut_4 : decode cX4_leaveOut 4 = .ok (.iload_n 1, 1) := by decide +kernel
theorem dX4_leaveOut_5 : decode cX4_leaveOut 5 = .ok (.dup2, 1) := by decide +kernel
theorem dX4_leaveOut_6 : decode cX4_leaveOut 6 = .ok (.iaload, 1) := by decide +kernel
theorem dX4_leaveOut_7 : decode cX4_leaveOut 7 = .ok (.iconst 1, 1) := by decide +kernel
theorem dX4_leaveOut_8 : decode cX4_leaveOut 8 = .ok (.iload_n 2, 1) := by decide +kernel
theorem dX4_leaveOut_9 : decode cX4_leaveOut 9 = .ok (.ishl, 1) := by decide +kernel
theorem dX4_leaveOut_10 : decode cX4_leaveOut 10 = .ok (.iconst (-1), 1) := by decide +kernel
theorem dX4_leaveOut_11 : decode cX4_leaveOut 11 = .ok (.ixor, 1) := by decide +kernel
theorem dX4_leaveOut_12 : decode cX4_leaveOut 12 = .ok (.iand, 1) := by decide +kernel
theorem dX4_leaveOut_13 : decode cX4_leaveOut 13 = .ok (.iastore, 1) := by decide +kernel
theorem dX4_leaveOut_14 : decode cX4_leaveOut 14 = .ok (.return_, 1) := by decide +kernel
theorem dX4_silence_0 : decode cX4_silence 0 = .ok (.iconst 0, 1) := by decide +kernel
theorem dX4_silence_1 : decode cX4_silence 1 = .ok (.istore_n 2, 1) := by decide +kernel
theorem dX4_silence_2 : decode cX4_silence 2 = .ok (.iload_n 2, 1) := by decide +kernel
theorem dX4_silence_3 : decode cX4_silence 3 = .ok (.aload_n 0, 1) := by decide +kernel
theorem dX4_silence_4 : decode cX4_silence 4 = .ok (.getfield 27, 3) := by decide +kernel
theorem dX4_silence_7 : decode cX4_silence 7 = .ok (.if_icmp .ge 25, 3) := by decide +kernel
theorem dX4_silence_10 : decode cX4_silence 10 = .ok (.iload_n 1, 1) := by decide +kernel
theorem dX4_silence_11 : decode cX4_silence 11 = .ok (.iload_n 2, 1) := by decide +kernel
theorem dX4_silence_12 : decode cX4_silence 12 = .ok (.invokestatic 42, 3) := by decide +kernel
theorem dX4_silence_15 : decode cX4_silence 15 = .ok (.iconst 1, 1) := by decide +kernel
theorem dX4_silence_16 : decode cX4_silence 16 = .ok (.if_icmp .ne 10, 3) := by decide +kernel
theorem dX4_silence_19 : decode cX4_silence 19 = .ok (.aload_n 0, 1) := by decide +kernel
theorem dX4_silence_20 : decode cX4_silence 20 = .ok (.getfield 9, 3) := by decide +kernel
theorem dX4_silence_23 : decode cX4_silence 23 = .ok (.iload_n 2, 1) := by decide +kernel
theorem dX4_silence_24 : decode cX4_silence 24 = .ok (.iconst 0, 1) := by decide +kernel
theorem dX4_silence_25 : decode cX4_silence 25 = .ok (.iastore, 1) := by decide +kernel
theorem dX4_silence_26 : decode cX4_silence 26 = .ok (.iinc 2 1, 3) := by decide +kernel
theorem dX4_silence_29 : decode cX4_silence 29 = .ok (.goto (-27), 3) := by decide +kernel
theorem dX4_silence_32 : decode cX4_silence 32 = .ok (.return_, 1) := by decide +kernel
theorem dX4_settle_0 : decode cX4_settle 0 = .ok (.aload_n 0, 1) := by decide +kernel
theorem dX4_settle_1 : decode cX4_settle 1 = .ok (.getfield 15, 3) := by decide +kernel
theorem dX4_settle_4 : decode cX4_settle 4 = .ok (.iconst (-1), 1) := by decide +kernel
theorem dX4_settle_5 : decode cX4_settle 5 = .ok (.invokestatic 46, 3) := by decide +kernel
theorem dX4_settle_8 : decode cX4_settle 8 = .ok (.aload_n 0, 1) := by decide +kernel
theorem dX4_settle_9 : decode cX4_settle 9 = .ok (.getfield 18, 3) := by decide +kernel
theorem dX4_settle_12 : decode cX4_settle 12 = .ok (.iconst 0, 1) := by decide +kernel
theorem dX4_settle_13 : decode cX4_settle 13 = .ok (.invokestatic 46, 3) := by decide +kernel
theorem dX4_settle_16 : decode cX4_settle 16 = .ok (.iconst 0, 1) := by decide +kernel
theorem dX4_settle_17 : decode cX4_settle 17 = .ok (.istore_n 2, 1) := by decide +kernel
theorem dX4_settle_18 : decode cX4_settle 18 = .ok (.aload_n 0, 1) := by decide +kernel
theorem dX4_settle_19 : decode cX4_settle 19 = .ok (.getfield 32, 3) := by decide +kernel
theorem dX4_settle_22 : decode cX4_settle 22 = .ok (.istore_n 3, 1) := by decide +kernel
theorem dX4_settle_23 : decode cX4_settle 23 = .ok (.iconst 0, 1) := by decide +kernel
theorem dX4_settle_24 : decode cX4_settle 24 = .ok (.istore 4, 2) := by decide +kernel
theorem dX4_settle_26 : decode cX4_settle 26 = .ok (.iload 4, 2) := by decide +kernel
theorem dX4_settle_28 : decode cX4_settle 28 = .ok (.aload_n 0, 1) := by decide +kernel
theorem dX4_settle_29 : decode cX4_settle 29 = .ok (.getfield 27, 3) := by decide +kernel
theorem dX4_settle_32 : decode cX4_settle 32 = .ok (.if_icmp .ge 95, 3) := by decide +kernel
theorem dX4_settle_35 : decode cX4_settle 35 = .ok (.iload_n 3, 1) := by decide +kernel
theorem dX4_settle_36 : decode cX4_settle 36 = .ok (.ifCond .eq 91, 3) := by decide +kernel
theorem dX4_settle_39 : decode cX4_settle 39 = .ok (.iload 4, 2) := by decide +kernel
theorem dX4_settle_41 : decode cX4_settle 41 = .ok (.aload_n 1, 1) := by decide +kernel
theorem dX4_settle_42 : decode cX4_settle 42 = .ok (.getfield 52, 3) := by decide +kernel
theorem dX4_settle_45 : decode cX4_settle 45 = .ok (.if_icmp .ge 13, 3) := by decide +kernel
theorem dX4_settle_48 : decode cX4_settle 48 = .ok (.aload_n 1, 1) := by decide +kernel
theorem dX4_settle_49 : decode cX4_settle 49 = .ok (.getfield 55, 3) := by decide +kernel
theorem dX4_settle_52 : decode cX4_settle 52 = .ok (.iload 4, 2) := by decide +kernel
theorem dX4_settle_54 : decode cX4_settle 54 = .ok (.iaload, 1) := by decide +kernel
theorem dX4_settle_55 : decode cX4_settle 55 = .ok (.goto 4, 3) := by decide +kernel
theorem dX4_settle_58 : decode cX4_settle 58 = .ok (.iconst 0, 1) := by decide +kernel
theorem dX4_settle_59 : decode cX4_settle 59 = .ok (.istore 5, 2) := by decide +kernel
theorem dX4_settle_61 : decode cX4_settle 61 = .ok (.iconst 0, 1) := by decide +kernel
theorem dX4_settle_62 : decode cX4_settle 62 = .ok (.istore 6, 2) := by decide +kernel
theorem dX4_settle_64 : decode cX4_settle 64 = .ok (.iload 6, 2) := by decide +kernel
theorem dX4_settle_66 : decode cX4_settle 66 = .ok (.aload_n 0, 1) := by decide +kernel
theorem dX4_settle_67 : decode cX4_settle 67 = .ok (.getfield 27, 3) := by decide +kernel
theorem dX4_settle_70 : decode cX4_settle 70 = .ok (.if_icmp .ge 37, 3) := by decide +kernel
theorem dX4_settle_73 : decode cX4_settle 73 = .ok (.iload_n 3, 1) := by decide +kernel
theorem dX4_settle_74 : decode cX4_settle 74 = .ok (.iload 6, 2) := by decide +kernel
theorem dX4_settle_76 : decode cX4_settle 76 = .ok (.invokestatic 42, 3) := by decide +kernel
theorem dX4_settle_79 : decode cX4_settle 79 = .ok (.iconst 1, 1) := by decide +kernel
theorem dX4_settle_80 : decode cX4_settle 80 = .ok (.if_icmp .ne 21, 3) := by decide +kernel
theorem dX4_settle_83 : decode cX4_settle 83 = .ok (.aload_n 0, 1) := by decide +kernel
theorem dX4_settle_84 : decode cX4_settle 84 = .ok (.getfield 15, 3) := by decide +kernel
theorem dX4_settle_87 : decode cX4_settle 87 = .ok (.iload 6, 2) := by decide +kernel
theorem dX4_settle_89 : decode cX4_settle 89 = .ok (.iload 4, 2) := by decide +kernel
theorem dX4_settle_91 : decode cX4_settle 91 = .ok (.iastore, 1) := by decide +kernel
theorem dX4_settle_92 : decode cX4_settle 92 = .ok (.aload_n 0, 1) := by decide +kernel
theorem dX4_settle_93 : decode cX4_settle 93 = .ok (.getfield 18, 3) := by decide +kernel
theorem dX4_settle_96 : decode cX4_settle 96 = .ok (.iload 6, 2) := by decide +kernel
theorem dX4_settle_98 : decode cX4_settle 98 = .ok (.iload 5, 2) := by decide +kernel
theorem dX4_settle_100 : decode cX4_settle 100 = .ok (.iastore, 1) := by decide +kernel
theorem dX4_settle_101 : decode cX4_settle 101 = .ok (.iinc 6 1, 3) := by decide +kernel
theorem dX4_settle_104 : decode cX4_settle 104 = .ok (.goto (-40), 3) := by decide +kernel
theorem dX4_settle_107 : decode cX4_settle 107 = .ok (.iload_n 2, 1) := by decide +kernel
theorem dX4_settle_108 : decode cX4_settle 108 = .ok (.iload_n 3, 1) := by decide +kernel
theorem dX4_settle_109 : decode cX4_settle 109 = .ok (.ior, 1) := by decide +kernel
theorem dX4_settle_110 : decode cX4_settle 110 = .ok (.istore_n 2, 1) := by decide +kernel
theorem dX4_settle_111 : decode cX4_settle 111 = .ok (.aload_n 0, 1) := by decide +kernel
theorem dX4_settle_112 : decode cX4_settle 112 = .ok (.iload_n 3, 1) := by decide +kernel
theorem dX4_settle_113 : decode cX4_settle 113 = .ok (.invokevirtual 58, 3) := by decide +kernel
theorem dX4_settle_116 : decode cX4_settle 116 = .ok (.iload_n 2, 1) := by decide +kernel
theorem dX4_settle_117 : decode cX4_settle 117 = .ok (.iconst (-1), 1) := by decide +kernel
theorem dX4_settle_118 : decode cX4_settle 118 = .ok (.ixor, 1) := by decide +kernel
theorem dX4_settle_119 : decode cX4_settle 119 = .ok (.iand, 1) := by decide +kernel
theorem dX4_settle_120 : decode cX4_settle 120 = .ok (.istore_n 3, 1) := by decide +kernel
theorem dX4_settle_121 : decode cX4_settle 121 = .ok (.iinc 4 1, 3) := by decide +kernel
theorem dX4_settle_124 : decode cX4_settle 124 = .ok (.goto (-98), 3) := by decide +kernel
theorem dX4_settle_127 : decode cX4_settle 127 = .ok (.return_, 1) := by decide +kernel
theorem dX4_allowOnePathThroughAllBut_0 : decode cX4_allowOnePathThroughAllBut 0 = .ok (.aload_n 0, 1) := by decide +kernel
theorem dX4_allowOnePathThroughAllBut_1 : decode cX4_allowOnePathThroughAllBut 1 = .ok (.getfield 18, 3) := by decide +kernel
theorem dX4_allowOnePathThroughAllBut_4 : decode cX4_allowOnePathThroughAllBut 4 = .ok (.iconst 1, 1) := by decide +kernel
theorem dX4_allowOnePathThroughAllBut_5 : decode cX4_allowOnePathThroughAllBut 5 = .ok (.invokestatic 46, 3) := by decide +kernel
theorem dX4_allowOnePathThroughAllBut_8 : decode cX4_allowOnePathThroughAllBut 8 = .ok (.aload_n 0, 1) := by decide +kernel
theorem dX4_allowOnePathThroughAllBut_9 : decode cX4_allowOnePathThroughAllBut 9 = .ok (.getfield 18, 3) := by decide +kernel
theorem dX4_allowOnePathThroughAllBut_12 : decode cX4_allowOnePathThroughAllBut 12 = .ok (.iload_n 1, 1) := by decide +kernel
theorem dX4_allowOnePathThroughAllBut_13 : decode cX4_allowOnePathThroughAllBut 13 = .ok (.bipush 9, 2) := by decide +kernel
theorem dX4_allowOnePathThroughAllBut_15 : decode cX4_allowOnePathThroughAllBut 15 = .ok (.iastore, 1) := by decide +kernel
theorem dX4_allowOnePathThroughAllBut_16 : decode cX4_allowOnePathThroughAllBut 16 = .ok (.return_, 1) := by decide +kernel
theorem dX4_vouchedBy_0 : decode cX4_vouchedBy 0 = .ok (.iconst 0, 1) := by decide +kernel
theorem dX4_vouchedBy_1 : decode cX4_vouchedBy 1 = .ok (.istore_n 2, 1) := by decide +kernel
theorem dX4_vouchedBy_2 : decode cX4_vouchedBy 2 = .ok (.iconst 0, 1) := by decide +kernel
theorem dX4_vouchedBy_3 : decode cX4_vouchedBy 3 = .ok (.istore_n 3, 1) := by decide +kernel
theorem dX4_vouchedBy_4 : decode cX4_vouchedBy 4 = .ok (.iload_n 3, 1) := by decide +kernel
theorem dX4_vouchedBy_5 : decode cX4_vouchedBy 5 = .ok (.aload_n 0, 1) := by decide +kernel
theorem dX4_vouchedBy_6 : decode cX4_vouchedBy 6 = .ok (.getfield 27, 3) := by decide +kernel
theorem dX4_vouchedBy_9 : decode cX4_vouchedBy 9 = .ok (.if_icmp .ge 27, 3) := by decide +kernel
theorem dX4_vouchedBy_12 : decode cX4_vouchedBy 12 = .ok (.iload_n 1, 1) := by decide +kernel
theorem dX4_vouchedBy_13 : decode cX4_vouchedBy 13 = .ok (.iload_n 3, 1) := by decide +kernel
theorem dX4_vouchedBy_14 : decode cX4_vouchedBy 14 = .ok (.invokestatic 42, 3) := by decide +kernel
theorem dX4_vouchedBy_17 : decode cX4_vouchedBy 17 = .ok (.iconst 1, 1) := by decide +kernel
theorem dX4_vouchedBy_18 : decode cX4_vouchedBy 18 = .ok (.if_icmp .ne 12, 3) := by decide +kernel
theorem dX4_vouchedBy_21 : decode cX4_vouchedBy 21 = .ok (.iload_n 2, 1) := by decide +kernel
theorem dX4_vouchedBy_22 : decode cX4_vouchedBy 22 = .ok (.aload_n 0, 1) := by decide +kernel
theorem dX4_vouchedBy_23 : decode cX4_vouchedBy 23 = .ok (.getfield 9, 3) := by decide +kernel
theorem dX4_vouchedBy_26 : decode cX4_vouchedBy 26 = .ok (.iload_n 3, 1) := by decide +kernel
theorem dX4_vouchedBy_27 : decode cX4_vouchedBy 27 = .ok (.iaload, 1) := by decide +kernel
theorem dX4_vouchedBy_28 : decode cX4_vouchedBy 28 = .ok (.ior, 1) := by decide +kernel
theorem dX4_vouchedBy_29 : decode cX4_vouchedBy 29 = .ok (.istore_n 2, 1) := by decide +kernel
theorem dX4_vouchedBy_30 : decode cX4_vouchedBy 30 = .ok (.iinc 3 1, 3) := by decide +kernel
theorem dX4_vouchedBy_33 : decode cX4_vouchedBy 33 = .ok (.goto (-29), 3) := by decide +kernel
theorem dX4_vouchedBy_36 : decode cX4_vouchedBy 36 = .ok (.iload_n 2, 1) := by decide +kernel
theorem dX4_vouchedBy_37 : decode cX4_vouchedBy 37 = .ok (.ireturn, 1) := by decide +kernel
theorem dX4_reachedWithout_0 : decode cX4_reachedWithout 0 = .ok (.aload_n 0, 1) := by decide +kernel
theorem dX4_reachedWithout_1 : decode cX4_reachedWithout 1 = .ok (.getfield 32, 3) := by decide +kernel
theorem dX4_reachedWithout_4 : decode cX4_reachedWithout 4 = .ok (.iload_n 1, 1) := by decide +kernel
theorem dX4_reachedWithout_5 : decode cX4_reachedWithout 5 = .ok (.iconst (-1), 1) := by decide +kernel
theorem dX4_reachedWithout_6 : decode cX4_reachedWithout 6 = .ok (.ixor, 1) := by decide +kernel
theorem dX4_reachedWithout_7 : decode cX4_reachedWithout 7 = .ok (.iand, 1) := by decide +kernel
theorem dX4_reachedWithout_8 : decode cX4_reachedWithout 8 = .ok (.istore_n 2, 1) := by decide +kernel
theorem dX4_reachedWithout_9 : decode cX4_reachedWithout 9 = .ok (.iload_n 2, 1) := by decide +kernel
theorem dX4_reachedWithout_10 : decode cX4_reachedWithout 10 = .ok (.istore_n 3, 1) := by decide +kernel
theorem dX4_reachedWithout_11 : decode cX4_reachedWithout 11 = .ok (.iconst 0, 1) := by decide +kernel
theorem dX4_reachedWithout_12 : decode cX4_reachedWithout 12 = .ok (.istore 4, 2) := by decide +kernel
theorem dX4_reachedWithout_14 : decode cX4_reachedWithout 14 = .ok (.iload 4, 2) := by decide +kernel
theorem dX4_reachedWithout_16 : decode cX4_reachedWithout 16 = .ok (.aload_n 0, 1) := by decide +kernel
theorem dX4_reachedWithout_17 : decode cX4_reachedWithout 17 = .ok (.getfield 27, 3) := by decide +kernel
theorem dX4_reachedWithout_20 : decode cX4_reachedWithout 20 = .ok (.if_icmp .ge 31, 3) := by decide +kernel
theorem dX4_reachedWithout_23 : decode cX4_reachedWithout 23 = .ok (.iload_n 3, 1) := by decide +kernel
theorem dX4_reachedWithout_24 : decode cX4_reachedWithout 24 = .ok (.ifCond .eq 27, 3) := by decide +kernel
theorem dX4_reachedWithout_27 : decode cX4_reachedWithout 27 = .ok (.aload_n 0, 1) := by decide +kernel
theorem dX4_reachedWithout_28 : decode cX4_reachedWithout 28 = .ok (.iload_n 3, 1) := by decide +kernel
theorem dX4_reachedWithout_29 : decode cX4_reachedWithout 29 = .ok (.invokevirtual 58, 3) := by decide +kernel
theorem dX4_reachedWithout_32 : decode cX4_reachedWithout 32 = .ok (.iload_n 1, 1) := by decide +kernel
theorem dX4_reachedWithout_33 : decode cX4_reachedWithout 33 = .ok (.iconst (-1), 1) := by decide +kernel
theorem dX4_reachedWithout_34 : decode cX4_reachedWithout 34 = .ok (.ixor, 1) := by decide +kernel
theorem dX4_reachedWithout_35 : decode cX4_reachedWithout 35 = .ok (.iand, 1) := by decide +kernel
theorem dX4_reachedWithout_36 : decode cX4_reachedWithout 36 = .ok (.iload_n 2, 1) := by decide +kernel
theorem dX4_reachedWithout_37 : decode cX4_reachedWithout 37 = .ok (.iconst (-1), 1) := by decide +kernel
theorem dX4_reachedWithout_38 : decode cX4_reachedWithout 38 = .ok (.ixor, 1) := by decide +kernel
theorem dX4_reachedWithout_39 : decode cX4_reachedWithout 39 = .ok (.iand, 1) := by decide +kernel
theorem dX4_reachedWithout_40 : decode cX4_reachedWithout 40 = .ok (.istore_n 3, 1) := by decide +kernel
theorem dX4_reachedWithout_41 : decode cX4_reachedWithout 41 = .ok (.iload_n 2, 1) := by decide +kernel
theorem dX4_reachedWithout_42 : decode cX4_reachedWithout 42 = .ok (.iload_n 3, 1) := by decide +kernel
theorem dX4_reachedWithout_43 : decode cX4_reachedWithout 43 = .ok (.ior, 1) := by decide +kernel
theorem dX4_reachedWithout_44 : decode cX4_reachedWithout 44 = .ok (.istore_n 2, 1) := by decide +kernel
theorem dX4_reachedWithout_45 : decode cX4_reachedWithout 45 = .ok (.iinc 4 1, 3) := by decide +kernel
theorem dX4_reachedWithout_48 : decode cX4_reachedWithout 48 = .ok (.goto (-34), 3) := by decide +kernel
theorem dX4_reachedWithout_51 : decode cX4_reachedWithout 51 = .ok (.iload_n 2, 1) := by decide +kernel
theorem dX4_reachedWithout_52 : decode cX4_reachedWithout 52 = .ok (.ireturn, 1) := by decide +kernel
theorem dX4_personsWithLevel_0 : decode cX4_personsWithLevel 0 = .ok (.iconst 0, 1) := by decide +kernel
theorem dX4_personsWithLevel_1 : decode cX4_personsWithLevel 1 = .ok (.istore_n 1, 1) := by decide +kernel
theorem dX4_personsWithLevel_2 : decode cX4_personsWithLevel 2 = .ok (.iconst 0, 1) := by decide +kernel
theorem dX4_personsWithLevel_3 : decode cX4_personsWithLevel 3 = .ok (.istore_n 2, 1) := by decide +kernel
theorem dX4_personsWithLevel_4 : decode cX4_personsWithLevel 4 = .ok (.iload_n 2, 1) := by decide +kernel
theorem dX4_personsWithLevel_5 : decode cX4_personsWithLevel 5 = .ok (.aload_n 0, 1) := by decide +kernel
theorem dX4_personsWithLevel_6 : decode cX4_personsWithLevel 6 = .ok (.getfield 27, 3) := by decide +kernel
theorem dX4_personsWithLevel_9 : decode cX4_personsWithLevel 9 = .ok (.if_icmp .ge 22, 3) := by decide +kernel
theorem dX4_personsWithLevel_12 : decode cX4_personsWithLevel 12 = .ok (.aload_n 0, 1) := by decide +kernel
theorem dX4_personsWithLevel_13 : decode cX4_personsWithLevel 13 = .ok (.getfield 15, 3) := by decide +kernel
theorem dX4_personsWithLevel_16 : decode cX4_personsWithLevel 16 = .ok (.iload_n 2, 1) := by decide +kernel
theorem dX4_personsWithLevel_17 : decode cX4_personsWithLevel 17 = .ok (.iaload, 1) := by decide +kernel
theorem dX4_personsWithLevel_18 : decode cX4_personsWithLevel 18 = .ok (.iconst (-1), 1) := by decide +kernel
theorem dX4_personsWithLevel_19 : decode cX4_personsWithLevel 19 = .ok (.if_icmp .eq 6, 3) := by decide +kernel
theorem dX4_personsWithLevel_22 : decode cX4_personsWithLevel 22 = .ok (.iinc 1 1, 3) := by decide +kernel
theorem dX4_personsWithLevel_25 : decode cX4_personsWithLevel 25 = .ok (.iinc 2 1, 3) := by decide +kernel
theorem dX4_personsWithLevel_28 : decode cX4_personsWithLevel 28 = .ok (.goto (-24), 3) := by decide +kernel
theorem dX4_personsWithLevel_31 : decode cX4_personsWithLevel 31 = .ok (.iload_n 1, 1) := by decide +kernel
theorem dX4_personsWithLevel_32 : decode cX4_personsWithLevel 32 = .ok (.ireturn, 1) := by decide +kernel
theorem dX4_greatestLevel_0 : decode cX4_greatestLevel 0 = .ok (.iconst (-1), 1) := by decide +kernel
theorem dX4_greatestLevel_1 : decode cX4_greatestLevel 1 = .ok (.istore_n 1, 1) := by decide +kernel
theorem dX4_greatestLevel_2 : decode cX4_greatestLevel 2 = .ok (.iconst 0, 1) := by decide +kernel
theorem dX4_greatestLevel_3 : decode cX4_greatestLevel 3 = .ok (.istore_n 2, 1) := by decide +kernel
theorem dX4_greatestLevel_4 : decode cX4_greatestLevel 4 = .ok (.iload_n 2, 1) := by decide +kernel
theorem dX4_greatestLevel_5 : decode cX4_greatestLevel 5 = .ok (.aload_n 0, 1) := by decide +kernel
theorem dX4_greatestLevel_6 : decode cX4_greatestLevel 6 = .ok (.getfield 27, 3) := by decide +kernel
theorem dX4_greatestLevel_9 : decode cX4_greatestLevel 9 = .ok (.if_icmp .ge 20, 3) := by decide +kernel
theorem dX4_greatestLevel_12 : decode cX4_greatestLevel 12 = .ok (.iload_n 1, 1) := by decide +kernel
theorem dX4_greatestLevel_13 : decode cX4_greatestLevel 13 = .ok (.aload_n 0, 1) := by decide +kernel
theorem dX4_greatestLevel_14 : decode cX4_greatestLevel 14 = .ok (.getfield 15, 3) := by decide +kernel
theorem dX4_greatestLevel_17 : decode cX4_greatestLevel 17 = .ok (.iload_n 2, 1) := by decide +kernel
theorem dX4_greatestLevel_18 : decode cX4_greatestLevel 18 = .ok (.iaload, 1) := by decide +kernel
theorem dX4_greatestLevel_19 : decode cX4_greatestLevel 19 = .ok (.invokestatic 61, 3) := by decide +kernel
theorem dX4_greatestLevel_22 : decode cX4_greatestLevel 22 = .ok (.istore_n 1, 1) := by decide +kernel
theorem dX4_greatestLevel_23 : decode cX4_greatestLevel 23 = .ok (.iinc 2 1, 3) := by decide +kernel
theorem dX4_greatestLevel_26 : decode cX4_greatestLevel 26 = .ok (.goto (-22), 3) := by decide +kernel
theorem dX4_greatestLevel_29 : decode cX4_greatestLevel 29 = .ok (.iload_n 1, 1) := by decide +kernel
theorem dX4_greatestLevel_30 : decode cX4_greatestLevel 30 = .ok (.ireturn, 1) := by decide +kernel
theorem dX4_limitsOf_0 : decode cX4_limitsOf 0 = .ok (.iconst 0, 1) := by decide +kernel
theorem dX4_limitsOf_1 : decode cX4_limitsOf 1 = .ok (.istore_n 2, 1) := by decide +kernel
theorem dX4_limitsOf_2 : decode cX4_limitsOf 2 = .ok (.iconst 0, 1) := by decide +kernel
theorem dX4_limitsOf_3 : decode cX4_limitsOf 3 = .ok (.istore_n 3, 1) := by decide +kernel
theorem dX4_limitsOf_4 : decode cX4_limitsOf 4 = .ok (.iload_n 3, 1) := by decide +kernel
theorem dX4_limitsOf_5 : decode cX4_limitsOf 5 = .ok (.aload_n 0, 1) := by decide +kernel
theorem dX4_limitsOf_6 : decode cX4_limitsOf 6 = .ok (.getfield 27, 3) := by decide +kernel
theorem dX4_limitsOf_9 : decode cX4_limitsOf 9 = .ok (.if_icmp .ge 27, 3) := by decide +kernel
theorem dX4_limitsOf_12 : decode cX4_limitsOf 12 = .ok (.iload_n 1, 1) := by decide +kernel
theorem dX4_limitsOf_13 : decode cX4_limitsOf 13 = .ok (.iload_n 3, 1) := by decide +kernel
theorem dX4_limitsOf_14 : decode cX4_limitsOf 14 = .ok (.invokestatic 42, 3) := by decide +kernel
theorem dX4_limitsOf_17 : decode cX4_limitsOf 17 = .ok (.iconst 1, 1) := by decide +kernel
theorem dX4_limitsOf_18 : decode cX4_limitsOf 18 = .ok (.if_icmp .ne 12, 3) := by decide +kernel
theorem dX4_limitsOf_21 : decode cX4_limitsOf 21 = .ok (.iload_n 2, 1) := by decide +kernel
theorem dX4_limitsOf_22 : decode cX4_limitsOf 22 = .ok (.aload_n 0, 1) := by decide +kernel
theorem dX4_limitsOf_23 : decode cX4_limitsOf 23 = .ok (.getfield 18, 3) := by decide +kernel
theorem dX4_limitsOf_26 : decode cX4_limitsOf 26 = .ok (.iload_n 3, 1) := by decide +kernel
theorem dX4_limitsOf_27 : decode cX4_limitsOf 27 = .ok (.iaload, 1) := by decide +kernel
theorem dX4_limitsOf_28 : decode cX4_limitsOf 28 = .ok (.iadd, 1) := by decide +kernel
theorem dX4_limitsOf_29 : decode cX4_limitsOf 29 = .ok (.istore_n 2, 1) := by decide +kernel
theorem dX4_limitsOf_30 : decode cX4_limitsOf 30 = .ok (.iinc 3 1, 3) := by decide +kernel
theorem dX4_limitsOf_33 : decode cX4_limitsOf 33 = .ok (.goto (-29), 3) := by decide +kernel
theorem dX4_limitsOf_36 : decode cX4_limitsOf 36 = .ok (.iload_n 2, 1) := by decide +kernel
theorem dX4_limitsOf_37 : decode cX4_limitsOf 37 = .ok (.ireturn, 1) := by decide +kernel
theorem dX5_init_0 : decode cX5_init 0 = .ok (.aload_n 0, 1) := by decide +kernel
theorem dX5_init_1 : decode cX5_init 1 = .ok (.invokespecial 3, 3) := by decide +kernel
theorem dX5_init_4 : decode cX5_init 4 = .ok (.aload_n 0, 1) := by decide +kernel
theorem dX5_init_5 : decode cX5_init 5 = .ok (.bipush 115, 2) := by decide +kernel
theorem dX5_init_7 : decode cX5_init 7 = .ok (.newarray .int, 2) := by decide +kernel
theorem dX5_init_9 : decode cX5_init 9 = .ok (.putfield 11, 3) := by decide +kernel
theorem dX5_init_12 : decode cX5_init 12 = .ok (.return_, 1) := by decide +kernel
theorem dX5_write_0 : decode cX5_write 0 = .ok (.aload_n 0, 1) := by decide +kernel
theorem dX5_write_1 : decode cX5_write 1 = .ok (.iconst 0, 1) := by decide +kernel
theorem dX5_write_2 : decode cX5_write 2 = .ok (.putfield 15, 3) := by decide +kernel
theorem dX5_write_5 : decode cX5_write 5 = .ok (.aload_n 0, 1) := by decide +kernel
theorem dX5_write_6 : decode cX5_write 6 = .ok (.bipush 48, 2) := by decide +kernel
theorem dX5_write_8 : decode cX5_write 8 = .ok (.aload_n 1, 1) := by decide +kernel
theorem dX5_write_9 : decode cX5_write 9 = .ok (.getfield 19, 3) := by decide +kernel
theorem dX5_write_12 : decode cX5_write 12 = .ok (.iadd, 1) := by decide +kernel
theorem dX5_write_13 : decode cX5_write 13 = .ok (.invokevirtual 24, 3) := by decide +kernel
theorem dX5_write_16 : decode cX5_write 16 = .ok (.aload_n 0, 1) := by decide +kernel
theorem dX5_write_17 : decode cX5_write 17 = .ok (.bipush 58, 2) := by decide +kernel
theorem dX5_write_19 : decode cX5_write 19 = .ok (.invokevirtual 24, 3) := by decide +kernel
theorem dX5_write_22 : decode cX5_write 22 = .ok (.iconst 0, 1) := by decide +kernel
theorem dX5_write_23 : decode cX5_write 23 = .ok (.istore_n 2, 1) := by decide +kernel
theorem dX5_write_24 : decode cX5_write 24 = .ok (.iload_n 2, 1) := by decide +kernel
theorem dX5_write_25 : decode cX5_write 25 = .ok (.aload_n 1, 1) := by decide +kernel
theorem dX5_write_26 : decode cX5_write 26 = .ok (.getfield 28, 3) := by decide +kernel
theorem dX5_write_29 : decode cX5_write 29 = .ok (.if_icmp .ge 22, 3) := by decide +kernel
theorem dX5_write_32 : decode cX5_write 32 = .ok (.aload_n 0, 1) := by decide +kernel
theorem dX5_write_33 : decode cX5_write 33 = .ok (.bipush 48, 2) := by decide +kernel
theorem dX5_write_35 : decode cX5_write 35 = .ok (.aload_n 1, 1) := by decide +kernel
theorem dX5_write_36 : decode cX5_write 36 = .ok (.getfield 31, 3) := by decide +kernel
theorem dX5_write_39 : decode cX5_write 39 = .ok (.iload_n 2, 1) := by decide +kernel
theorem dX5_write_40 : decode cX5_write 40 = .ok (.iaload, 1) := by decide +kernel
theorem dX5_write_41 : decode cX5_write 41 = .ok (.iadd, 1) := by decide +kernel
theorem dX5_write_42 : decode cX5_write 42 = .ok (.invokevirtual 24, 3) := by decide +kernel
theorem dX5_write_45 : decode cX5_write 45 = .ok (.iinc 2 1, 3) := by decide +kernel
theorem dX5_write_48 : decode cX5_write 48 = .ok (.goto (-24), 3) := by decide +kernel
theorem dX5_write_51 : decode cX5_write 51 = .ok (.aload_n 0, 1) := by decide +kernel
theorem dX5_write_52 : decode cX5_write 52 = .ok (.bipush 58, 2) := by decide +kernel
theorem dX5_write_54 : decode cX5_write 54 = .ok (.invokevirtual 24, 3) := by decide +kernel
theorem dX5_write_57 : decode cX5_write 57 = .ok (.iconst 0, 1) := by decide +kernel
theorem dX5_write_58 : decode cX5_write 58 = .ok (.istore_n 2, 1) := by decide +kernel
theorem dX5_write_59 : decode cX5_write 59 = .ok (.iload_n 2, 1) := by decide +kernel
theorem dX5_write_60 : decode cX5_write 60 = .ok (.aload_n 1, 1) := by decide +kernel
theorem dX5_write_61 : decode cX5_write 61 = .ok (.getfield 19, 3) := by decide +kernel
theorem dX5_write_64 : decode cX5_write 64 = .ok (.if_icmp .ge 25, 3) := by decide +kernel
theorem dX5_write_67 : decode cX5_write 67 = .ok (.iload_n 2, 1) := by decide +kernel
theorem dX5_write_68 : decode cX5_write 68 = .ok (.ifCond .le 9, 3) := by decide +kernel
theorem dX5_write_71 : decode cX5_write 71 = .ok (.aload_n 0, 1) := by decide +kernel
theorem dX5_write_72 : decode cX5_write 72 = .ok (.bipush 59, 2) := by decide +kernel
theorem dX5_write_74 : decode cX5_write 74 = .ok (.invokevirtual 24, 3) := by decide +kernel
theorem dX5_write_77 : decode cX5_write 77 = .ok (.aload_n 0, 1) := by decide +kernel
theorem dX5_write_78 : decode cX5_write 78 = .ok (.aload_n 1, 1) := by decide +kernel
theorem dX5_write_79 : decode cX5_write 79 = .ok (.iload_n 2, 1) := by decide +kernel
theorem dX5_write_80 : decode cX5_write 80 = .ok (.invokevirtual 34, 3) := by decide +kernel
theorem dX5_write_83 : decode cX5_write 83 = .ok (.iinc 2 1, 3) := by decide +kernel
theorem dX5_write_86 : decode cX5_write 86 = .ok (.goto (-27), 3) := by decide +kernel
theorem dX5_write_89 : decode cX5_write 89 = .ok (.return_, 1) := by decide +kernel
theorem dX5_writePerson_0 : decode cX5_writePerson 0 = .ok (.aload_n 1, 1) := by decide +kernel
theorem dX5_writePerson_1 : decode cX5_writePerson 1 = .ok (.getfield 38, 3) := by decide +kernel
theorem dX5_writePerson_4 : decode cX5_writePerson 4 = .ok (.iload_n 2, 1) := by decide +kernel
theorem dX5_writePerson_5 : decode cX5_writePerson 5 = .ok (.iaload, 1) := by decide +kernel
theorem dX5_writePerson_6 : decode cX5_writePerson 6 = .ok (.iconst 1, 1) := by decide +kernel
theorem dX5_writePerson_7 : decode cX5_writePerson 7 = .ok (.if_icmp .ne 9, 3) := by decide +kernel
theorem dX5_writePerson_10 : decode cX5_writePerson 10 = .ok (.aload_n 0, 1) := by decide +kernel
theorem dX5_writePerson_11 : decode cX5_writePerson 11 = .ok (.bipush 42, 2) := by decide +kernel
theorem dX5_writePerson_13 : decode cX5_writePerson 13 = .ok (.invokevirtual 24, 3) := by decide +kernel
theorem dX5_writePerson_16 : decode cX5_writePerson 16 = .ok (.aload_n 1, 1) := by decide +kernel
theorem dX5_writePerson_17 : decode cX5_writePerson 17 = .ok (.getfield 38, 3) := by decide +kernel
theorem dX5_writePerson_20 : decode cX5_writePerson 20 = .ok (.iload_n 2, 1) := by decide +kernel
theorem dX5_writePerson_21 : decode cX5_writePerson 21 = .ok (.iaload, 1) := by decide +kernel
theorem dX5_writePerson_22 : decode cX5_writePerson 22 = .ok (.iconst 2, 1) := by decide +kernel
theorem dX5_writePerson_23 : decode cX5_writePerson 23 = .ok (.if_icmp .ne 9, 3) := by decide +kernel
theorem dX5_writePerson_26 : decode cX5_writePerson 26 = .ok (.aload_n 0, 1) := by decide +kernel
theorem dX5_writePerson_27 : decode cX5_writePerson 27 = .ok (.bipush 33, 2) := by decide +kernel
theorem dX5_writePerson_29 : decode cX5_writePerson 29 = .ok (.invokevirtual 24, 3) := by decide +kernel
theorem dX5_writePerson_32 : decode cX5_writePerson 32 = .ok (.iconst 0, 1) := by decide +kernel
theorem dX5_writePerson_33 : decode cX5_writePerson 33 = .ok (.istore_n 3, 1) := by decide +kernel
theorem dX5_writePerson_34 : decode cX5_writePerson 34 = .ok (.iload_n 3, 1) := by decide +kernel
theorem dX5_writePerson_35 : decode cX5_writePerson 35 = .ok (.aload_n 1, 1) := by decide +kernel
theorem dX5_writePerson_36 : decode cX5_writePerson 36 = .ok (.getfield 19, 3) := by decide +kernel
theorem dX5_writePerson_39 : decode cX5_writePerson 39 = .ok (.if_icmp .ge 32, 3) := by decide +kernel
theorem dX5_writePerson_42 : decode cX5_writePerson 42 = .ok (.aload_n 1, 1) := by decide +kernel
theorem dX5_writePerson_43 : decode cX5_writePerson 43 = .ok (.iload_n 2, 1) := by decide +kernel
theorem dX5_writePerson_44 : decode cX5_writePerson 44 = .ok (.iload_n 3, 1) := by decide +kernel
theorem dX5_writePerson_45 : decode cX5_writePerson 45 = .ok (.invokevirtual 41, 3) := by decide +kernel
theorem dX5_writePerson_48 : decode cX5_writePerson 48 = .ok (.ifCond .eq 17, 3) := by decide +kernel
theorem dX5_writePerson_51 : decode cX5_writePerson 51 = .ok (.aload_n 0, 1) := by decide +kernel
theorem dX5_writePerson_52 : decode cX5_writePerson 52 = .ok (.bipush 62, 2) := by decide +kernel
theorem dX5_writePerson_54 : decode cX5_writePerson 54 = .ok (.invokevirtual 24, 3) := by decide +kernel
theorem dX5_writePerson_57 : decode cX5_writePerson 57 = .ok (.aload_n 0, 1) := by decide +kernel
theorem dX5_writePerson_58 : decode cX5_writePerson 58 = .ok (.bipush 48, 2) := by decide +kernel
theorem dX5_writePerson_60 : decode cX5_writePerson 60 = .ok (.iload_n 3, 1) := by decide +kernel
theorem dX5_writePerson_61 : decode cX5_writePerson 61 = .ok (.iadd, 1) := by decide +kernel
theorem dX5_writePerson_62 : decode cX5_writePerson 62 = .ok (.invokevirtual 24, 3) := by decide +kernel
theorem dX5_writePerson_65 : decode cX5_writePerson 65 = .ok (.iinc 3 1, 3) := by decide +kernel
theorem dX5_writePerson_68 : decode cX5_writePerson 68 = .ok (.goto (-34), 3) := by decide +kernel
theorem dX5_writePerson_71 : decode cX5_writePerson 71 = .ok (.return_, 1) := by decide +kernel
theorem dX5_put_0 : decode cX5_put 0 = .ok (.aload_n 0, 1) := by decide +kernel
theorem dX5_put_1 : decode cX5_put 1 = .ok (.getfield 15, 3) := by decide +kernel
theorem dX5_put_4 : decode cX5_put 4 = .ok (.bipush 115, 2) := by decide +kernel
theorem dX5_put_6 : decode cX5_put 6 = .ok (.if_icmp .ge 23, 3) := by decide +kernel
theorem dX5_put_9 : decode cX5_put 9 = .ok (.aload_n 0, 1) := by decide +kernel
theorem dX5_put_10 : decode cX5_put 10 = .ok (.getfield 11, 3) := by decide +kernel
theorem dX5_put_13 : decode cX5_put 13 = .ok (.aload_n 0, 1) := by decide +kernel
theorem dX5_put_14 : decode cX5_put 14 = .ok (.getfield 15, 3) := by decide +kernel
theorem dX5_put_17 : decode cX5_put 17 = .ok (.iload_n 1, 1) := by decide +kernel
theorem dX5_put_18 : decode cX5_put 18 = .ok (.iastore, 1) := by decide +kernel
theorem dX5_put_19 : decode cX5_put 19 = .ok (.aload_n 0, 1) := by decide +kernel
theorem dX5_put_20 : decode cX5_put 20 = .ok (.dup, 1) := by decide +kernel
theorem dX5_put_21 : decode cX5_put 21 = .ok (.getfield 15, 3) := by decide +kernel
theorem dX5_put_24 : decode cX5_put 24 = .ok (.iconst 1, 1) := by decide +kernel
theorem dX5_put_25 : decode cX5_put 25 = .ok (.iadd, 1) := by decide +kernel
theorem dX5_put_26 : decode cX5_put 26 = .ok (.putfield 15, 3) := by decide +kernel
theorem dX5_put_29 : decode cX5_put 29 = .ok (.return_, 1) := by decide +kernel
theorem dJ6_bitCount_0f7a4_0 : decode cJ6_bitCount_0f7a4 0 = .ok (.iload_n 0, 1) := by decide +kernel
theorem dJ6_bitCount_0f7a4_1 : decode cJ6_bitCount_0f7a4 1 = .ok (.iload_n 0, 1) := by decide +kernel
theorem dJ6_bitCount_0f7a4_2 : decode cJ6_bitCount_0f7a4 2 = .ok (.iconst 1, 1) := by decide +kernel
theorem dJ6_bitCount_0f7a4_3 : decode cJ6_bitCount_0f7a4 3 = .ok (.iushr, 1) := by decide +kernel
theorem dJ6_bitCount_0f7a4_4 : decode cJ6_bitCount_0f7a4 4 = .ok (.ldc_w 265, 3) := by decide +kernel
theorem dJ6_bitCount_0f7a4_7 : decode cJ6_bitCount_0f7a4 7 = .ok (.iand, 1) := by decide +kernel
theorem dJ6_bitCount_0f7a4_8 : decode cJ6_bitCount_0f7a4 8 = .ok (.isub, 1) := by decide +kernel
theorem dJ6_bitCount_0f7a4_9 : decode cJ6_bitCount_0f7a4 9 = .ok (.istore_n 0, 1) := by decide +kernel
theorem dJ6_bitCount_0f7a4_10 : decode cJ6_bitCount_0f7a4 10 = .ok (.iload_n 0, 1) := by decide +kernel
theorem dJ6_bitCount_0f7a4_11 : decode cJ6_bitCount_0f7a4 11 = .ok (.ldc_w 266, 3) := by decide +kernel
theorem dJ6_bitCount_0f7a4_14 : decode cJ6_bitCount_0f7a4 14 = .ok (.iand, 1) := by decide +kernel
theorem dJ6_bitCount_0f7a4_15 : decode cJ6_bitCount_0f7a4 15 = .ok (.iload_n 0, 1) := by decide +kernel
theorem dJ6_bitCount_0f7a4_16 : decode cJ6_bitCount_0f7a4 16 = .ok (.iconst 2, 1) := by decide +kernel
theorem dJ6_bitCount_0f7a4_17 : decode cJ6_bitCount_0f7a4 17 = .ok (.iushr, 1) := by decide +kernel
theorem dJ6_bitCount_0f7a4_18 : decode cJ6_bitCount_0f7a4 18 = .ok (.ldc_w 266, 3) := by decide +kernel
theorem dJ6_bitCount_0f7a4_21 : decode cJ6_bitCount_0f7a4 21 = .ok (.iand, 1) := by decide +kernel
theorem dJ6_bitCount_0f7a4_22 : decode cJ6_bitCount_0f7a4 22 = .ok (.iadd, 1) := by decide +kernel
theorem dJ6_bitCount_0f7a4_23 : decode cJ6_bitCount_0f7a4 23 = .ok (.istore_n 0, 1) := by decide +kernel
theorem dJ6_bitCount_0f7a4_24 : decode cJ6_bitCount_0f7a4 24 = .ok (.iload_n 0, 1) := by decide +kernel
theorem dJ6_bitCount_0f7a4_25 : decode cJ6_bitCount_0f7a4 25 = .ok (.iload_n 0, 1) := by decide +kernel
theorem dJ6_bitCount_0f7a4_26 : decode cJ6_bitCount_0f7a4 26 = .ok (.iconst 4, 1) := by decide +kernel
theorem dJ6_bitCount_0f7a4_27 : decode cJ6_bitCount_0f7a4 27 = .ok (.iushr, 1) := by decide +kernel
theorem dJ6_bitCount_0f7a4_28 : decode cJ6_bitCount_0f7a4 28 = .ok (.iadd, 1) := by decide +kernel
theorem dJ6_bitCount_0f7a4_29 : decode cJ6_bitCount_0f7a4 29 = .ok (.ldc_w 267, 3) := by decide +kernel
theorem dJ6_bitCount_0f7a4_32 : decode cJ6_bitCount_0f7a4 32 = .ok (.iand, 1) := by decide +kernel
theorem dJ6_bitCount_0f7a4_33 : decode cJ6_bitCount_0f7a4 33 = .ok (.istore_n 0, 1) := by decide +kernel
theorem dJ6_bitCount_0f7a4_34 : decode cJ6_bitCount_0f7a4 34 = .ok (.iload_n 0, 1) := by decide +kernel
theorem dJ6_bitCount_0f7a4_35 : decode cJ6_bitCount_0f7a4 35 = .ok (.iload_n 0, 1) := by decide +kernel
theorem dJ6_bitCount_0f7a4_36 : decode cJ6_bitCount_0f7a4 36 = .ok (.bipush 8, 2) := by decide +kernel
theorem dJ6_bitCount_0f7a4_38 : decode cJ6_bitCount_0f7a4 38 = .ok (.iushr, 1) := by decide +kernel
theorem dJ6_bitCount_0f7a4_39 : decode cJ6_bitCount_0f7a4 39 = .ok (.iadd, 1) := by decide +kernel
theorem dJ6_bitCount_0f7a4_40 : decode cJ6_bitCount_0f7a4 40 = .ok (.istore_n 0, 1) := by decide +kernel
theorem dJ6_bitCount_0f7a4_41 : decode cJ6_bitCount_0f7a4 41 = .ok (.iload_n 0, 1) := by decide +kernel
theorem dJ6_bitCount_0f7a4_42 : decode cJ6_bitCount_0f7a4 42 = .ok (.iload_n 0, 1) := by decide +kernel
theorem dJ6_bitCount_0f7a4_43 : decode cJ6_bitCount_0f7a4 43 = .ok (.bipush 16, 2) := by decide +kernel
theorem dJ6_bitCount_0f7a4_45 : decode cJ6_bitCount_0f7a4 45 = .ok (.iushr, 1) := by decide +kernel
theorem dJ6_bitCount_0f7a4_46 : decode cJ6_bitCount_0f7a4 46 = .ok (.iadd, 1) := by decide +kernel
theorem dJ6_bitCount_0f7a4_47 : decode cJ6_bitCount_0f7a4 47 = .ok (.istore_n 0, 1) := by decide +kernel
theorem dJ6_bitCount_0f7a4_48 : decode cJ6_bitCount_0f7a4 48 = .ok (.iload_n 0, 1) := by decide +kernel
theorem dJ6_bitCount_0f7a4_49 : decode cJ6_bitCount_0f7a4 49 = .ok (.bipush 63, 2) := by decide +kernel
theorem dJ6_bitCount_0f7a4_51 : decode cJ6_bitCount_0f7a4 51 = .ok (.iand, 1) := by decide +kernel
theorem dJ6_bitCount_0f7a4_52 : decode cJ6_bitCount_0f7a4 52 = .ok (.ireturn, 1) := by decide +kernel
theorem dJ9_max_7cf53_0 : decode cJ9_max_7cf53 0 = .ok (.iload_n 0, 1) := by decide +kernel
theorem dJ9_max_7cf53_1 : decode cJ9_max_7cf53 1 = .ok (.iload_n 1, 1) := by decide +kernel
theorem dJ9_max_7cf53_2 : decode cJ9_max_7cf53 2 = .ok (.if_icmp .lt 7, 3) := by decide +kernel
theorem dJ9_max_7cf53_5 : decode cJ9_max_7cf53 5 = .ok (.iload_n 0, 1) := by decide +kernel
theorem dJ9_max_7cf53_6 : decode cJ9_max_7cf53 6 = .ok (.goto 4, 3) := by decide +kernel
theorem dJ9_max_7cf53_9 : decode cJ9_max_7cf53 9 = .ok (.iload_n 1, 1) := by decide +kernel
theorem dJ9_max_7cf53_10 : decode cJ9_max_7cf53 10 = .ok (.ireturn, 1) := by decide +kernel
theorem dJ9_max_f86c9_0 : decode cJ9_max_f86c9 0 = .ok (.lload_n 0, 1) := by decide +kernel
theorem dJ9_max_f86c9_1 : decode cJ9_max_f86c9 1 = .ok (.lload_n 2, 1) := by decide +kernel
theorem dJ9_max_f86c9_2 : decode cJ9_max_f86c9 2 = .ok (.lcmp, 1) := by decide +kernel
theorem dJ9_max_f86c9_3 : decode cJ9_max_f86c9 3 = .ok (.ifCond .lt 7, 3) := by decide +kernel
theorem dJ9_max_f86c9_6 : decode cJ9_max_f86c9 6 = .ok (.lload_n 0, 1) := by decide +kernel
theorem dJ9_max_f86c9_7 : decode cJ9_max_f86c9 7 = .ok (.goto 4, 3) := by decide +kernel
theorem dJ9_max_f86c9_10 : decode cJ9_max_f86c9 10 = .ok (.lload_n 2, 1) := by decide +kernel
theorem dJ9_max_f86c9_11 : decode cJ9_max_f86c9 11 = .ok (.lreturn, 1) := by decide +kernel
theorem dJ7_fill_d0a16_0 : decode cJ7_fill_d0a16 0 = .ok (.iconst 0, 1) := by decide +kernel
theorem dJ7_fill_d0a16_1 : decode cJ7_fill_d0a16 1 = .ok (.istore_n 3, 1) := by decide +kernel
theorem dJ7_fill_d0a16_2 : decode cJ7_fill_d0a16 2 = .ok (.aload_n 0, 1) := by decide +kernel
theorem dJ7_fill_d0a16_3 : decode cJ7_fill_d0a16 3 = .ok (.arraylength, 1) := by decide +kernel
theorem dJ7_fill_d0a16_4 : decode cJ7_fill_d0a16 4 = .ok (.istore 4, 2) := by decide +kernel
theorem dJ7_fill_d0a16_6 : decode cJ7_fill_d0a16 6 = .ok (.iload_n 3, 1) := by decide +kernel
theorem dJ7_fill_d0a16_7 : decode cJ7_fill_d0a16 7 = .ok (.iload 4, 2) := by decide +kernel
theorem dJ7_fill_d0a16_9 : decode cJ7_fill_d0a16 9 = .ok (.if_icmp .ge 13, 3) := by decide +kernel
theorem dJ7_fill_d0a16_12 : decode cJ7_fill_d0a16 12 = .ok (.aload_n 0, 1) := by decide +kernel
theorem dJ7_fill_d0a16_13 : decode cJ7_fill_d0a16 13 = .ok (.iload_n 3, 1) := by decide +kernel
theorem dJ7_fill_d0a16_14 : decode cJ7_fill_d0a16 14 = .ok (.lload_n 1, 1) := by decide +kernel
theorem dJ7_fill_d0a16_15 : decode cJ7_fill_d0a16 15 = .ok (.lastore, 1) := by decide +kernel
theorem dJ7_fill_d0a16_16 : decode cJ7_fill_d0a16 16 = .ok (.iinc 3 1, 3) := by decide +kernel
theorem dJ7_fill_d0a16_19 : decode cJ7_fill_d0a16 19 = .ok (.goto (-13), 3) := by decide +kernel
theorem dJ7_fill_d0a16_22 : decode cJ7_fill_d0a16 22 = .ok (.return_, 1) := by decide +kernel
theorem dJ7_fill_53178_0 : decode cJ7_fill_53178 0 = .ok (.iconst 0, 1) := by decide +kernel
theorem dJ7_fill_53178_1 : decode cJ7_fill_53178 1 = .ok (.istore_n 2, 1) := by decide +kernel
theorem dJ7_fill_53178_2 : decode cJ7_fill_53178 2 = .ok (.aload_n 0, 1) := by decide +kernel
theorem dJ7_fill_53178_3 : decode cJ7_fill_53178 3 = .ok (.arraylength, 1) := by decide +kernel
theorem dJ7_fill_53178_4 : decode cJ7_fill_53178 4 = .ok (.istore_n 3, 1) := by decide +kernel
theorem dJ7_fill_53178_5 : decode cJ7_fill_53178 5 = .ok (.iload_n 2, 1) := by decide +kernel
theorem dJ7_fill_53178_6 : decode cJ7_fill_53178 6 = .ok (.iload_n 3, 1) := by decide +kernel
theorem dJ7_fill_53178_7 : decode cJ7_fill_53178 7 = .ok (.if_icmp .ge 13, 3) := by decide +kernel
theorem dJ7_fill_53178_10 : decode cJ7_fill_53178 10 = .ok (.aload_n 0, 1) := by decide +kernel
theorem dJ7_fill_53178_11 : decode cJ7_fill_53178 11 = .ok (.iload_n 2, 1) := by decide +kernel
theorem dJ7_fill_53178_12 : decode cJ7_fill_53178 12 = .ok (.iload_n 1, 1) := by decide +kernel
theorem dJ7_fill_53178_13 : decode cJ7_fill_53178 13 = .ok (.iastore, 1) := by decide +kernel
theorem dJ7_fill_53178_14 : decode cJ7_fill_53178 14 = .ok (.iinc 2 1, 3) := by decide +kernel
theorem dJ7_fill_53178_17 : decode cJ7_fill_53178 17 = .ok (.goto (-12), 3) := by decide +kernel
theorem dJ7_fill_53178_20 : decode cJ7_fill_53178 20 = .ok (.return_, 1) := by decide +kernel
end
section
theorem dX6_init_0 : decode cX6_init 0 = .ok (.aload_n 0, 1) := by decide +kernel
theorem dX6_init_1 : decode cX6_init 1 = .ok (.invokespecial 1, 3) := by decide +kernel
theorem dX6_init_4 : decode cX6_init 4 = .ok (.aload_n 0, 1) := by decide +kernel
theorem dX6_init_5 : decode cX6_init 5 = .ok (.bipush 110, 2) := by decide +kernel
theorem dX6_init_7 : decode cX6_init 7 = .ok (.newarray .int, 2) := by decide +kernel
theorem dX6_init_9 : decode cX6_init 9 = .ok (.putfield 9, 3) := by decide +kernel
theorem dX6_init_12 : decode cX6_init 12 = .ok (.aload_n 0, 1) := by decide +kernel
theorem dX6_init_13 : decode cX6_init 13 = .ok (.new 13, 3) := by decide +kernel
theorem dX6_init_16 : decode cX6_init 16 = .ok (.dup, 1) := by decide +kernel
theorem dX6_init_17 : decode cX6_init 17 = .ok (.invokespecial 15, 3) := by decide +kernel
theorem dX6_init_20 : decode cX6_init 20 = .ok (.putfield 16, 3) := by decide +kernel
theorem dX6_init_23 : decode cX6_init 23 = .ok (.aload_n 0, 1) := by decide +kernel
theorem dX6_init_24 : decode cX6_init 24 = .ok (.new 20, 3) := by decide +kernel
theorem dX6_init_27 : decode cX6_init 27 = .ok (.dup, 1) := by decide +kernel
theorem dX6_init_28 : decode cX6_init 28 = .ok (.invokespecial 22, 3) := by decide +kernel
theorem dX6_init_31 : decode cX6_init 31 = .ok (.putfield 23, 3) := by decide +kernel
theorem dX6_init_34 : decode cX6_init 34 = .ok (.aload_n 0, 1) := by decide +kernel
theorem dX6_init_35 : decode cX6_init 35 = .ok (.new 27, 3) := by decide +kernel
theorem dX6_init_38 : decode cX6_init 38 = .ok (.dup, 1) := by decide +kernel
theorem dX6_init_39 : decode cX6_init 39 = .ok (.invokespecial 29, 3) := by decide +kernel
theorem dX6_init_42 : decode cX6_init 42 = .ok (.putfield 30, 3) := by decide +kernel
theorem dX6_init_45 : decode cX6_init 45 = .ok (.aload_n 0, 1) := by decide +kernel
theorem dX6_init_46 : decode cX6_init 46 = .ok (.new 34, 3) := by decide +kernel
theorem dX6_init_49 : decode cX6_init 49 = .ok (.dup, 1) := by decide +kernel
theorem dX6_init_50 : decode cX6_init 50 = .ok (.invokespecial 36, 3) := by decide +kernel
theorem dX6_init_53 : decode cX6_init 53 = .ok (.putfield 37, 3) := by decide +kernel
theorem dX6_init_56 : decode cX6_init 56 = .ok (.aload_n 0, 1) := by decide +kernel
theorem dX6_init_57 : decode cX6_init 57 = .ok (.aload_n 0, 1) := by decide +kernel
theorem dX6_init_58 : decode cX6_init 58 = .ok (.getfield 37, 3) := by decide +kernel
theorem dX6_init_61 : decode cX6_init 61 = .ok (.getfield 41, 3) := by decide +kernel
theorem dX6_init_64 : decode cX6_init 64 = .ok (.putfield 45, 3) := by decide +kernel
theorem dX6_init_67 : decode cX6_init 67 = .ok (.aload_n 0, 1) := by decide +kernel
theorem dX6_init_68 : decode cX6_init 68 = .ok (.new 46, 3) := by decide +kernel
theorem dX6_init_71 : decode cX6_init 71 = .ok (.dup, 1) := by decide +kernel
theorem dX6_init_72 : decode cX6_init 72 = .ok (.invokespecial 48, 3) := by decide +kernel
theorem dX6_init_75 : decode cX6_init 75 = .ok (.putfield 49, 3) := by decide +kernel
theorem dX6_init_78 : decode cX6_init 78 = .ok (.return_, 1) := by decide +kernel
theorem dX6_letter_0 : decode cX6_letter 0 = .ok (.iload_n 1, 1) := by decide +kernel
theorem dX6_letter_1 : decode cX6_letter 1 = .ok (.bipush 32, 2) := by decide +kernel
theorem dX6_letter_3 : decode cX6_letter 3 = .ok (.if_icmp .lt 9, 3) := by decide +kernel
theorem dX6_letter_6 : decode cX6_letter 6 = .ok (.iload_n 1, 1) := by decide +kernel
theorem dX6_letter_7 : decode cX6_letter 7 = .ok (.bipush 126, 2) := by decide +kernel
theorem dX6_letter_9 : decode cX6_letter 9 = .ok (.if_icmp .le 6, 3) := by decide +kernel
theorem dX6_letter_12 : decode cX6_letter 12 = .ok (.bipush (-102), 2) := by decide +kernel
theorem dX6_letter_14 : decode cX6_letter 14 = .ok (.ireturn, 1) := by decide +kernel
theorem dX6_letter_15 : decode cX6_letter 15 = .ok (.aload_n 0, 1) := by decide +kernel
theorem dX6_letter_16 : decode cX6_letter 16 = .ok (.getfield 53, 3) := by decide +kernel
theorem dX6_letter_19 : decode cX6_letter 19 = .ok (.bipush 110, 2) := by decide +kernel
theorem dX6_letter_21 : decode cX6_letter 21 = .ok (.if_icmp .lt 6, 3) := by decide +kernel
theorem dX6_letter_24 : decode cX6_letter 24 = .ok (.bipush (-104), 2) := by decide +kernel
theorem dX6_letter_26 : decode cX6_letter 26 = .ok (.ireturn, 1) := by decide +kernel
theorem dX6_letter_27 : decode cX6_letter 27 = .ok (.aload_n 0, 1) := by decide +kernel
theorem dX6_letter_28 : decode cX6_letter 28 = .ok (.getfield 9, 3) := by decide +kernel
theorem dX6_letter_31 : decode cX6_letter 31 = .ok (.aload_n 0, 1) := by decide +kernel
theorem dX6_letter_32 : decode cX6_letter 32 = .ok (.getfield 53, 3) := by decide +kernel
theorem dX6_letter_35 : decode cX6_letter 35 = .ok (.iload_n 1, 1) := by decide +kernel
theorem dX6_letter_36 : decode cX6_letter 36 = .ok (.iastore, 1) := by decide +kernel
theorem dX6_letter_37 : decode cX6_letter 37 = .ok (.aload_n 0, 1) := by decide +kernel
theorem dX6_letter_38 : decode cX6_letter 38 = .ok (.dup, 1) := by decide +kernel
theorem dX6_letter_39 : decode cX6_letter 39 = .ok (.getfield 53, 3) := by decide +kernel
theorem dX6_letter_42 : decode cX6_letter 42 = .ok (.iconst 1, 1) := by decide +kernel
theorem dX6_letter_43 : decode cX6_letter 43 = .ok (.iadd, 1) := by decide +kernel
theorem dX6_letter_44 : decode cX6_letter 44 = .ok (.putfield 53, 3) := by decide +kernel
theorem dX6_letter_47 : decode cX6_letter 47 = .ok (.aload_n 0, 1) := by decide +kernel
theorem dX6_letter_48 : decode cX6_letter 48 = .ok (.getfield 53, 3) := by decide +kernel
theorem dX6_letter_51 : decode cX6_letter 51 = .ok (.ireturn, 1) := by decide +kernel
theorem dX6_blank_0 : decode cX6_blank 0 = .ok (.aload_n 0, 1) := by decide +kernel
theorem dX6_blank_1 : decode cX6_blank 1 = .ok (.getfield 53, 3) := by decide +kernel
theorem dX6_blank_4 : decode cX6_blank 4 = .ok (.istore_n 1, 1) := by decide +kernel
theorem dX6_blank_5 : decode cX6_blank 5 = .ok (.aload_n 0, 1) := by decide +kernel
theorem dX6_blank_6 : decode cX6_blank 6 = .ok (.iconst 0, 1) := by decide +kernel
theorem dX6_blank_7 : decode cX6_blank 7 = .ok (.putfield 53, 3) := by decide +kernel
theorem dX6_blank_10 : decode cX6_blank 10 = .ok (.iload_n 1, 1) := by decide +kernel
theorem dX6_blank_11 : decode cX6_blank 11 = .ok (.ireturn, 1) := by decide +kernel
theorem dX6_fault_0 : decode cX6_fault 0 = .ok (.aload_n 0, 1) := by decide +kernel
theorem dX6_fault_1 : decode cX6_fault 1 = .ok (.getfield 23, 3) := by decide +kernel
theorem dX6_fault_4 : decode cX6_fault 4 = .ok (.invokevirtual 57, 3) := by decide +kernel
theorem dX6_fault_7 : decode cX6_fault 7 = .ok (.iconst 0, 1) := by decide +kernel
theorem dX6_fault_8 : decode cX6_fault 8 = .ok (.istore_n 1, 1) := by decide +kernel
theorem dX6_fault_9 : decode cX6_fault 9 = .ok (.iload_n 1, 1) := by decide +kernel
theorem dX6_fault_10 : decode cX6_fault 10 = .ok (.aload_n 0, 1) := by decide +kernel
theorem dX6_fault_11 : decode cX6_fault 11 = .ok (.getfield 53, 3) := by decide +kernel
theorem dX6_fault_14 : decode cX6_fault 14 = .ok (.if_icmp .ge 27, 3) := by decide +kernel
theorem dX6_fault_17 : decode cX6_fault 17 = .ok (.aload_n 0, 1) := by decide +kernel
theorem dX6_fault_18 : decode cX6_fault 18 = .ok (.getfield 23, 3) := by decide +kernel
theorem dX6_fault_21 : decode cX6_fault 21 = .ok (.aload_n 0, 1) := by decide +kernel
theorem dX6_fault_22 : decode cX6_fault 22 = .ok (.getfield 9, 3) := by decide +kernel
theorem dX6_fault_25 : decode cX6_fault 25 = .ok (.iload_n 1, 1) := by decide +kernel
theorem dX6_fault_26 : decode cX6_fault 26 = .ok (.iaload, 1) := by decide +kernel
theorem dX6_fault_27 : decode cX6_fault 27 = .ok (.invokevirtual 60, 3) := by decide +kernel
theorem dX6_fault_30 : decode cX6_fault 30 = .ok (.ifCond .ne 5, 3) := by decide +kernel
theorem dX6_fault_33 : decode cX6_fault 33 = .ok (.iload_n 1, 1) := by decide +kernel
theorem dX6_fault_34 : decode cX6_fault 34 = .ok (.ireturn, 1) := by decide +kernel
theorem dX6_fault_35 : decode cX6_fault 35 = .ok (.iinc 1 1, 3) := by decide +kernel
theorem dX6_fault_38 : decode cX6_fault 38 = .ok (.goto (-29), 3) := by decide +kernel
theorem dX6_fault_41 : decode cX6_fault 41 = .ok (.aload_n 0, 1) := by decide +kernel
theorem dX6_fault_42 : decode cX6_fault 42 = .ok (.getfield 53, 3) := by decide +kernel
theorem dX6_fault_45 : decode cX6_fault 45 = .ok (.ireturn, 1) := by decide +kernel
theorem dX6_circle_0 : decode cX6_circle 0 = .ok (.aload_n 0, 1) := by decide +kernel
theorem dX6_circle_1 : decode cX6_circle 1 = .ok (.invokevirtual 64, 3) := by decide +kernel
theorem dX6_circle_4 : decode cX6_circle 4 = .ok (.aload_n 0, 1) := by decide +kernel
theorem dX6_circle_5 : decode cX6_circle 5 = .ok (.getfield 53, 3) := by decide +kernel
theorem dX6_circle_8 : decode cX6_circle 8 = .ok (.if_icmp .lt 13, 3) := by decide +kernel
theorem dX6_circle_11 : decode cX6_circle 11 = .ok (.aload_n 0, 1) := by decide +kernel
theorem dX6_circle_12 : decode cX6_circle 12 = .ok (.getfield 23, 3) := by decide +kernel
theorem dX6_circle_15 : decode cX6_circle 15 = .ok (.invokevirtual 68, 3) := by decide +kernel
theorem dX6_circle_18 : decode cX6_circle 18 = .ok (.ifCond .ne 6, 3) := by decide +kernel
theorem dX6_circle_21 : decode cX6_circle 21 = .ok (.bipush (-103), 2) := by decide +kernel
theorem dX6_circle_23 : decode cX6_circle 23 = .ok (.ireturn, 1) := by decide +kernel
theorem dX6_circle_24 : decode cX6_circle 24 = .ok (.aload_n 0, 1) := by decide +kernel
theorem dX6_circle_25 : decode cX6_circle 25 = .ok (.getfield 16, 3) := by decide +kernel
theorem dX6_circle_28 : decode cX6_circle 28 = .ok (.aload_n 0, 1) := by decide +kernel
theorem dX6_circle_29 : decode cX6_circle 29 = .ok (.getfield 23, 3) := by decide +kernel
theorem dX6_circle_32 : decode cX6_circle 32 = .ok (.getfield 72, 3) := by decide +kernel
theorem dX6_circle_35 : decode cX6_circle 35 = .ok (.invokevirtual 75, 3) := by decide +kernel
theorem dX6_circle_38 : decode cX6_circle 38 = .ok (.aload_n 0, 1) := by decide +kernel
theorem dX6_circle_39 : decode cX6_circle 39 = .ok (.iconst 0, 1) := by decide +kernel
theorem dX6_circle_40 : decode cX6_circle 40 = .ok (.putfield 53, 3) := by decide +kernel
theorem dX6_circle_43 : decode cX6_circle 43 = .ok (.aload_n 0, 1) := by decide +kernel
theorem dX6_circle_44 : decode cX6_circle 44 = .ok (.dup, 1) := by decide +kernel
theorem dX6_circle_45 : decode cX6_circle 45 = .ok (.getfield 79, 3) := by decide +kernel
theorem dX6_circle_48 : decode cX6_circle 48 = .ok (.iconst 1, 1) := by decide +kernel
theorem dX6_circle_49 : decode cX6_circle 49 = .ok (.iadd, 1) := by decide +kernel
theorem dX6_circle_50 : decode cX6_circle 50 = .ok (.putfield 79, 3) := by decide +kernel
theorem dX6_circle_53 : decode cX6_circle 53 = .ok (.aload_n 0, 1) := by decide +kernel
theorem dX6_circle_54 : decode cX6_circle 54 = .ok (.getfield 16, 3) := by decide +kernel
theorem dX6_circle_57 : decode cX6_circle 57 = .ok (.getfield 82, 3) := by decide +kernel
theorem dX6_circle_60 : decode cX6_circle 60 = .ok (.ireturn, 1) := by decide +kernel
theorem dX6_ink_0 : decode cX6_ink 0 = .ok (.aload_n 0, 1) := by decide +kernel
theorem dX6_ink_1 : decode cX6_ink 1 = .ok (.getfield 16, 3) := by decide +kernel
theorem dX6_ink_4 : decode cX6_ink 4 = .ok (.invokevirtual 85, 3) := by decide +kernel
theorem dX6_ink_7 : decode cX6_ink 7 = .ok (.ifCond .ne 6, 3) := by decide +kernel
theorem dX6_ink_10 : decode cX6_ink 10 = .ok (.bipush (-103), 2) := by decide +kernel
theorem dX6_ink_12 : decode cX6_ink 12 = .ok (.ireturn, 1) := by decide +kernel
theorem dX6_ink_13 : decode cX6_ink 13 = .ok (.iload_n 1, 1) := by decide +kernel
theorem dX6_ink_14 : decode cX6_ink 14 = .ok (.ifCond .ge 6, 3) := by decide +kernel
theorem dX6_ink_17 : decode cX6_ink 17 = .ok (.bipush (-101), 2) := by decide +kernel
theorem dX6_ink_19 : decode cX6_ink 19 = .ok (.ireturn, 1) := by decide +kernel
theorem dX6_ink_20 : decode cX6_ink 20 = .ok (.aload_n 0, 1) := by decide +kernel
theorem dX6_ink_21 : decode cX6_ink 21 = .ok (.getfield 30, 3) := by decide +kernel
theorem dX6_ink_24 : decode cX6_ink 24 = .ok (.aload_n 0, 1) := by decide +kernel
theorem dX6_ink_25 : decode cX6_ink 25 = .ok (.getfield 16, 3) := by decide +kernel
theorem dX6_ink_28 : decode cX6_ink 28 = .ok (.invokevirtual 88, 3) := by decide +kernel
theorem dX6_ink_31 : decode cX6_ink 31 = .ok (.iload_n 1, 1) := by decide +kernel
theorem dX6_ink_32 : decode cX6_ink 32 = .ok (.aload_n 0, 1) := by decide +kernel
theorem dX6_ink_33 : decode cX6_ink 33 = .ok (.getfield 30, 3) := by decide +kernel
theorem dX6_ink_36 : decode cX6_ink 36 = .ok (.getfield 91, 3) := by decide +kernel
theorem dX6_ink_39 : decode cX6_ink 39 = .ok (.if_icmp .ge 15, 3) := by decide +kernel
theorem dX6_ink_42 : decode cX6_ink 42 = .ok (.aload_n 0, 1) := by decide +kernel
theorem dX6_ink_43 : decode cX6_ink 43 = .ok (.getfield 30, 3) := by decide +kernel
theorem dX6_ink_46 : decode cX6_ink 46 = .ok (.getfield 94, 3) := by decide +kernel
theorem dX6_ink_49 : decode cX6_ink 49 = .ok (.iload_n 1, 1) := by decide +kernel
theorem dX6_ink_50 : decode cX6_ink 50 = .ok (.iaload, 1) := by decide +kernel
theorem dX6_ink_51 : decode cX6_ink 51 = .ok (.goto 4, 3) := by decide +kernel
theorem dX6_ink_54 : decode cX6_ink 54 = .ok (.iconst (-1), 1) := by decide +kernel
theorem dX6_ink_55 : decode cX6_ink 55 = .ok (.ireturn, 1) := by decide +kernel
theorem dX6_kind_0 : decode cX6_kind 0 = .ok (.aload_n 0, 1) := by decide +kernel
theorem dX6_kind_1 : decode cX6_kind 1 = .ok (.getfield 16, 3) := by decide +kernel
theorem dX6_kind_4 : decode cX6_kind 4 = .ok (.iload_n 1, 1) := by decide +kernel
theorem dX6_kind_5 : decode cX6_kind 5 = .ok (.invokevirtual 97, 3) := by decide +kernel
theorem dX6_kind_8 : decode cX6_kind 8 = .ok (.ifCond .ne 6, 3) := by decide +kernel
theorem dX6_kind_11 : decode cX6_kind 11 = .ok (.bipush (-101), 2) := by decide +kernel
theorem dX6_kind_13 : decode cX6_kind 13 = .ok (.ireturn, 1) := by decide +kernel
theorem dX6_kind_14 : decode cX6_kind 14 = .ok (.iload_n 2, 1) := by decide +kernel
theorem dX6_kind_15 : decode cX6_kind 15 = .ok (.invokestatic 100, 3) := by decide +kernel
theorem dX6_kind_18 : decode cX6_kind 18 = .ok (.ifCond .ne 6, 3) := by decide +kernel
theorem dX6_kind_21 : decode cX6_kind 21 = .ok (.bipush (-102), 2) := by decide +kernel
theorem dX6_kind_23 : decode cX6_kind 23 = .ok (.ireturn, 1) := by decide +kernel
theorem dX6_kind_24 : decode cX6_kind 24 = .ok (.aload_n 0, 1) := by decide +kernel
theorem dX6_kind_25 : decode cX6_kind 25 = .ok (.getfield 16, 3) := by decide +kernel
theorem dX6_kind_28 : decode cX6_kind 28 = .ok (.getfield 103, 3) := by decide +kernel
theorem dX6_kind_31 : decode cX6_kind 31 = .ok (.iload_n 1, 1) := by decide +kernel
theorem dX6_kind_32 : decode cX6_kind 32 = .ok (.iaload, 1) := by decide +kernel
theorem dX6_kind_33 : decode cX6_kind 33 = .ok (.istore_n 3, 1) := by decide +kernel
theorem dX6_kind_34 : decode cX6_kind 34 = .ok (.iload_n 2, 1) := by decide +kernel
theorem dX6_kind_35 : decode cX6_kind 35 = .ok (.iconst 1, 1) := by decide +kernel
theorem dX6_kind_36 : decode cX6_kind 36 = .ok (.if_icmp .ne 26, 3) := by decide +kernel
theorem dX6_kind_39 : decode cX6_kind 39 = .ok (.iload_n 3, 1) := by decide +kernel
theorem dX6_kind_40 : decode cX6_kind 40 = .ok (.iconst 1, 1) := by decide +kernel
theorem dX6_kind_41 : decode cX6_kind 41 = .ok (.if_icmp .eq 21, 3) := by decide +kernel
theorem dX6_kind_44 : decode cX6_kind 44 = .ok (.aload_n 0, 1) := by decide +kernel
theorem dX6_kind_45 : decode cX6_kind 45 = .ok (.getfield 16, 3) := by decide +kernel
theorem dX6_kind_48 : decode cX6_kind 48 = .ok (.iconst 1, 1) := by decide +kernel
theorem dX6_kind_49 : decode cX6_kind 49 = .ok (.invokevirtual 106, 3) := by decide +kernel
theorem dX6_kind_52 : decode cX6_kind 52 = .ok (.invokestatic 110, 3) := by decide +kernel
theorem dX6_kind_55 : decode cX6_kind 55 = .ok (.iconst 5, 1) := by decide +kernel
theorem dX6_kind_56 : decode cX6_kind 56 = .ok (.if_icmp .lt 6, 3) := by decide +kernel
theorem dX6_kind_59 : decode cX6_kind 59 = .ok (.bipush (-104), 2) := by decide +kernel
theorem dX6_kind_61 : decode cX6_kind 61 = .ok (.ireturn, 1) := by decide +kernel
theorem dX6_kind_62 : decode cX6_kind 62 = .ok (.aload_n 0, 1) := by decide +kernel
theorem dX6_kind_63 : decode cX6_kind 63 = .ok (.getfield 16, 3) := by decide +kernel
theorem dX6_kind_66 : decode cX6_kind 66 = .ok (.getfield 103, 3) := by decide +kernel
theorem dX6_kind_69 : decode cX6_kind 69 = .ok (.iload_n 1, 1) := by decide +kernel
theorem dX6_kind_70 : decode cX6_kind 70 = .ok (.iload_n 2, 1) := by decide +kernel
theorem dX6_kind_71 : decode cX6_kind 71 = .ok (.iastore, 1) := by decide +kernel
theorem dX6_kind_72 : decode cX6_kind 72 = .ok (.iload_n 3, 1) := by decide +kernel
theorem dX6_kind_73 : decode cX6_kind 73 = .ok (.ireturn, 1) := by decide +kernel
theorem dX6_as_0 : decode cX6_as 0 = .ok (.aload_n 0, 1) := by decide +kernel
theorem dX6_as_1 : decode cX6_as 1 = .ok (.getfield 16, 3) := by decide +kernel
theorem dX6_as_4 : decode cX6_as 4 = .ok (.iload_n 1, 1) := by decide +kernel
theorem dX6_as_5 : decode cX6_as 5 = .ok (.invokevirtual 97, 3) := by decide +kernel
theorem dX6_as_8 : decode cX6_as 8 = .ok (.ifCond .ne 6, 3) := by decide +kernel
theorem dX6_as_11 : decode cX6_as 11 = .ok (.bipush (-101), 2) := by decide +kernel
theorem dX6_as_13 : decode cX6_as 13 = .ok (.ireturn, 1) := by decide +kernel
theorem dX6_as_14 : decode cX6_as 14 = .ok (.iload_n 2, 1) := by decide +kernel
theorem dX6_as_15 : decode cX6_as 15 = .ok (.invokestatic 100, 3) := by decide +kernel
theorem dX6_as_18 : decode cX6_as 18 = .ok (.ifCond .ne 6, 3) := by decide +kernel
theorem dX6_as_21 : decode cX6_as 21 = .ok (.bipush (-102), 2) := by decide +kernel
theorem dX6_as_23 : decode cX6_as 23 = .ok (.ireturn, 1) := by decide +kernel
theorem dX6_as_24 : decode cX6_as 24 = .ok (.aload_n 0, 1) := by decide +kernel
theorem dX6_as_25 : decode cX6_as 25 = .ok (.getfield 16, 3) := by decide +kernel
theorem dX6_as_28 : decode cX6_as 28 = .ok (.getfield 103, 3) := by decide +kernel
theorem dX6_as_31 : decode cX6_as 31 = .ok (.iload_n 1, 1) := by decide +kernel
theorem dX6_as_32 : decode cX6_as 32 = .ok (.iaload, 1) := by decide +kernel
theorem dX6_as_33 : decode cX6_as 33 = .ok (.istore_n 3, 1) := by decide +kernel
theorem dX6_as_34 : decode cX6_as 34 = .ok (.iload_n 2, 1) := by decide +kernel
theorem dX6_as_35 : decode cX6_as 35 = .ok (.ifCond .eq 8, 3) := by decide +kernel
theorem dX6_as_38 : decode cX6_as 38 = .ok (.iload_n 2, 1) := by decide +kernel
theorem dX6_as_39 : decode cX6_as 39 = .ok (.iload_n 3, 1) := by decide +kernel
theorem dX6_as_40 : decode cX6_as 40 = .ok (.if_icmp .ne 7, 3) := by decide +kernel
theorem dX6_as_43 : decode cX6_as 43 = .ok (.iload_n 3, 1) := by decide +kernel
theorem dX6_as_44 : decode cX6_as 44 = .ok (.goto 4, 3) := by decide +kernel
theorem dX6_as_47 : decode cX6_as 47 = .ok (.iconst (-1), 1) := by decide +kernel
theorem dX6_as_48 : decode cX6_as 48 = .ok (.ireturn, 1) := by decide +kernel
theorem dX6_vouch_0 : decode cX6_vouch 0 = .ok (.aload_n 0, 1) := by decide +kernel
theorem dX6_vouch_1 : decode cX6_vouch 1 = .ok (.getfield 16, 3) := by decide +kernel
theorem dX6_vouch_4 : decode cX6_vouch 4 = .ok (.iload_n 1, 1) := by decide +kernel
theorem dX6_vouch_5 : decode cX6_vouch 5 = .ok (.iload_n 2, 1) := by decide +kernel
theorem dX6_vouch_6 : decode cX6_vouch 6 = .ok (.invokevirtual 115, 3) := by decide +kernel
theorem dX6_vouch_9 : decode cX6_vouch 9 = .ok (.ifCond .ne 6, 3) := by decide +kernel
theorem dX6_vouch_12 : decode cX6_vouch 12 = .ok (.bipush (-101), 2) := by decide +kernel
theorem dX6_vouch_14 : decode cX6_vouch 14 = .ok (.ireturn, 1) := by decide +kernel
theorem dX6_vouch_15 : decode cX6_vouch 15 = .ok (.aload_n 0, 1) := by decide +kernel
theorem dX6_vouch_16 : decode cX6_vouch 16 = .ok (.getfield 16, 3) := by decide +kernel
theorem dX6_vouch_19 : decode cX6_vouch 19 = .ok (.iload_n 1, 1) := by decide +kernel
theorem dX6_vouch_20 : decode cX6_vouch 20 = .ok (.iload_n 2, 1) := by decide +kernel
theorem dX6_vouch_21 : decode cX6_vouch 21 = .ok (.invokevirtual 119, 3) := by decide +kernel
theorem dX6_vouch_24 : decode cX6_vouch 24 = .ok (.ifCond .eq 6, 3) := by decide +kernel
theorem dX6_vouch_27 : decode cX6_vouch 27 = .ok (.bipush (-103), 2) := by decide +kernel
theorem dX6_vouch_29 : decode cX6_vouch 29 = .ok (.ireturn, 1) := by decide +kernel
theorem dX6_vouch_30 : decode cX6_vouch 30 = .ok (.aload_n 0, 1) := by decide +kernel
theorem dX6_vouch_31 : decode cX6_vouch 31 = .ok (.getfield 16, 3) := by decide +kernel
theorem dX6_vouch_34 : decode cX6_vouch 34 = .ok (.getfield 122, 3) := by decide +kernel
theorem dX6_vouch_37 : decode cX6_vouch 37 = .ok (.iload_n 1, 1) := by decide +kernel
theorem dX6_vouch_38 : decode cX6_vouch 38 = .ok (.iaload, 1) := by decide +kernel
theorem dX6_vouch_39 : decode cX6_vouch 39 = .ok (.invokestatic 110, 3) := by decide +kernel
theorem dX6_vouch_42 : decode cX6_vouch 42 = .ok (.istore_n 3, 1) := by decide +kernel
theorem dX6_vouch_43 : decode cX6_vouch 43 = .ok (.iload_n 3, 1) := by decide +kernel
theorem dX6_vouch_44 : decode cX6_vouch 44 = .ok (.iconst 5, 1) := by decide +kernel
theorem dX6_vouch_45 : decode cX6_vouch 45 = .ok (.if_icmp .lt 6, 3) := by decide +kernel
theorem dX6_vouch_48 : decode cX6_vouch 48 = .ok (.bipush (-104), 2) := by decide +kernel
theorem dX6_vouch_50 : decode cX6_vouch 50 = .ok (.ireturn, 1) := by decide +kernel
theorem dX6_vouch_51 : decode cX6_vouch 51 = .ok (.aload_n 0, 1) := by decide +kernel
theorem dX6_vouch_52 : decode cX6_vouch 52 = .ok (.getfield 16, 3) := by decide +kernel
theorem dX6_vouch_55 : decode cX6_vouch 55 = .ok (.getfield 122, 3) := by decide +kernel
theorem dX6_vouch_58 : decode cX6_vouch 58 = .ok (.iload_n 1, 1) := by decide +kernel
theorem dX6_vouch_59 : decode cX6_vouch 59 = .ok (.dup2, 1) := by decide +kernel
theorem dX6_vouch_60 : decode cX6_vouch 60 = .ok (.iaload, 1) := by decide +kernel
theorem dX6_vouch_61 : decode cX6_vouch 61 = .ok (.iconst 1, 1) := by decide +kernel
theorem dX6_vouch_62 : decode cX6_vouch 62 = .ok (.iload_n 2, 1) := by decide +kernel
theorem dX6_vouch_63 : decode cX6_vouch 63 = .ok (.ishl, 1) := by decide +kernel
theorem dX6_vouch_64 : decode cX6_vouch 64 = .ok (.ior, 1) := by decide +kernel
theorem dX6_vouch_65 : decode cX6_vouch 65 = .ok (.iastore, 1) := by decide +kernel
theorem dX6_vouch_66 : decode cX6_vouch 66 = .ok (.aload_n 0, 1) := by decide +kernel
theorem dX6_vouch_67 : decode cX6_vouch 67 = .ok (.dup, 1) := by decide +kernel
theorem dX6_vouch_68 : decode cX6_vouch 68 = .ok (.getfield 125, 3) := by decide +kernel
theorem dX6_vouch_71 : decode cX6_vouch 71 = .ok (.iconst 1, 1) := by decide +kernel
theorem dX6_vouch_72 : decode cX6_vouch 72 = .ok (.iadd, 1) := by decide +kernel
theorem dX6_vouch_73 : decode cX6_vouch 73 = .ok (.putfield 125, 3) := by decide +kernel
theorem dX6_vouch_76 : decode cX6_vouch 76 = .ok (.iload_n 3, 1) := by decide +kernel
theorem dX6_vouch_77 : decode cX6_vouch 77 = .ok (.iconst 1, 1) := by decide +kernel
theorem dX6_vouch_78 : decode cX6_vouch 78 = .ok (.iadd, 1) := by decide +kernel
theorem dX6_vouch_79 : decode cX6_vouch 79 = .ok (.ireturn, 1) := by decide +kernel
theorem dX6_recall_0 : decode cX6_recall 0 = .ok (.aload_n 0, 1) := by decide +kernel
theorem dX6_recall_1 : decode cX6_recall 1 = .ok (.getfield 16, 3) := by decide +kernel
theorem dX6_recall_4 : decode cX6_recall 4 = .ok (.iload_n 1, 1) := by decide +kernel
theorem dX6_recall_5 : decode cX6_recall 5 = .ok (.iload_n 2, 1) := by decide +kernel
theorem dX6_recall_6 : decode cX6_recall 6 = .ok (.invokevirtual 115, 3) := by decide +kernel
theorem dX6_recall_9 : decode cX6_recall 9 = .ok (.ifCond .ne 6, 3) := by decide +kernel
theorem dX6_recall_12 : decode cX6_recall 12 = .ok (.bipush (-101), 2) := by decide +kernel
theorem dX6_recall_14 : decode cX6_recall 14 = .ok (.ireturn, 1) := by decide +kernel
theorem dX6_recall_15 : decode cX6_recall 15 = .ok (.aload_n 0, 1) := by decide +kernel
theorem dX6_recall_16 : decode cX6_recall 16 = .ok (.getfield 16, 3) := by decide +kernel
theorem dX6_recall_19 : decode cX6_recall 19 = .ok (.iload_n 1, 1) := by decide +kernel
theorem dX6_recall_20 : decode cX6_recall 20 = .ok (.iload_n 2, 1) := by decide +kernel
theorem dX6_recall_21 : decode cX6_recall 21 = .ok (.invokevirtual 119, 3) := by decide +kernel
theorem dX6_recall_24 : decode cX6_recall 24 = .ok (.ifCond .ne 6, 3) := by decide +kernel
theorem dX6_recall_27 : decode cX6_recall 27 = .ok (.bipush (-103), 2) := by decide +kernel
theorem dX6_recall_29 : decode cX6_recall 29 = .ok (.ireturn, 1) := by decide +kernel
theorem dX6_recall_30 : decode cX6_recall 30 = .ok (.aload_n 0, 1) := by decide +kernel
theorem dX6_recall_31 : decode cX6_recall 31 = .ok (.getfield 16, 3) := by decide +kernel
theorem dX6_recall_34 : decode cX6_recall 34 = .ok (.getfield 122, 3) := by decide +kernel
theorem dX6_recall_37 : decode cX6_recall 37 = .ok (.iload_n 1, 1) := by decide +kernel
theorem dX6_recall_38 : decode cX6_recall 38 = .ok (.dup2, 1) := by decide +kernel
theorem dX6_recall_39 : decode cX6_recall 39 = .ok (.iaload, 1) := by decide +kernel
theorem dX6_recall_40 : decode cX6_recall 40 = .ok (.iconst 1, 1) := by decide +kernel
theorem dX6_recall_41 : decode cX6_recall 41 = .ok (.iload_n 2, 1) := by decide +kernel
theorem dX6_recall_42 : decode cX6_recall 42 = .ok (.ishl, 1) := by decide +kernel
theorem dX6_recall_43 : decode cX6_recall 43 = .ok (.iconst (-1), 1) := by decide +kernel
theorem dX6_recall_44 : decode cX6_recall 44 = .ok (.ixor, 1) := by decide +kernel
theorem dX6_recall_45 : decode cX6_recall 45 = .ok (.iand, 1) := by decide +kernel
theorem dX6_recall_46 : decode cX6_recall 46 = .ok (.iastore, 1) := by decide +kernel
theorem dX6_recall_47 : decode cX6_recall 47 = .ok (.aload_n 0, 1) := by decide +kernel
theorem dX6_recall_48 : decode cX6_recall 48 = .ok (.dup, 1) := by decide +kernel
theorem dX6_recall_49 : decode cX6_recall 49 = .ok (.getfield 128, 3) := by decide +kernel
theorem dX6_recall_52 : decode cX6_recall 52 = .ok (.iconst 1, 1) := by decide +kernel
theorem dX6_recall_53 : decode cX6_recall 53 = .ok (.iadd, 1) := by decide +kernel
theorem dX6_recall_54 : decode cX6_recall 54 = .ok (.putfield 128, 3) := by decide +kernel
theorem dX6_recall_57 : decode cX6_recall 57 = .ok (.aload_n 0, 1) := by decide +kernel
theorem dX6_recall_58 : decode cX6_recall 58 = .ok (.getfield 16, 3) := by decide +kernel
theorem dX6_recall_61 : decode cX6_recall 61 = .ok (.getfield 122, 3) := by decide +kernel
theorem dX6_recall_64 : decode cX6_recall 64 = .ok (.iload_n 1, 1) := by decide +kernel
theorem dX6_recall_65 : decode cX6_recall 65 = .ok (.iaload, 1) := by decide +kernel
theorem dX6_recall_66 : decode cX6_recall 66 = .ok (.invokestatic 110, 3) := by decide +kernel
theorem dX6_recall_69 : decode cX6_recall 69 = .ok (.ireturn, 1) := by decide +kernel
theorem dX6_bound_0 : decode cX6_bound 0 = .ok (.iload_n 1, 1) := by decide +kernel
theorem dX6_bound_1 : decode cX6_bound 1 = .ok (.ifCond .lt 14, 3) := by decide +kernel
theorem dX6_bound_4 : decode cX6_bound 4 = .ok (.iload_n 1, 1) := by decide +kernel
theorem dX6_bound_5 : decode cX6_bound 5 = .ok (.aload_n 0, 1) := by decide +kernel
theorem dX6_bound_6 : decode cX6_bound 6 = .ok (.getfield 16, 3) := by decide +kernel
theorem dX6_bound_9 : decode cX6_bound 9 = .ok (.getfield 131, 3) := by decide +kernel
theorem dX6_bound_12 : decode cX6_bound 12 = .ok (.if_icmp .lt 6, 3) := by decide +kernel
theorem dX6_bound_15 : decode cX6_bound 15 = .ok (.bipush (-101), 2) := by decide +kernel
theorem dX6_bound_17 : decode cX6_bound 17 = .ok (.ireturn, 1) := by decide +kernel
theorem dX6_bound_18 : decode cX6_bound 18 = .ok (.iload_n 2, 1) := by decide +kernel
theorem dX6_bound_19 : decode cX6_bound 19 = .ok (.ifCond .lt 9, 3) := by decide +kernel
theorem dX6_bound_22 : decode cX6_bound 22 = .ok (.iload_n 2, 1) := by decide +kernel
theorem dX6_bound_23 : decode cX6_bound 23 = .ok (.bipush 9, 2) := by decide +kernel
theorem dX6_bound_25 : decode cX6_bound 25 = .ok (.if_icmp .le 6, 3) := by decide +kernel
theorem dX6_bound_28 : decode cX6_bound 28 = .ok (.bipush (-102), 2) := by decide +kernel
theorem dX6_bound_30 : decode cX6_bound 30 = .ok (.ireturn, 1) := by decide +kernel
theorem dX6_bound_31 : decode cX6_bound 31 = .ok (.aload_n 0, 1) := by decide +kernel
theorem dX6_bound_32 : decode cX6_bound 32 = .ok (.getfield 16, 3) := by decide +kernel
theorem dX6_bound_35 : decode cX6_bound 35 = .ok (.getfield 134, 3) := by decide +kernel
theorem dX6_bound_38 : decode cX6_bound 38 = .ok (.iload_n 1, 1) := by decide +kernel
theorem dX6_bound_39 : decode cX6_bound 39 = .ok (.iaload, 1) := by decide +kernel
theorem dX6_bound_40 : decode cX6_bound 40 = .ok (.istore_n 3, 1) := by decide +kernel
theorem dX6_bound_41 : decode cX6_bound 41 = .ok (.aload_n 0, 1) := by decide +kernel
theorem dX6_bound_42 : decode cX6_bound 42 = .ok (.getfield 16, 3) := by decide +kernel
theorem dX6_bound_45 : decode cX6_bound 45 = .ok (.getfield 134, 3) := by decide +kernel
theorem dX6_bound_48 : decode cX6_bound 48 = .ok (.iload_n 1, 1) := by decide +kernel
theorem dX6_bound_49 : decode cX6_bound 49 = .ok (.iload_n 2, 1) := by decide +kernel
theorem dX6_bound_50 : decode cX6_bound 50 = .ok (.iastore, 1) := by decide +kernel
theorem dX6_bound_51 : decode cX6_bound 51 = .ok (.iload_n 3, 1) := by decide +kernel
theorem dX6_bound_52 : decode cX6_bound 52 = .ok (.ireturn, 1) := by decide +kernel
theorem dX6_about_0 : decode cX6_about 0 = .ok (.iload_n 1, 1) := by decide +kernel
theorem dX6_about_1 : decode cX6_about 1 = .ok (.ifCond .lt 9, 3) := by decide +kernel
theorem dX6_about_4 : decode cX6_about 4 = .ok (.iload_n 1, 1) := by decide +kernel
theorem dX6_about_5 : decode cX6_about 5 = .ok (.bipush 7, 2) := by decide +kernel
theorem dX6_about_7 : decode cX6_about 7 = .ok (.if_icmp .le 6, 3) := by decide +kernel
theorem dX6_about_10 : decode cX6_about 10 = .ok (.bipush (-102), 2) := by decide +kernel
theorem dX6_about_12 : decode cX6_about 12 = .ok (.ireturn, 1) := by decide +kernel
theorem dX6_about_13 : decode cX6_about 13 = .ok (.aload_n 0, 1) := by decide +kernel
theorem dX6_about_14 : decode cX6_about 14 = .ok (.getfield 16, 3) := by decide +kernel
theorem dX6_about_17 : decode cX6_about 17 = .ok (.invokevirtual 85, 3) := by decide +kernel
theorem dX6_about_20 : decode cX6_about 20 = .ok (.ifCond .ne 6, 3) := by decide +kernel
theorem dX6_about_23 : decode cX6_about 23 = .ok (.bipush (-103), 2) := by decide +kernel
theorem dX6_about_25 : decode cX6_about 25 = .ok (.ireturn, 1) := by decide +kernel
theorem dX6_about_26 : decode cX6_about 26 = .ok (.iload_n 1, 1) := by decide +kernel
theorem dX6_about_27 : decode cX6_about 27 = .ok (.tableswitch 81 0 4 #[33, 41, 53, 65, 73], 33) := by decide +kernel
theorem dX6_about_60 : decode cX6_about 60 = .ok (.aload_n 0, 1) := by decide +kernel
theorem dX6_about_61 : decode cX6_about 61 = .ok (.getfield 16, 3) := by decide +kernel
theorem dX6_about_64 : decode cX6_about 64 = .ok (.getfield 82, 3) := by decide +kernel
theorem dX6_about_67 : decode cX6_about 67 = .ok (.ireturn, 1) := by decide +kernel
theorem dX6_about_68 : decode cX6_about 68 = .ok (.aload_n 0, 1) := by decide +kernel
theorem dX6_about_69 : decode cX6_about 69 = .ok (.getfield 16, 3) := by decide +kernel
theorem dX6_about_72 : decode cX6_about 72 = .ok (.iconst 1, 1) := by decide +kernel
theorem dX6_about_73 : decode cX6_about 73 = .ok (.invokevirtual 106, 3) := by decide +kernel
theorem dX6_about_76 : decode cX6_about 76 = .ok (.invokestatic 110, 3) := by decide +kernel
theorem dX6_about_79 : decode cX6_about 79 = .ok (.ireturn, 1) := by decide +kernel
theorem dX6_about_80 : decode cX6_about 80 = .ok (.aload_n 0, 1) := by decide +kernel
theorem dX6_about_81 : decode cX6_about 81 = .ok (.getfield 16, 3) := by decide +kernel
theorem dX6_about_84 : decode cX6_about 84 = .ok (.iconst 2, 1) := by decide +kernel
theorem dX6_about_85 : decode cX6_about 85 = .ok (.invokevirtual 106, 3) := by decide +kernel
theorem dX6_about_88 : decode cX6_about 88 = .ok (.invokestatic 110, 3) := by decide +kernel
theorem dX6_about_91 : decode cX6_about 91 = .ok (.ireturn, 1) := by decide +kernel
theorem dX6_about_92 : decode cX6_about 92 = .ok (.aload_n 0, 1) := by decide +kernel
theorem dX6_about_93 : decode cX6_about 93 = .ok (.getfield 16, 3) := by decide +kernel
theorem dX6_about_96 : decode cX6_about 96 = .ok (.invokevirtual 137, 3) := by decide +kernel
theorem dX6_about_99 : decode cX6_about 99 = .ok (.ireturn, 1) := by decide +kernel
theorem dX6_about_100 : decode cX6_about 100 = .ok (.aload_n 0, 1) := by decide +kernel
theorem dX6_about_101 : decode cX6_about 101 = .ok (.getfield 16, 3) := by decide +kernel
theorem dX6_about_104 : decode cX6_about 104 = .ok (.getfield 131, 3) := by decide +kernel
theorem dX6_about_107 : decode cX6_about 107 = .ok (.ireturn, 1) := by decide +kernel
theorem dX6_about_108 : decode cX6_about 108 = .ok (.aload_n 0, 1) := by decide +kernel
theorem dX6_about_109 : decode cX6_about 109 = .ok (.invokevirtual 140, 3) := by decide +kernel
theorem dX6_about_112 : decode cX6_about 112 = .ok (.iload_n 1, 1) := by decide +kernel
theorem dX6_about_113 : decode cX6_about 113 = .ok (.lookupswitch 43 #[(5, 27), (6, 35)], 27) := by decide +kernel
theorem dX6_about_140 : decode cX6_about 140 = .ok (.aload_n 0, 1) := by decide +kernel
theorem dX6_about_141 : decode cX6_about 141 = .ok (.getfield 45, 3) := by decide +kernel
theorem dX6_about_144 : decode cX6_about 144 = .ok (.invokevirtual 143, 3) := by decide +kernel
theorem dX6_about_147 : decode cX6_about 147 = .ok (.ireturn, 1) := by decide +kernel
theorem dX6_about_148 : decode cX6_about 148 = .ok (.aload_n 0, 1) := by decide +kernel
theorem dX6_about_149 : decode cX6_about 149 = .ok (.getfield 45, 3) := by decide +kernel
theorem dX6_about_152 : decode cX6_about 152 = .ok (.invokevirtual 148, 3) := by decide +kernel
theorem dX6_about_155 : decode cX6_about 155 = .ok (.ireturn, 1) := by decide +kernel
theorem dX6_about_156 : decode cX6_about 156 = .ok (.aload_n 0, 1) := by decide +kernel
theorem dX6_about_157 : decode cX6_about 157 = .ok (.getfield 45, 3) := by decide +kernel
theorem dX6_about_160 : decode cX6_about 160 = .ok (.aload_n 0, 1) := by decide +kernel
theorem dX6_about_161 : decode cX6_about 161 = .ok (.getfield 16, 3) := by decide +kernel
theorem dX6_about_164 : decode cX6_about 164 = .ok (.invokevirtual 151, 3) := by decide +kernel
theorem dX6_about_167 : decode cX6_about 167 = .ok (.invokevirtual 154, 3) := by decide +kernel
theorem dX6_about_170 : decode cX6_about 170 = .ok (.ireturn, 1) := by decide +kernel
theorem dX6_person_0 : decode cX6_person 0 = .ok (.aload_n 0, 1) := by decide +kernel
theorem dX6_person_1 : decode cX6_person 1 = .ok (.getfield 16, 3) := by decide +kernel
theorem dX6_person_4 : decode cX6_person 4 = .ok (.iload_n 1, 1) := by decide +kernel
theorem dX6_person_5 : decode cX6_person 5 = .ok (.invokevirtual 97, 3) := by decide +kernel
theorem dX6_person_8 : decode cX6_person 8 = .ok (.ifCond .ne 6, 3) := by decide +kernel
theorem dX6_person_11 : decode cX6_person 11 = .ok (.bipush (-101), 2) := by decide +kernel
theorem dX6_person_13 : decode cX6_person 13 = .ok (.ireturn, 1) := by decide +kernel
theorem dX6_person_14 : decode cX6_person 14 = .ok (.iload_n 2, 1) := by decide +kernel
theorem dX6_person_15 : decode cX6_person 15 = .ok (.ifCond .lt 9, 3) := by decide +kernel
theorem dX6_person_18 : decode cX6_person 18 = .ok (.iload_n 2, 1) := by decide +kernel
theorem dX6_person_19 : decode cX6_person 19 = .ok (.bipush 7, 2) := by decide +kernel
theorem dX6_person_21 : decode cX6_person 21 = .ok (.if_icmp .le 6, 3) := by decide +kernel
theorem dX6_person_24 : decode cX6_person 24 = .ok (.bipush (-102), 2) := by decide +kernel
theorem dX6_person_26 : decode cX6_person 26 = .ok (.ireturn, 1) := by decide +kernel
theorem dX6_person_27 : decode cX6_person 27 = .ok (.iload_n 2, 1) := by decide +kernel
theorem dX6_person_28 : decode cX6_person 28 = .ok (.tableswitch 89 0 7 #[48, 89, 89, 58, 71, 89, 89, 83], 48) := by decide +kernel
theorem dX6_person_76 : decode cX6_person 76 = .ok (.aload_n 0, 1) := by decide +kernel
theorem dX6_person_77 : decode cX6_person 77 = .ok (.getfield 16, 3) := by decide +kernel
theorem dX6_person_80 : decode cX6_person 80 = .ok (.getfield 103, 3) := by decide +kernel
theorem dX6_person_83 : decode cX6_person 83 = .ok (.iload_n 1, 1) := by decide +kernel
theorem dX6_person_84 : decode cX6_person 84 = .ok (.iaload, 1) := by decide +kernel
theorem dX6_person_85 : decode cX6_person 85 = .ok (.ireturn, 1) := by decide +kernel
theorem dX6_person_86 : decode cX6_person 86 = .ok (.aload_n 0, 1) := by decide +kernel
theorem dX6_person_87 : decode cX6_person 87 = .ok (.getfield 16, 3) := by decide +kernel
theorem dX6_person_90 : decode cX6_person 90 = .ok (.getfield 122, 3) := by decide +kernel
theorem dX6_person_93 : decode cX6_person 93 = .ok (.iload_n 1, 1) := by decide +kernel
theorem dX6_person_94 : decode cX6_person 94 = .ok (.iaload, 1) := by decide +kernel
theorem dX6_person_95 : decode cX6_person 95 = .ok (.invokestatic 110, 3) := by decide +kernel
theorem dX6_person_98 : decode cX6_person 98 = .ok (.ireturn, 1) := by decide +kernel
theorem dX6_person_99 : decode cX6_person 99 = .ok (.aload_n 0, 1) := by decide +kernel
theorem dX6_person_100 : decode cX6_person 100 = .ok (.getfield 16, 3) := by decide +kernel
theorem dX6_person_103 : decode cX6_person 103 = .ok (.iload_n 1, 1) := by decide +kernel
theorem dX6_person_104 : decode cX6_person 104 = .ok (.invokevirtual 157, 3) := by decide +kernel
theorem dX6_person_107 : decode cX6_person 107 = .ok (.invokestatic 110, 3) := by decide +kernel
theorem dX6_person_110 : decode cX6_person 110 = .ok (.ireturn, 1) := by decide +kernel
theorem dX6_person_111 : decode cX6_person 111 = .ok (.aload_n 0, 1) := by decide +kernel
theorem dX6_person_112 : decode cX6_person 112 = .ok (.iload_n 1, 1) := by decide +kernel
theorem dX6_person_113 : decode cX6_person 113 = .ok (.invokevirtual 160, 3) := by decide +kernel
theorem dX6_person_116 : decode cX6_person 116 = .ok (.ireturn, 1) := by decide +kernel
theorem dX6_person_117 : decode cX6_person 117 = .ok (.aload_n 0, 1) := by decide +kernel
theorem dX6_person_118 : decode cX6_person 118 = .ok (.invokevirtual 140, 3) := by decide +kernel
theorem dX6_person_121 : decode cX6_person 121 = .ok (.iload_n 2, 1) := by decide +kernel
theorem dX6_person_122 : decode cX6_person 122 = .ok (.tableswitch 70 1 5 #[34, 44, 70, 70, 54], 34) := by decide +kernel
theorem dX6_person_156 : decode cX6_person 156 = .ok (.aload_n 0, 1) := by decide +kernel
theorem dX6_person_157 : decode cX6_person 157 = .ok (.getfield 45, 3) := by decide +kernel
theorem dX6_person_160 : decode cX6_person 160 = .ok (.getfield 163, 3) := by decide +kernel
theorem dX6_person_163 : decode cX6_person 163 = .ok (.iload_n 1, 1) := by decide +kernel
theorem dX6_person_164 : decode cX6_person 164 = .ok (.iaload, 1) := by decide +kernel
theorem dX6_person_165 : decode cX6_person 165 = .ok (.ireturn, 1) := by decide +kernel
theorem dX6_person_166 : decode cX6_person 166 = .ok (.aload_n 0, 1) := by decide +kernel
theorem dX6_person_167 : decode cX6_person 167 = .ok (.getfield 45, 3) := by decide +kernel
theorem dX6_person_170 : decode cX6_person 170 = .ok (.getfield 166, 3) := by decide +kernel
theorem dX6_person_173 : decode cX6_person 173 = .ok (.iload_n 1, 1) := by decide +kernel
theorem dX6_person_174 : decode cX6_person 174 = .ok (.iaload, 1) := by decide +kernel
theorem dX6_person_175 : decode cX6_person 175 = .ok (.ireturn, 1) := by decide +kernel
theorem dX6_person_176 : decode cX6_person 176 = .ok (.aload_n 0, 1) := by decide +kernel
theorem dX6_person_177 : decode cX6_person 177 = .ok (.aload_n 0, 1) := by decide +kernel
theorem dX6_person_178 : decode cX6_person 178 = .ok (.getfield 16, 3) := by decide +kernel
theorem dX6_person_181 : decode cX6_person 181 = .ok (.invokevirtual 151, 3) := by decide +kernel
theorem dX6_person_184 : decode cX6_person 184 = .ok (.invokevirtual 169, 3) := by decide +kernel
theorem dX6_person_187 : decode cX6_person 187 = .ok (.iload_n 1, 1) := by decide +kernel
theorem dX6_person_188 : decode cX6_person 188 = .ok (.invokestatic 172, 3) := by decide +kernel
theorem dX6_person_191 : decode cX6_person 191 = .ok (.ireturn, 1) := by decide +kernel
theorem dX6_person_192 : decode cX6_person 192 = .ok (.aload_n 0, 1) := by decide +kernel
theorem dX6_person_193 : decode cX6_person 193 = .ok (.invokevirtual 176, 3) := by decide +kernel
theorem dX6_person_196 : decode cX6_person 196 = .ok (.iload_n 1, 1) := by decide +kernel
theorem dX6_person_197 : decode cX6_person 197 = .ok (.invokestatic 172, 3) := by decide +kernel
theorem dX6_person_200 : decode cX6_person 200 = .ok (.ireturn, 1) := by decide +kernel
theorem dX6_vouches_0 : decode cX6_vouches 0 = .ok (.aload_n 0, 1) := by decide +kernel
theorem dX6_vouches_1 : decode cX6_vouches 1 = .ok (.getfield 16, 3) := by decide +kernel
theorem dX6_vouches_4 : decode cX6_vouches 4 = .ok (.iload_n 1, 1) := by decide +kernel
theorem dX6_vouches_5 : decode cX6_vouches 5 = .ok (.iload_n 2, 1) := by decide +kernel
theorem dX6_vouches_6 : decode cX6_vouches 6 = .ok (.invokevirtual 115, 3) := by decide +kernel
theorem dX6_vouches_9 : decode cX6_vouches 9 = .ok (.ifCond .ne 6, 3) := by decide +kernel
theorem dX6_vouches_12 : decode cX6_vouches 12 = .ok (.bipush (-101), 2) := by decide +kernel
theorem dX6_vouches_14 : decode cX6_vouches 14 = .ok (.ireturn, 1) := by decide +kernel
theorem dX6_vouches_15 : decode cX6_vouches 15 = .ok (.aload_n 0, 1) := by decide +kernel
theorem dX6_vouches_16 : decode cX6_vouches 16 = .ok (.getfield 16, 3) := by decide +kernel
theorem dX6_vouches_19 : decode cX6_vouches 19 = .ok (.getfield 122, 3) := by decide +kernel
theorem dX6_vouches_22 : decode cX6_vouches 22 = .ok (.iload_n 1, 1) := by decide +kernel
theorem dX6_vouches_23 : decode cX6_vouches 23 = .ok (.iaload, 1) := by decide +kernel
theorem dX6_vouches_24 : decode cX6_vouches 24 = .ok (.iload_n 2, 1) := by decide +kernel
theorem dX6_vouches_25 : decode cX6_vouches 25 = .ok (.invokestatic 172, 3) := by decide +kernel
theorem dX6_vouches_28 : decode cX6_vouches 28 = .ok (.ireturn, 1) := by decide +kernel
theorem dX6_generous_0 : decode cX6_generous 0 = .ok (.aload_n 0, 1) := by decide +kernel
theorem dX6_generous_1 : decode cX6_generous 1 = .ok (.getfield 16, 3) := by decide +kernel
theorem dX6_generous_4 : decode cX6_generous 4 = .ok (.invokevirtual 85, 3) := by decide +kernel
theorem dX6_generous_7 : decode cX6_generous 7 = .ok (.ifCond .ne 6, 3) := by decide +kernel
theorem dX6_generous_10 : decode cX6_generous 10 = .ok (.bipush (-103), 2) := by decide +kernel
theorem dX6_generous_12 : decode cX6_generous 12 = .ok (.ireturn, 1) := by decide +kernel
theorem dX6_generous_13 : decode cX6_generous 13 = .ok (.iconst (-1), 1) := by decide +kernel
theorem dX6_generous_14 : decode cX6_generous 14 = .ok (.istore_n 1, 1) := by decide +kernel
theorem dX6_generous_15 : decode cX6_generous 15 = .ok (.iconst 0, 1) := by decide +kernel
theorem dX6_generous_16 : decode cX6_generous 16 = .ok (.istore_n 2, 1) := by decide +kernel
theorem dX6_generous_17 : decode cX6_generous 17 = .ok (.iconst 0, 1) := by decide +kernel
theorem dX6_generous_18 : decode cX6_generous 18 = .ok (.istore_n 3, 1) := by decide +kernel
theorem dX6_generous_19 : decode cX6_generous 19 = .ok (.iconst 0, 1) := by decide +kernel
theorem dX6_generous_20 : decode cX6_generous 20 = .ok (.istore 4, 2) := by decide +kernel
theorem dX6_generous_22 : decode cX6_generous 22 = .ok (.iload 4, 2) := by decide +kernel
theorem dX6_generous_24 : decode cX6_generous 24 = .ok (.aload_n 0, 1) := by decide +kernel
theorem dX6_generous_25 : decode cX6_generous 25 = .ok (.getfield 16, 3) := by decide +kernel
theorem dX6_generous_28 : decode cX6_generous 28 = .ok (.getfield 82, 3) := by decide +kernel
theorem dX6_generous_31 : decode cX6_generous 31 = .ok (.if_icmp .ge 68, 3) := by decide +kernel
theorem dX6_generous_34 : decode cX6_generous 34 = .ok (.aload_n 0, 1) := by decide +kernel
theorem dX6_generous_35 : decode cX6_generous 35 = .ok (.getfield 16, 3) := by decide +kernel
theorem dX6_generous_38 : decode cX6_generous 38 = .ok (.getfield 122, 3) := by decide +kernel
theorem dX6_generous_41 : decode cX6_generous 41 = .ok (.iload 4, 2) := by decide +kernel
theorem dX6_generous_43 : decode cX6_generous 43 = .ok (.iaload, 1) := by decide +kernel
theorem dX6_generous_44 : decode cX6_generous 44 = .ok (.invokestatic 110, 3) := by decide +kernel
theorem dX6_generous_47 : decode cX6_generous 47 = .ok (.istore 5, 2) := by decide +kernel
theorem dX6_generous_49 : decode cX6_generous 49 = .ok (.aload_n 0, 1) := by decide +kernel
theorem dX6_generous_50 : decode cX6_generous 50 = .ok (.getfield 16, 3) := by decide +kernel
theorem dX6_generous_53 : decode cX6_generous 53 = .ok (.iload 4, 2) := by decide +kernel
theorem dX6_generous_55 : decode cX6_generous 55 = .ok (.invokevirtual 157, 3) := by decide +kernel
theorem dX6_generous_58 : decode cX6_generous 58 = .ok (.invokestatic 110, 3) := by decide +kernel
theorem dX6_generous_61 : decode cX6_generous 61 = .ok (.istore 6, 2) := by decide +kernel
theorem dX6_generous_63 : decode cX6_generous 63 = .ok (.iload 6, 2) := by decide +kernel
theorem dX6_generous_65 : decode cX6_generous 65 = .ok (.ifCond .le 28, 3) := by decide +kernel
theorem dX6_generous_68 : decode cX6_generous 68 = .ok (.iload_n 1, 1) := by decide +kernel
theorem dX6_generous_69 : decode cX6_generous 69 = .ok (.iconst (-1), 1) := by decide +kernel
theorem dX6_generous_70 : decode cX6_generous 70 = .ok (.if_icmp .eq 14, 3) := by decide +kernel
theorem dX6_generous_73 : decode cX6_generous 73 = .ok (.iload 5, 2) := by decide +kernel
theorem dX6_generous_75 : decode cX6_generous 75 = .ok (.iload_n 3, 1) := by decide +kernel
theorem dX6_generous_76 : decode cX6_generous 76 = .ok (.imul, 1) := by decide +kernel
theorem dX6_generous_77 : decode cX6_generous 77 = .ok (.iload_n 2, 1) := by decide +kernel
theorem dX6_generous_78 : decode cX6_generous 78 = .ok (.iload 6, 2) := by decide +kernel
theorem dX6_generous_80 : decode cX6_generous 80 = .ok (.imul, 1) := by decide +kernel
theorem dX6_generous_81 : decode cX6_generous 81 = .ok (.if_icmp .le 12, 3) := by decide +kernel
theorem dX6_generous_84 : decode cX6_generous 84 = .ok (.iload 4, 2) := by decide +kernel
theorem dX6_generous_86 : decode cX6_generous 86 = .ok (.istore_n 1, 1) := by decide +kernel
theorem dX6_generous_87 : decode cX6_generous 87 = .ok (.iload 5, 2) := by decide +kernel
theorem dX6_generous_89 : decode cX6_generous 89 = .ok (.istore_n 2, 1) := by decide +kernel
theorem dX6_generous_90 : decode cX6_generous 90 = .ok (.iload 6, 2) := by decide +kernel
theorem dX6_generous_92 : decode cX6_generous 92 = .ok (.istore_n 3, 1) := by decide +kernel
theorem dX6_generous_93 : decode cX6_generous 93 = .ok (.iinc 4 1, 3) := by decide +kernel
theorem dX6_generous_96 : decode cX6_generous 96 = .ok (.goto (-74), 3) := by decide +kernel
theorem dX6_generous_99 : decode cX6_generous 99 = .ok (.iload_n 1, 1) := by decide +kernel
theorem dX6_generous_100 : decode cX6_generous 100 = .ok (.ireturn, 1) := by decide +kernel
theorem dX6_trust_0 : decode cX6_trust 0 = .ok (.iload_n 1, 1) := by decide +kernel
theorem dX6_trust_1 : decode cX6_trust 1 = .ok (.ifCond .lt 8, 3) := by decide +kernel
theorem dX6_trust_4 : decode cX6_trust 4 = .ok (.iload_n 1, 1) := by decide +kernel
theorem dX6_trust_5 : decode cX6_trust 5 = .ok (.iconst 4, 1) := by decide +kernel
theorem dX6_trust_6 : decode cX6_trust 6 = .ok (.if_icmp .le 6, 3) := by decide +kernel
theorem dX6_trust_9 : decode cX6_trust 9 = .ok (.bipush (-102), 2) := by decide +kernel
theorem dX6_trust_11 : decode cX6_trust 11 = .ok (.ireturn, 1) := by decide +kernel
theorem dX6_trust_12 : decode cX6_trust 12 = .ok (.aload_n 0, 1) := by decide +kernel
theorem dX6_trust_13 : decode cX6_trust 13 = .ok (.getfield 16, 3) := by decide +kernel
theorem dX6_trust_16 : decode cX6_trust 16 = .ok (.invokevirtual 85, 3) := by decide +kernel
theorem dX6_trust_19 : decode cX6_trust 19 = .ok (.ifCond .ne 6, 3) := by decide +kernel
theorem dX6_trust_22 : decode cX6_trust 22 = .ok (.bipush (-103), 2) := by decide +kernel
theorem dX6_trust_24 : decode cX6_trust 24 = .ok (.ireturn, 1) := by decide +kernel
theorem dX6_trust_25 : decode cX6_trust 25 = .ok (.aload_n 0, 1) := by decide +kernel
theorem dX6_trust_26 : decode cX6_trust 26 = .ok (.getfield 16, 3) := by decide +kernel
theorem dX6_trust_29 : decode cX6_trust 29 = .ok (.iconst 2, 1) := by decide +kernel
theorem dX6_trust_30 : decode cX6_trust 30 = .ok (.invokevirtual 106, 3) := by decide +kernel
theorem dX6_trust_33 : decode cX6_trust 33 = .ok (.istore_n 2, 1) := by decide +kernel
theorem dX6_trust_34 : decode cX6_trust 34 = .ok (.iload_n 1, 1) := by decide +kernel
theorem dX6_trust_35 : decode cX6_trust 35 = .ok (.iconst 4, 1) := by decide +kernel
theorem dX6_trust_36 : decode cX6_trust 36 = .ok (.if_icmp .ne 36, 3) := by decide +kernel
theorem dX6_trust_39 : decode cX6_trust 39 = .ok (.aload_n 0, 1) := by decide +kernel
theorem dX6_trust_40 : decode cX6_trust 40 = .ok (.getfield 45, 3) := by decide +kernel
theorem dX6_trust_43 : decode cX6_trust 43 = .ok (.aload_n 0, 1) := by decide +kernel
theorem dX6_trust_44 : decode cX6_trust 44 = .ok (.getfield 16, 3) := by decide +kernel
theorem dX6_trust_47 : decode cX6_trust 47 = .ok (.invokevirtual 179, 3) := by decide +kernel
theorem dX6_trust_50 : decode cX6_trust 50 = .ok (.aload_n 0, 1) := by decide +kernel
theorem dX6_trust_51 : decode cX6_trust 51 = .ok (.getfield 45, 3) := by decide +kernel
theorem dX6_trust_54 : decode cX6_trust 54 = .ok (.iload_n 2, 1) := by decide +kernel
theorem dX6_trust_55 : decode cX6_trust 55 = .ok (.invokevirtual 182, 3) := by decide +kernel
theorem dX6_trust_58 : decode cX6_trust 58 = .ok (.aload_n 0, 1) := by decide +kernel
theorem dX6_trust_59 : decode cX6_trust 59 = .ok (.getfield 45, 3) := by decide +kernel
theorem dX6_trust_62 : decode cX6_trust 62 = .ok (.aload_n 0, 1) := by decide +kernel
theorem dX6_trust_63 : decode cX6_trust 63 = .ok (.getfield 16, 3) := by decide +kernel
theorem dX6_trust_66 : decode cX6_trust 66 = .ok (.invokevirtual 186, 3) := by decide +kernel
theorem dX6_trust_69 : decode cX6_trust 69 = .ok (.goto 7, 3) := by decide +kernel
theorem dX6_trust_72 : decode cX6_trust 72 = .ok (.aload_n 0, 1) := by decide +kernel
theorem dX6_trust_73 : decode cX6_trust 73 = .ok (.invokevirtual 140, 3) := by decide +kernel
theorem dX6_trust_76 : decode cX6_trust 76 = .ok (.iload_n 1, 1) := by decide +kernel
theorem dX6_trust_77 : decode cX6_trust 77 = .ok (.tableswitch 65 1 3 #[27, 44, 53], 27) := by decide +kernel
theorem dX6_trust_104 : decode cX6_trust 104 = .ok (.aload_n 0, 1) := by decide +kernel
theorem dX6_trust_105 : decode cX6_trust 105 = .ok (.aload_n 0, 1) := by decide +kernel
theorem dX6_trust_106 : decode cX6_trust 106 = .ok (.getfield 16, 3) := by decide +kernel
theorem dX6_trust_109 : decode cX6_trust 109 = .ok (.invokevirtual 151, 3) := by decide +kernel
theorem dX6_trust_112 : decode cX6_trust 112 = .ok (.invokevirtual 169, 3) := by decide +kernel
theorem dX6_trust_115 : decode cX6_trust 115 = .ok (.iload_n 2, 1) := by decide +kernel
theorem dX6_trust_116 : decode cX6_trust 116 = .ok (.iand, 1) := by decide +kernel
theorem dX6_trust_117 : decode cX6_trust 117 = .ok (.invokestatic 110, 3) := by decide +kernel
theorem dX6_trust_120 : decode cX6_trust 120 = .ok (.ireturn, 1) := by decide +kernel
theorem dX6_trust_121 : decode cX6_trust 121 = .ok (.aload_n 0, 1) := by decide +kernel
theorem dX6_trust_122 : decode cX6_trust 122 = .ok (.iload_n 2, 1) := by decide +kernel
theorem dX6_trust_123 : decode cX6_trust 123 = .ok (.invokevirtual 169, 3) := by decide +kernel
theorem dX6_trust_126 : decode cX6_trust 126 = .ok (.invokestatic 110, 3) := by decide +kernel
theorem dX6_trust_129 : decode cX6_trust 129 = .ok (.ireturn, 1) := by decide +kernel
theorem dX6_trust_130 : decode cX6_trust 130 = .ok (.aload_n 0, 1) := by decide +kernel
theorem dX6_trust_131 : decode cX6_trust 131 = .ok (.getfield 45, 3) := by decide +kernel
theorem dX6_trust_134 : decode cX6_trust 134 = .ok (.aload_n 0, 1) := by decide +kernel
theorem dX6_trust_135 : decode cX6_trust 135 = .ok (.invokevirtual 176, 3) := by decide +kernel
theorem dX6_trust_138 : decode cX6_trust 138 = .ok (.invokevirtual 154, 3) := by decide +kernel
theorem dX6_trust_141 : decode cX6_trust 141 = .ok (.ireturn, 1) := by decide +kernel
theorem dX6_trust_142 : decode cX6_trust 142 = .ok (.aload_n 0, 1) := by decide +kernel
theorem dX6_trust_143 : decode cX6_trust 143 = .ok (.aload_n 0, 1) := by decide +kernel
theorem dX6_trust_144 : decode cX6_trust 144 = .ok (.getfield 16, 3) := by decide +kernel
theorem dX6_trust_147 : decode cX6_trust 147 = .ok (.invokevirtual 151, 3) := by decide +kernel
theorem dX6_trust_150 : decode cX6_trust 150 = .ok (.invokevirtual 169, 3) := by decide +kernel
theorem dX6_trust_153 : decode cX6_trust 153 = .ok (.invokestatic 110, 3) := by decide +kernel
theorem dX6_trust_156 : decode cX6_trust 156 = .ok (.ireturn, 1) := by decide +kernel
theorem dX6_together_0 : decode cX6_together 0 = .ok (.aload_n 0, 1) := by decide +kernel
theorem dX6_together_1 : decode cX6_together 1 = .ok (.getfield 16, 3) := by decide +kernel
theorem dX6_together_4 : decode cX6_together 4 = .ok (.invokevirtual 85, 3) := by decide +kernel
theorem dX6_together_7 : decode cX6_together 7 = .ok (.ifCond .ne 6, 3) := by decide +kernel
theorem dX6_together_10 : decode cX6_together 10 = .ok (.bipush (-103), 2) := by decide +kernel
theorem dX6_together_12 : decode cX6_together 12 = .ok (.ireturn, 1) := by decide +kernel
theorem dX6_together_13 : decode cX6_together 13 = .ok (.iload_n 1, 1) := by decide +kernel
theorem dX6_together_14 : decode cX6_together 14 = .ok (.aload_n 0, 1) := by decide +kernel
theorem dX6_together_15 : decode cX6_together 15 = .ok (.getfield 16, 3) := by decide +kernel
theorem dX6_together_18 : decode cX6_together 18 = .ok (.invokevirtual 151, 3) := by decide +kernel
theorem dX6_together_21 : decode cX6_together 21 = .ok (.iconst (-1), 1) := by decide +kernel
theorem dX6_together_22 : decode cX6_together 22 = .ok (.ixor, 1) := by decide +kernel
theorem dX6_together_23 : decode cX6_together 23 = .ok (.iand, 1) := by decide +kernel
theorem dX6_together_24 : decode cX6_together 24 = .ok (.ifCond .eq 6, 3) := by decide +kernel
theorem dX6_together_27 : decode cX6_together 27 = .ok (.bipush (-101), 2) := by decide +kernel
theorem dX6_together_29 : decode cX6_together 29 = .ok (.ireturn, 1) := by decide +kernel
theorem dX6_together_30 : decode cX6_together 30 = .ok (.aload_n 0, 1) := by decide +kernel
theorem dX6_together_31 : decode cX6_together 31 = .ok (.invokevirtual 140, 3) := by decide +kernel
theorem dX6_together_34 : decode cX6_together 34 = .ok (.aload_n 0, 1) := by decide +kernel
theorem dX6_together_35 : decode cX6_together 35 = .ok (.iload_n 1, 1) := by decide +kernel
theorem dX6_together_36 : decode cX6_together 36 = .ok (.invokevirtual 169, 3) := by decide +kernel
theorem dX6_together_39 : decode cX6_together 39 = .ok (.iload_n 1, 1) := by decide +kernel
theorem dX6_together_40 : decode cX6_together 40 = .ok (.if_icmp .ne 7, 3) := by decide +kernel
theorem dX6_together_43 : decode cX6_together 43 = .ok (.iconst 1, 1) := by decide +kernel
theorem dX6_together_44 : decode cX6_together 44 = .ok (.goto 4, 3) := by decide +kernel
theorem dX6_together_47 : decode cX6_together 47 = .ok (.iconst 0, 1) := by decide +kernel
theorem dX6_together_48 : decode cX6_together 48 = .ok (.ireturn, 1) := by decide +kernel
theorem dX6_cut_0 : decode cX6_cut 0 = .ok (.iload_n 1, 1) := by decide +kernel
theorem dX6_cut_1 : decode cX6_cut 1 = .ok (.ifCond .lt 8, 3) := by decide +kernel
theorem dX6_cut_4 : decode cX6_cut 4 = .ok (.iload_n 1, 1) := by decide +kernel
theorem dX6_cut_5 : decode cX6_cut 5 = .ok (.iconst 2, 1) := by decide +kernel
theorem dX6_cut_6 : decode cX6_cut 6 = .ok (.if_icmp .le 6, 3) := by decide +kernel
theorem dX6_cut_9 : decode cX6_cut 9 = .ok (.bipush (-102), 2) := by decide +kernel
theorem dX6_cut_11 : decode cX6_cut 11 = .ok (.ireturn, 1) := by decide +kernel
theorem dX6_cut_12 : decode cX6_cut 12 = .ok (.aload_n 0, 1) := by decide +kernel
theorem dX6_cut_13 : decode cX6_cut 13 = .ok (.getfield 16, 3) := by decide +kernel
theorem dX6_cut_16 : decode cX6_cut 16 = .ok (.invokevirtual 85, 3) := by decide +kernel
theorem dX6_cut_19 : decode cX6_cut 19 = .ok (.ifCond .ne 6, 3) := by decide +kernel
theorem dX6_cut_22 : decode cX6_cut 22 = .ok (.bipush (-103), 2) := by decide +kernel
theorem dX6_cut_24 : decode cX6_cut 24 = .ok (.ireturn, 1) := by decide +kernel
theorem dX6_cut_25 : decode cX6_cut 25 = .ok (.aload_n 0, 1) := by decide +kernel
theorem dX6_cut_26 : decode cX6_cut 26 = .ok (.getfield 16, 3) := by decide +kernel
theorem dX6_cut_29 : decode cX6_cut 29 = .ok (.iconst 2, 1) := by decide +kernel
theorem dX6_cut_30 : decode cX6_cut 30 = .ok (.invokevirtual 106, 3) := by decide +kernel
theorem dX6_cut_33 : decode cX6_cut 33 = .ok (.istore_n 2, 1) := by decide +kernel
theorem dX6_cut_34 : decode cX6_cut 34 = .ok (.aload_n 0, 1) := by decide +kernel
theorem dX6_cut_35 : decode cX6_cut 35 = .ok (.invokevirtual 140, 3) := by decide +kernel
theorem dX6_cut_38 : decode cX6_cut 38 = .ok (.aload_n 0, 1) := by decide +kernel
theorem dX6_cut_39 : decode cX6_cut 39 = .ok (.iload_n 2, 1) := by decide +kernel
theorem dX6_cut_40 : decode cX6_cut 40 = .ok (.invokevirtual 169, 3) := by decide +kernel
theorem dX6_cut_43 : decode cX6_cut 43 = .ok (.pop, 1) := by decide +kernel
theorem dX6_cut_44 : decode cX6_cut 44 = .ok (.aload_n 0, 1) := by decide +kernel
theorem dX6_cut_45 : decode cX6_cut 45 = .ok (.getfield 37, 3) := by decide +kernel
theorem dX6_cut_48 : decode cX6_cut 48 = .ok (.invokevirtual 189, 3) := by decide +kernel
theorem dX6_cut_51 : decode cX6_cut 51 = .ok (.istore_n 3, 1) := by decide +kernel
theorem dX6_cut_52 : decode cX6_cut 52 = .ok (.aload_n 0, 1) := by decide +kernel
theorem dX6_cut_53 : decode cX6_cut 53 = .ok (.getfield 45, 3) := by decide +kernel
theorem dX6_cut_56 : decode cX6_cut 56 = .ok (.getfield 192, 3) := by decide +kernel
theorem dX6_cut_59 : decode cX6_cut 59 = .ok (.aload_n 0, 1) := by decide +kernel
theorem dX6_cut_60 : decode cX6_cut 60 = .ok (.getfield 45, 3) := by decide +kernel
theorem dX6_cut_63 : decode cX6_cut 63 = .ok (.iload_n 3, 1) := by decide +kernel
theorem dX6_cut_64 : decode cX6_cut 64 = .ok (.invokevirtual 195, 3) := by decide +kernel
theorem dX6_cut_67 : decode cX6_cut 67 = .ok (.ior, 1) := by decide +kernel
theorem dX6_cut_68 : decode cX6_cut 68 = .ok (.iload_n 3, 1) := by decide +kernel
theorem dX6_cut_69 : decode cX6_cut 69 = .ok (.iconst (-1), 1) := by decide +kernel
theorem dX6_cut_70 : decode cX6_cut 70 = .ok (.ixor, 1) := by decide +kernel
theorem dX6_cut_71 : decode cX6_cut 71 = .ok (.iand, 1) := by decide +kernel
theorem dX6_cut_72 : decode cX6_cut 72 = .ok (.istore 4, 2) := by decide +kernel
theorem dX6_cut_74 : decode cX6_cut 74 = .ok (.iload_n 1, 1) := by decide +kernel
theorem dX6_cut_75 : decode cX6_cut 75 = .ok (.lookupswitch 45 #[(0, 25), (1, 42)], 25) := by decide +kernel
theorem dX6_cut_100 : decode cX6_cut 100 = .ok (.aload_n 0, 1) := by decide +kernel
theorem dX6_cut_101 : decode cX6_cut 101 = .ok (.getfield 45, 3) := by decide +kernel
theorem dX6_cut_104 : decode cX6_cut 104 = .ok (.iload 4, 2) := by decide +kernel
theorem dX6_cut_106 : decode cX6_cut 106 = .ok (.invokevirtual 154, 3) := by decide +kernel
theorem dX6_cut_109 : decode cX6_cut 109 = .ok (.iload_n 3, 1) := by decide +kernel
theorem dX6_cut_110 : decode cX6_cut 110 = .ok (.iload_n 2, 1) := by decide +kernel
theorem dX6_cut_111 : decode cX6_cut 111 = .ok (.iand, 1) := by decide +kernel
theorem dX6_cut_112 : decode cX6_cut 112 = .ok (.invokestatic 110, 3) := by decide +kernel
theorem dX6_cut_115 : decode cX6_cut 115 = .ok (.iadd, 1) := by decide +kernel
theorem dX6_cut_116 : decode cX6_cut 116 = .ok (.ireturn, 1) := by decide +kernel
theorem dX6_cut_117 : decode cX6_cut 117 = .ok (.iload 4, 2) := by decide +kernel
theorem dX6_cut_119 : decode cX6_cut 119 = .ok (.ireturn, 1) := by decide +kernel
theorem dX6_cut_120 : decode cX6_cut 120 = .ok (.iload_n 3, 1) := by decide +kernel
theorem dX6_cut_121 : decode cX6_cut 121 = .ok (.ireturn, 1) := by decide +kernel
theorem dX6_apart_0 : decode cX6_apart 0 = .ok (.aload_n 0, 1) := by decide +kernel
theorem dX6_apart_1 : decode cX6_apart 1 = .ok (.getfield 16, 3) := by decide +kernel
theorem dX6_apart_4 : decode cX6_apart 4 = .ok (.iload_n 1, 1) := by decide +kernel
theorem dX6_apart_5 : decode cX6_apart 5 = .ok (.invokevirtual 97, 3) := by decide +kernel
theorem dX6_apart_8 : decode cX6_apart 8 = .ok (.ifCond .ne 6, 3) := by decide +kernel
theorem dX6_apart_11 : decode cX6_apart 11 = .ok (.bipush (-101), 2) := by decide +kernel
theorem dX6_apart_13 : decode cX6_apart 13 = .ok (.ireturn, 1) := by decide +kernel
theorem dX6_apart_14 : decode cX6_apart 14 = .ok (.aload_n 0, 1) := by decide +kernel
theorem dX6_apart_15 : decode cX6_apart 15 = .ok (.getfield 16, 3) := by decide +kernel
theorem dX6_apart_18 : decode cX6_apart 18 = .ok (.getfield 103, 3) := by decide +kernel
theorem dX6_apart_21 : decode cX6_apart 21 = .ok (.iload_n 1, 1) := by decide +kernel
theorem dX6_apart_22 : decode cX6_apart 22 = .ok (.iaload, 1) := by decide +kernel
theorem dX6_apart_23 : decode cX6_apart 23 = .ok (.iconst 1, 1) := by decide +kernel
theorem dX6_apart_24 : decode cX6_apart 24 = .ok (.if_icmp .ne 5, 3) := by decide +kernel
theorem dX6_apart_27 : decode cX6_apart 27 = .ok (.iconst (-1), 1) := by decide +kernel
theorem dX6_apart_28 : decode cX6_apart 28 = .ok (.ireturn, 1) := by decide +kernel
theorem dX6_apart_29 : decode cX6_apart 29 = .ok (.aload_n 0, 1) := by decide +kernel
theorem dX6_apart_30 : decode cX6_apart 30 = .ok (.iload_n 1, 1) := by decide +kernel
theorem dX6_apart_31 : decode cX6_apart 31 = .ok (.invokevirtual 160, 3) := by decide +kernel
theorem dX6_apart_34 : decode cX6_apart 34 = .ok (.istore_n 2, 1) := by decide +kernel
theorem dX6_apart_35 : decode cX6_apart 35 = .ok (.aload_n 0, 1) := by decide +kernel
theorem dX6_apart_36 : decode cX6_apart 36 = .ok (.getfield 16, 3) := by decide +kernel
theorem dX6_apart_39 : decode cX6_apart 39 = .ok (.invokevirtual 151, 3) := by decide +kernel
theorem dX6_apart_42 : decode cX6_apart 42 = .ok (.iconst 1, 1) := by decide +kernel
theorem dX6_apart_43 : decode cX6_apart 43 = .ok (.iload_n 1, 1) := by decide +kernel
theorem dX6_apart_44 : decode cX6_apart 44 = .ok (.ishl, 1) := by decide +kernel
theorem dX6_apart_45 : decode cX6_apart 45 = .ok (.iconst (-1), 1) := by decide +kernel
theorem dX6_apart_46 : decode cX6_apart 46 = .ok (.ixor, 1) := by decide +kernel
theorem dX6_apart_47 : decode cX6_apart 47 = .ok (.iand, 1) := by decide +kernel
theorem dX6_apart_48 : decode cX6_apart 48 = .ok (.istore_n 3, 1) := by decide +kernel
theorem dX6_apart_49 : decode cX6_apart 49 = .ok (.iconst 0, 1) := by decide +kernel
theorem dX6_apart_50 : decode cX6_apart 50 = .ok (.istore 4, 2) := by decide +kernel
theorem dX6_apart_52 : decode cX6_apart 52 = .ok (.iload 4, 2) := by decide +kernel
theorem dX6_apart_54 : decode cX6_apart 54 = .ok (.iload_n 3, 1) := by decide +kernel
theorem dX6_apart_55 : decode cX6_apart 55 = .ok (.if_icmp .gt 46, 3) := by decide +kernel
theorem dX6_apart_58 : decode cX6_apart 58 = .ok (.iload 4, 2) := by decide +kernel
theorem dX6_apart_60 : decode cX6_apart 60 = .ok (.iload_n 3, 1) := by decide +kernel
theorem dX6_apart_61 : decode cX6_apart 61 = .ok (.iconst (-1), 1) := by decide +kernel
theorem dX6_apart_62 : decode cX6_apart 62 = .ok (.ixor, 1) := by decide +kernel
theorem dX6_apart_63 : decode cX6_apart 63 = .ok (.iand, 1) := by decide +kernel
theorem dX6_apart_64 : decode cX6_apart 64 = .ok (.ifCond .ne 31, 3) := by decide +kernel
theorem dX6_apart_67 : decode cX6_apart 67 = .ok (.iload 4, 2) := by decide +kernel
theorem dX6_apart_69 : decode cX6_apart 69 = .ok (.invokestatic 110, 3) := by decide +kernel
theorem dX6_apart_72 : decode cX6_apart 72 = .ok (.iload_n 2, 1) := by decide +kernel
theorem dX6_apart_73 : decode cX6_apart 73 = .ok (.if_icmp .ne 22, 3) := by decide +kernel
theorem dX6_apart_76 : decode cX6_apart 76 = .ok (.aload_n 0, 1) := by decide +kernel
theorem dX6_apart_77 : decode cX6_apart 77 = .ok (.getfield 45, 3) := by decide +kernel
theorem dX6_apart_80 : decode cX6_apart 80 = .ok (.iload 4, 2) := by decide +kernel
theorem dX6_apart_82 : decode cX6_apart 82 = .ok (.invokevirtual 198, 3) := by decide +kernel
theorem dX6_apart_85 : decode cX6_apart 85 = .ok (.iload_n 1, 1) := by decide +kernel
theorem dX6_apart_86 : decode cX6_apart 86 = .ok (.invokestatic 172, 3) := by decide +kernel
theorem dX6_apart_89 : decode cX6_apart 89 = .ok (.ifCond .ne 6, 3) := by decide +kernel
theorem dX6_apart_92 : decode cX6_apart 92 = .ok (.iload 4, 2) := by decide +kernel
theorem dX6_apart_94 : decode cX6_apart 94 = .ok (.ireturn, 1) := by decide +kernel
theorem dX6_apart_95 : decode cX6_apart 95 = .ok (.iinc 4 1, 3) := by decide +kernel
theorem dX6_apart_98 : decode cX6_apart 98 = .ok (.goto (-46), 3) := by decide +kernel
theorem dX6_apart_101 : decode cX6_apart 101 = .ok (.iload_n 3, 1) := by decide +kernel
theorem dX6_apart_102 : decode cX6_apart 102 = .ok (.ireturn, 1) := by decide +kernel
theorem dX6_without_0 : decode cX6_without 0 = .ok (.aload_n 0, 1) := by decide +kernel
theorem dX6_without_1 : decode cX6_without 1 = .ok (.getfield 16, 3) := by decide +kernel
theorem dX6_without_4 : decode cX6_without 4 = .ok (.iload_n 1, 1) := by decide +kernel
theorem dX6_without_5 : decode cX6_without 5 = .ok (.iload_n 2, 1) := by decide +kernel
theorem dX6_without_6 : decode cX6_without 6 = .ok (.invokevirtual 115, 3) := by decide +kernel
theorem dX6_without_9 : decode cX6_without 9 = .ok (.ifCond .ne 6, 3) := by decide +kernel
theorem dX6_without_12 : decode cX6_without 12 = .ok (.bipush (-101), 2) := by decide +kernel
theorem dX6_without_14 : decode cX6_without 14 = .ok (.ireturn, 1) := by decide +kernel
theorem dX6_without_15 : decode cX6_without 15 = .ok (.aload_n 0, 1) := by decide +kernel
theorem dX6_without_16 : decode cX6_without 16 = .ok (.getfield 16, 3) := by decide +kernel
theorem dX6_without_19 : decode cX6_without 19 = .ok (.iload_n 1, 1) := by decide +kernel
theorem dX6_without_20 : decode cX6_without 20 = .ok (.iload_n 2, 1) := by decide +kernel
theorem dX6_without_21 : decode cX6_without 21 = .ok (.invokevirtual 119, 3) := by decide +kernel
theorem dX6_without_24 : decode cX6_without 24 = .ok (.ifCond .ne 6, 3) := by decide +kernel
theorem dX6_without_27 : decode cX6_without 27 = .ok (.bipush (-103), 2) := by decide +kernel
theorem dX6_without_29 : decode cX6_without 29 = .ok (.ireturn, 1) := by decide +kernel
theorem dX6_without_30 : decode cX6_without 30 = .ok (.iload_n 3, 1) := by decide +kernel
theorem dX6_without_31 : decode cX6_without 31 = .ok (.ifCond .lt 8, 3) := by decide +kernel
theorem dX6_without_34 : decode cX6_without 34 = .ok (.iload_n 3, 1) := by decide +kernel
theorem dX6_without_35 : decode cX6_without 35 = .ok (.iconst 2, 1) := by decide +kernel
theorem dX6_without_36 : decode cX6_without 36 = .ok (.if_icmp .le 6, 3) := by decide +kernel
theorem dX6_without_39 : decode cX6_without 39 = .ok (.bipush (-102), 2) := by decide +kernel
theorem dX6_without_41 : decode cX6_without 41 = .ok (.ireturn, 1) := by decide +kernel
theorem dX6_without_42 : decode cX6_without 42 = .ok (.aload_n 0, 1) := by decide +kernel
theorem dX6_without_43 : decode cX6_without 43 = .ok (.iload_n 1, 1) := by decide +kernel
theorem dX6_without_44 : decode cX6_without 44 = .ok (.iload_n 2, 1) := by decide +kernel
theorem dX6_without_45 : decode cX6_without 45 = .ok (.invokevirtual 201, 3) := by decide +kernel
theorem dX6_without_48 : decode cX6_without 48 = .ok (.iload_n 3, 1) := by decide +kernel
theorem dX6_without_49 : decode cX6_without 49 = .ok (.lookupswitch 66 #[(0, 27), (1, 42)], 27) := by decide +kernel
theorem dX6_without_76 : decode cX6_without 76 = .ok (.aload_n 0, 1) := by decide +kernel
theorem dX6_without_77 : decode cX6_without 77 = .ok (.aload_n 0, 1) := by decide +kernel
theorem dX6_without_78 : decode cX6_without 78 = .ok (.getfield 16, 3) := by decide +kernel
theorem dX6_without_81 : decode cX6_without 81 = .ok (.invokevirtual 151, 3) := by decide +kernel
theorem dX6_without_84 : decode cX6_without 84 = .ok (.invokevirtual 169, 3) := by decide +kernel
theorem dX6_without_87 : decode cX6_without 87 = .ok (.invokestatic 110, 3) := by decide +kernel
theorem dX6_without_90 : decode cX6_without 90 = .ok (.ireturn, 1) := by decide +kernel
theorem dX6_without_91 : decode cX6_without 91 = .ok (.aload_n 0, 1) := by decide +kernel
theorem dX6_without_92 : decode cX6_without 92 = .ok (.aload_n 0, 1) := by decide +kernel
theorem dX6_without_93 : decode cX6_without 93 = .ok (.getfield 16, 3) := by decide +kernel
theorem dX6_without_96 : decode cX6_without 96 = .ok (.invokevirtual 151, 3) := by decide +kernel
theorem dX6_without_99 : decode cX6_without 99 = .ok (.invokevirtual 169, 3) := by decide +kernel
theorem dX6_without_102 : decode cX6_without 102 = .ok (.aload_n 0, 1) := by decide +kernel
theorem dX6_without_103 : decode cX6_without 103 = .ok (.getfield 16, 3) := by decide +kernel
theorem dX6_without_106 : decode cX6_without 106 = .ok (.iconst 2, 1) := by decide +kernel
theorem dX6_without_107 : decode cX6_without 107 = .ok (.invokevirtual 106, 3) := by decide +kernel
theorem dX6_without_110 : decode cX6_without 110 = .ok (.iand, 1) := by decide +kernel
theorem dX6_without_111 : decode cX6_without 111 = .ok (.invokestatic 110, 3) := by decide +kernel
theorem dX6_without_114 : decode cX6_without 114 = .ok (.ireturn, 1) := by decide +kernel
theorem dX6_without_115 : decode cX6_without 115 = .ok (.aload_n 0, 1) := by decide +kernel
theorem dX6_without_116 : decode cX6_without 116 = .ok (.getfield 45, 3) := by decide +kernel
theorem dX6_without_119 : decode cX6_without 119 = .ok (.getfield 163, 3) := by decide +kernel
theorem dX6_without_122 : decode cX6_without 122 = .ok (.iload_n 2, 1) := by decide +kernel
theorem dX6_without_123 : decode cX6_without 123 = .ok (.iaload, 1) := by decide +kernel
theorem dX6_without_124 : decode cX6_without 124 = .ok (.ireturn, 1) := by decide +kernel
theorem dX6_dearest_0 : decode cX6_dearest 0 = .ok (.aload_n 0, 1) := by decide +kernel
theorem dX6_dearest_1 : decode cX6_dearest 1 = .ok (.getfield 16, 3) := by decide +kernel
theorem dX6_dearest_4 : decode cX6_dearest 4 = .ok (.invokevirtual 85, 3) := by decide +kernel
theorem dX6_dearest_7 : decode cX6_dearest 7 = .ok (.ifCond .ne 6, 3) := by decide +kernel
theorem dX6_dearest_10 : decode cX6_dearest 10 = .ok (.bipush (-103), 2) := by decide +kernel
theorem dX6_dearest_12 : decode cX6_dearest 12 = .ok (.ireturn, 1) := by decide +kernel
theorem dX6_dearest_13 : decode cX6_dearest 13 = .ok (.iconst (-1), 1) := by decide +kernel
theorem dX6_dearest_14 : decode cX6_dearest 14 = .ok (.istore_n 1, 1) := by decide +kernel
theorem dX6_dearest_15 : decode cX6_dearest 15 = .ok (.bipush 10, 2) := by decide +kernel
theorem dX6_dearest_17 : decode cX6_dearest 17 = .ok (.istore_n 2, 1) := by decide +kernel
theorem dX6_dearest_18 : decode cX6_dearest 18 = .ok (.iconst 0, 1) := by decide +kernel
theorem dX6_dearest_19 : decode cX6_dearest 19 = .ok (.istore_n 3, 1) := by decide +kernel
theorem dX6_dearest_20 : decode cX6_dearest 20 = .ok (.iload_n 3, 1) := by decide +kernel
theorem dX6_dearest_21 : decode cX6_dearest 21 = .ok (.aload_n 0, 1) := by decide +kernel
theorem dX6_dearest_22 : decode cX6_dearest 22 = .ok (.getfield 16, 3) := by decide +kernel
theorem dX6_dearest_25 : decode cX6_dearest 25 = .ok (.getfield 82, 3) := by decide +kernel
theorem dX6_dearest_28 : decode cX6_dearest 28 = .ok (.if_icmp .ge 86, 3) := by decide +kernel
theorem dX6_dearest_31 : decode cX6_dearest 31 = .ok (.iconst 0, 1) := by decide +kernel
theorem dX6_dearest_32 : decode cX6_dearest 32 = .ok (.istore 4, 2) := by decide +kernel
theorem dX6_dearest_34 : decode cX6_dearest 34 = .ok (.iload 4, 2) := by decide +kernel
theorem dX6_dearest_36 : decode cX6_dearest 36 = .ok (.aload_n 0, 1) := by decide +kernel
theorem dX6_dearest_37 : decode cX6_dearest 37 = .ok (.getfield 16, 3) := by decide +kernel
theorem dX6_dearest_40 : decode cX6_dearest 40 = .ok (.getfield 82, 3) := by decide +kernel
theorem dX6_dearest_43 : decode cX6_dearest 43 = .ok (.if_icmp .ge 65, 3) := by decide +kernel
theorem dX6_dearest_46 : decode cX6_dearest 46 = .ok (.aload_n 0, 1) := by decide +kernel
theorem dX6_dearest_47 : decode cX6_dearest 47 = .ok (.getfield 16, 3) := by decide +kernel
theorem dX6_dearest_50 : decode cX6_dearest 50 = .ok (.iload_n 3, 1) := by decide +kernel
theorem dX6_dearest_51 : decode cX6_dearest 51 = .ok (.iload 4, 2) := by decide +kernel
theorem dX6_dearest_53 : decode cX6_dearest 53 = .ok (.invokevirtual 119, 3) := by decide +kernel
theorem dX6_dearest_56 : decode cX6_dearest 56 = .ok (.ifCond .ne 6, 3) := by decide +kernel
theorem dX6_dearest_59 : decode cX6_dearest 59 = .ok (.goto 43, 3) := by decide +kernel
theorem dX6_dearest_62 : decode cX6_dearest 62 = .ok (.aload_n 0, 1) := by decide +kernel
theorem dX6_dearest_63 : decode cX6_dearest 63 = .ok (.iload_n 3, 1) := by decide +kernel
theorem dX6_dearest_64 : decode cX6_dearest 64 = .ok (.iload 4, 2) := by decide +kernel
theorem dX6_dearest_66 : decode cX6_dearest 66 = .ok (.invokevirtual 201, 3) := by decide +kernel
theorem dX6_dearest_69 : decode cX6_dearest 69 = .ok (.aload_n 0, 1) := by decide +kernel
theorem dX6_dearest_70 : decode cX6_dearest 70 = .ok (.aload_n 0, 1) := by decide +kernel
theorem dX6_dearest_71 : decode cX6_dearest 71 = .ok (.getfield 16, 3) := by decide +kernel
theorem dX6_dearest_74 : decode cX6_dearest 74 = .ok (.invokevirtual 151, 3) := by decide +kernel
theorem dX6_dearest_77 : decode cX6_dearest 77 = .ok (.invokevirtual 169, 3) := by decide +kernel
theorem dX6_dearest_80 : decode cX6_dearest 80 = .ok (.invokestatic 110, 3) := by decide +kernel
theorem dX6_dearest_83 : decode cX6_dearest 83 = .ok (.istore 5, 2) := by decide +kernel
theorem dX6_dearest_85 : decode cX6_dearest 85 = .ok (.iload 5, 2) := by decide +kernel
theorem dX6_dearest_87 : decode cX6_dearest 87 = .ok (.iload_n 2, 1) := by decide +kernel
theorem dX6_dearest_88 : decode cX6_dearest 88 = .ok (.if_icmp .ge 14, 3) := by decide +kernel
theorem dX6_dearest_91 : decode cX6_dearest 91 = .ok (.iload 5, 2) := by decide +kernel
theorem dX6_dearest_93 : decode cX6_dearest 93 = .ok (.istore_n 2, 1) := by decide +kernel
theorem dX6_dearest_94 : decode cX6_dearest 94 = .ok (.bipush 10, 2) := by decide +kernel
theorem dX6_dearest_96 : decode cX6_dearest 96 = .ok (.iload_n 3, 1) := by decide +kernel
theorem dX6_dearest_97 : decode cX6_dearest 97 = .ok (.imul, 1) := by decide +kernel
theorem dX6_dearest_98 : decode cX6_dearest 98 = .ok (.iload 4, 2) := by decide +kernel
theorem dX6_dearest_100 : decode cX6_dearest 100 = .ok (.iadd, 1) := by decide +kernel
theorem dX6_dearest_101 : decode cX6_dearest 101 = .ok (.istore_n 1, 1) := by decide +kernel
theorem dX6_dearest_102 : decode cX6_dearest 102 = .ok (.iinc 4 1, 3) := by decide +kernel
theorem dX6_dearest_105 : decode cX6_dearest 105 = .ok (.goto (-71), 3) := by decide +kernel
theorem dX6_dearest_108 : decode cX6_dearest 108 = .ok (.iinc 3 1, 3) := by decide +kernel
theorem dX6_dearest_111 : decode cX6_dearest 111 = .ok (.goto (-91), 3) := by decide +kernel
theorem dX6_dearest_114 : decode cX6_dearest 114 = .ok (.iload_n 1, 1) := by decide +kernel
theorem dX6_dearest_115 : decode cX6_dearest 115 = .ok (.ireturn, 1) := by decide +kernel
theorem dX6_chance_0 : decode cX6_chance 0 = .ok (.aload_n 0, 1) := by decide +kernel
theorem dX6_chance_1 : decode cX6_chance 1 = .ok (.getfield 16, 3) := by decide +kernel
theorem dX6_chance_4 : decode cX6_chance 4 = .ok (.iload_n 1, 1) := by decide +kernel
theorem dX6_chance_5 : decode cX6_chance 5 = .ok (.invokevirtual 97, 3) := by decide +kernel
theorem dX6_chance_8 : decode cX6_chance 8 = .ok (.ifCond .ne 6, 3) := by decide +kernel
theorem dX6_chance_11 : decode cX6_chance 11 = .ok (.bipush (-101), 2) := by decide +kernel
theorem dX6_chance_13 : decode cX6_chance 13 = .ok (.ireturn, 1) := by decide +kernel
theorem dX6_chance_14 : decode cX6_chance 14 = .ok (.iload_n 2, 1) := by decide +kernel
theorem dX6_chance_15 : decode cX6_chance 15 = .ok (.invokestatic 205, 3) := by decide +kernel
theorem dX6_chance_18 : decode cX6_chance 18 = .ok (.ifCond .eq 12, 3) := by decide +kernel
theorem dX6_chance_21 : decode cX6_chance 21 = .ok (.iload_n 3, 1) := by decide +kernel
theorem dX6_chance_22 : decode cX6_chance 22 = .ok (.ifCond .lt 8, 3) := by decide +kernel
theorem dX6_chance_25 : decode cX6_chance 25 = .ok (.iload_n 3, 1) := by decide +kernel
theorem dX6_chance_26 : decode cX6_chance 26 = .ok (.iconst 1, 1) := by decide +kernel
theorem dX6_chance_27 : decode cX6_chance 27 = .ok (.if_icmp .le 6, 3) := by decide +kernel
theorem dX6_chance_30 : decode cX6_chance 30 = .ok (.bipush (-102), 2) := by decide +kernel
theorem dX6_chance_32 : decode cX6_chance 32 = .ok (.ireturn, 1) := by decide +kernel
theorem dX6_chance_33 : decode cX6_chance 33 = .ok (.aload_n 0, 1) := by decide +kernel
theorem dX6_chance_34 : decode cX6_chance 34 = .ok (.getfield 16, 3) := by decide +kernel
theorem dX6_chance_37 : decode cX6_chance 37 = .ok (.iconst 1, 1) := by decide +kernel
theorem dX6_chance_38 : decode cX6_chance 38 = .ok (.invokevirtual 106, 3) := by decide +kernel
theorem dX6_chance_41 : decode cX6_chance 41 = .ok (.ifCond .ne 6, 3) := by decide +kernel
theorem dX6_chance_44 : decode cX6_chance 44 = .ok (.bipush (-103), 2) := by decide +kernel
theorem dX6_chance_46 : decode cX6_chance 46 = .ok (.ireturn, 1) := by decide +kernel
theorem dX6_chance_47 : decode cX6_chance 47 = .ok (.aload_n 0, 1) := by decide +kernel
theorem dX6_chance_48 : decode cX6_chance 48 = .ok (.getfield 49, 3) := by decide +kernel
theorem dX6_chance_51 : decode cX6_chance 51 = .ok (.aload_n 0, 1) := by decide +kernel
theorem dX6_chance_52 : decode cX6_chance 52 = .ok (.getfield 16, 3) := by decide +kernel
theorem dX6_chance_55 : decode cX6_chance 55 = .ok (.iload_n 2, 1) := by decide +kernel
theorem dX6_chance_56 : decode cX6_chance 56 = .ok (.invokevirtual 208, 3) := by decide +kernel
theorem dX6_chance_59 : decode cX6_chance 59 = .ok (.iload_n 3, 1) := by decide +kernel
theorem dX6_chance_60 : decode cX6_chance 60 = .ok (.ifCond .ne 14, 3) := by decide +kernel
theorem dX6_chance_63 : decode cX6_chance 63 = .ok (.aload_n 0, 1) := by decide +kernel
theorem dX6_chance_64 : decode cX6_chance 64 = .ok (.getfield 49, 3) := by decide +kernel
theorem dX6_chance_67 : decode cX6_chance 67 = .ok (.iload_n 1, 1) := by decide +kernel
theorem dX6_chance_68 : decode cX6_chance 68 = .ok (.invokevirtual 212, 3) := by decide +kernel
theorem dX6_chance_71 : decode cX6_chance 71 = .ok (.goto 11, 3) := by decide +kernel
theorem dX6_chance_74 : decode cX6_chance 74 = .ok (.aload_n 0, 1) := by decide +kernel
theorem dX6_chance_75 : decode cX6_chance 75 = .ok (.getfield 49, 3) := by decide +kernel
theorem dX6_chance_78 : decode cX6_chance 78 = .ok (.iload_n 1, 1) := by decide +kernel
theorem dX6_chance_79 : decode cX6_chance 79 = .ok (.invokevirtual 215, 3) := by decide +kernel
theorem dX6_chance_82 : decode cX6_chance 82 = .ok (.ireturn, 1) := by decide +kernel
theorem dX6_thousandths_0 : decode cX6_thousandths 0 = .ok (.aload_n 0, 1) := by decide +kernel
theorem dX6_thousandths_1 : decode cX6_thousandths 1 = .ok (.getfield 16, 3) := by decide +kernel
theorem dX6_thousandths_4 : decode cX6_thousandths 4 = .ok (.iload_n 1, 1) := by decide +kernel
theorem dX6_thousandths_5 : decode cX6_thousandths 5 = .ok (.invokevirtual 97, 3) := by decide +kernel
theorem dX6_thousandths_8 : decode cX6_thousandths 8 = .ok (.ifCond .ne 6, 3) := by decide +kernel
theorem dX6_thousandths_11 : decode cX6_thousandths 11 = .ok (.bipush (-101), 2) := by decide +kernel
theorem dX6_thousandths_13 : decode cX6_thousandths 13 = .ok (.ireturn, 1) := by decide +kernel
theorem dX6_thousandths_14 : decode cX6_thousandths 14 = .ok (.iload_n 2, 1) := by decide +kernel
theorem dX6_thousandths_15 : decode cX6_thousandths 15 = .ok (.invokestatic 205, 3) := by decide +kernel
theorem dX6_thousandths_18 : decode cX6_thousandths 18 = .ok (.ifCond .ne 6, 3) := by decide +kernel
theorem dX6_thousandths_21 : decode cX6_thousandths 21 = .ok (.bipush (-102), 2) := by decide +kernel
theorem dX6_thousandths_23 : decode cX6_thousandths 23 = .ok (.ireturn, 1) := by decide +kernel
theorem dX6_thousandths_24 : decode cX6_thousandths 24 = .ok (.aload_n 0, 1) := by decide +kernel
theorem dX6_thousandths_25 : decode cX6_thousandths 25 = .ok (.getfield 16, 3) := by decide +kernel
theorem dX6_thousandths_28 : decode cX6_thousandths 28 = .ok (.iconst 1, 1) := by decide +kernel
theorem dX6_thousandths_29 : decode cX6_thousandths 29 = .ok (.invokevirtual 106, 3) := by decide +kernel
theorem dX6_thousandths_32 : decode cX6_thousandths 32 = .ok (.ifCond .ne 6, 3) := by decide +kernel
theorem dX6_thousandths_35 : decode cX6_thousandths 35 = .ok (.bipush (-103), 2) := by decide +kernel
theorem dX6_thousandths_37 : decode cX6_thousandths 37 = .ok (.ireturn, 1) := by decide +kernel
theorem dX6_thousandths_38 : decode cX6_thousandths 38 = .ok (.aload_n 0, 1) := by decide +kernel
theorem dX6_thousandths_39 : decode cX6_thousandths 39 = .ok (.getfield 49, 3) := by decide +kernel
theorem dX6_thousandths_42 : decode cX6_thousandths 42 = .ok (.aload_n 0, 1) := by decide +kernel
theorem dX6_thousandths_43 : decode cX6_thousandths 43 = .ok (.getfield 16, 3) := by decide +kernel
theorem dX6_thousandths_46 : decode cX6_thousandths 46 = .ok (.iload_n 2, 1) := by decide +kernel
theorem dX6_thousandths_47 : decode cX6_thousandths 47 = .ok (.invokevirtual 208, 3) := by decide +kernel
theorem dX6_thousandths_50 : decode cX6_thousandths 50 = .ok (.aload_n 0, 1) := by decide +kernel
theorem dX6_thousandths_51 : decode cX6_thousandths 51 = .ok (.getfield 49, 3) := by decide +kernel
theorem dX6_thousandths_54 : decode cX6_thousandths 54 = .ok (.iload_n 1, 1) := by decide +kernel
theorem dX6_thousandths_55 : decode cX6_thousandths 55 = .ok (.invokevirtual 218, 3) := by decide +kernel
theorem dX6_thousandths_58 : decode cX6_thousandths 58 = .ok (.ireturn, 1) := by decide +kernel
theorem dX6_order_0 : decode cX6_order 0 = .ok (.iload_n 1, 1) := by decide +kernel
theorem dX6_order_1 : decode cX6_order 1 = .ok (.invokestatic 205, 3) := by decide +kernel
theorem dX6_order_4 : decode cX6_order 4 = .ok (.ifCond .ne 6, 3) := by decide +kernel
theorem dX6_order_7 : decode cX6_order 7 = .ok (.bipush (-102), 2) := by decide +kernel
theorem dX6_order_9 : decode cX6_order 9 = .ok (.ireturn, 1) := by decide +kernel
theorem dX6_order_10 : decode cX6_order 10 = .ok (.aload_n 0, 1) := by decide +kernel
theorem dX6_order_11 : decode cX6_order 11 = .ok (.getfield 16, 3) := by decide +kernel
theorem dX6_order_14 : decode cX6_order 14 = .ok (.iconst 1, 1) := by decide +kernel
theorem dX6_order_15 : decode cX6_order 15 = .ok (.invokevirtual 106, 3) := by decide +kernel
theorem dX6_order_18 : decode cX6_order 18 = .ok (.ifCond .ne 6, 3) := by decide +kernel
theorem dX6_order_21 : decode cX6_order 21 = .ok (.bipush (-103), 2) := by decide +kernel
theorem dX6_order_23 : decode cX6_order 23 = .ok (.ireturn, 1) := by decide +kernel
theorem dX6_order_24 : decode cX6_order 24 = .ok (.aload_n 0, 1) := by decide +kernel
theorem dX6_order_25 : decode cX6_order 25 = .ok (.getfield 16, 3) := by decide +kernel
theorem dX6_order_28 : decode cX6_order 28 = .ok (.iload_n 2, 1) := by decide +kernel
theorem dX6_order_29 : decode cX6_order 29 = .ok (.invokevirtual 97, 3) := by decide +kernel
theorem dX6_order_32 : decode cX6_order 32 = .ok (.ifCond .ne 6, 3) := by decide +kernel
theorem dX6_order_35 : decode cX6_order 35 = .ok (.bipush (-101), 2) := by decide +kernel
theorem dX6_order_37 : decode cX6_order 37 = .ok (.ireturn, 1) := by decide +kernel
theorem dX6_order_38 : decode cX6_order 38 = .ok (.aload_n 0, 1) := by decide +kernel
theorem dX6_order_39 : decode cX6_order 39 = .ok (.getfield 49, 3) := by decide +kernel
theorem dX6_order_42 : decode cX6_order 42 = .ok (.aload_n 0, 1) := by decide +kernel
theorem dX6_order_43 : decode cX6_order 43 = .ok (.getfield 16, 3) := by decide +kernel
theorem dX6_order_46 : decode cX6_order 46 = .ok (.iload_n 1, 1) := by decide +kernel
theorem dX6_order_47 : decode cX6_order 47 = .ok (.invokevirtual 208, 3) := by decide +kernel
theorem dX6_order_50 : decode cX6_order 50 = .ok (.aload_n 0, 1) := by decide +kernel
theorem dX6_order_51 : decode cX6_order 51 = .ok (.getfield 49, 3) := by decide +kernel
theorem dX6_order_54 : decode cX6_order 54 = .ok (.iload_n 2, 1) := by decide +kernel
theorem dX6_order_55 : decode cX6_order 55 = .ok (.invokevirtual 221, 3) := by decide +kernel
theorem dX6_order_58 : decode cX6_order 58 = .ok (.ireturn, 1) := by decide +kernel
theorem dX6_count_0 : decode cX6_count 0 = .ok (.iload_n 1, 1) := by decide +kernel
theorem dX6_count_1 : decode cX6_count 1 = .ok (.tableswitch 63 0 4 #[35, 43, 48, 53, 58], 35) := by decide +kernel
theorem dX6_count_36 : decode cX6_count 36 = .ok (.aload_n 0, 1) := by decide +kernel
theorem dX6_count_37 : decode cX6_count 37 = .ok (.getfield 16, 3) := by decide +kernel
theorem dX6_count_40 : decode cX6_count 40 = .ok (.getfield 82, 3) := by decide +kernel
theorem dX6_count_43 : decode cX6_count 43 = .ok (.ireturn, 1) := by decide +kernel
theorem dX6_count_44 : decode cX6_count 44 = .ok (.aload_n 0, 1) := by decide +kernel
theorem dX6_count_45 : decode cX6_count 45 = .ok (.getfield 53, 3) := by decide +kernel
theorem dX6_count_48 : decode cX6_count 48 = .ok (.ireturn, 1) := by decide +kernel
theorem dX6_count_49 : decode cX6_count 49 = .ok (.aload_n 0, 1) := by decide +kernel
theorem dX6_count_50 : decode cX6_count 50 = .ok (.getfield 79, 3) := by decide +kernel
theorem dX6_count_53 : decode cX6_count 53 = .ok (.ireturn, 1) := by decide +kernel
theorem dX6_count_54 : decode cX6_count 54 = .ok (.aload_n 0, 1) := by decide +kernel
theorem dX6_count_55 : decode cX6_count 55 = .ok (.getfield 125, 3) := by decide +kernel
theorem dX6_count_58 : decode cX6_count 58 = .ok (.ireturn, 1) := by decide +kernel
theorem dX6_count_59 : decode cX6_count 59 = .ok (.aload_n 0, 1) := by decide +kernel
theorem dX6_count_60 : decode cX6_count 60 = .ok (.getfield 128, 3) := by decide +kernel
theorem dX6_count_63 : decode cX6_count 63 = .ok (.ireturn, 1) := by decide +kernel
theorem dX6_count_64 : decode cX6_count 64 = .ok (.bipush (-102), 2) := by decide +kernel
theorem dX6_count_66 : decode cX6_count 66 = .ok (.ireturn, 1) := by decide +kernel
theorem dX6_digest_0 : decode cX6_digest 0 = .ok (.ldc2_w 224, 3) := by decide +kernel
theorem dX6_digest_3 : decode cX6_digest 3 = .ok (.lstore_n 1, 1) := by decide +kernel
theorem dX6_digest_4 : decode cX6_digest 4 = .ok (.aload_n 0, 1) := by decide +kernel
theorem dX6_digest_5 : decode cX6_digest 5 = .ok (.getfield 16, 3) := by decide +kernel
theorem dX6_digest_8 : decode cX6_digest 8 = .ok (.invokevirtual 85, 3) := by decide +kernel
theorem dX6_digest_11 : decode cX6_digest 11 = .ok (.ifCond .eq 21, 3) := by decide +kernel
theorem dX6_digest_14 : decode cX6_digest 14 = .ok (.aload_n 0, 1) := by decide +kernel
theorem dX6_digest_15 : decode cX6_digest 15 = .ok (.lload_n 1, 1) := by decide +kernel
theorem dX6_digest_16 : decode cX6_digest 16 = .ok (.invokevirtual 226, 3) := by decide +kernel
theorem dX6_digest_19 : decode cX6_digest 19 = .ok (.lstore_n 1, 1) := by decide +kernel
theorem dX6_digest_20 : decode cX6_digest 20 = .ok (.aload_n 0, 1) := by decide +kernel
theorem dX6_digest_21 : decode cX6_digest 21 = .ok (.lload_n 1, 1) := by decide +kernel
theorem dX6_digest_22 : decode cX6_digest 22 = .ok (.invokevirtual 230, 3) := by decide +kernel
theorem dX6_digest_25 : decode cX6_digest 25 = .ok (.lstore_n 1, 1) := by decide +kernel
theorem dX6_digest_26 : decode cX6_digest 26 = .ok (.aload_n 0, 1) := by decide +kernel
theorem dX6_digest_27 : decode cX6_digest 27 = .ok (.lload_n 1, 1) := by decide +kernel
theorem dX6_digest_28 : decode cX6_digest 28 = .ok (.invokevirtual 233, 3) := by decide +kernel
theorem dX6_digest_31 : decode cX6_digest 31 = .ok (.lstore_n 1, 1) := by decide +kernel
theorem dX6_digest_32 : decode cX6_digest 32 = .ok (.aload_n 0, 1) := by decide +kernel
theorem dX6_digest_33 : decode cX6_digest 33 = .ok (.getfield 16, 3) := by decide +kernel
theorem dX6_digest_36 : decode cX6_digest 36 = .ok (.iconst 1, 1) := by decide +kernel
theorem dX6_digest_37 : decode cX6_digest 37 = .ok (.invokevirtual 106, 3) := by decide +kernel
theorem dX6_digest_40 : decode cX6_digest 40 = .ok (.ifCond .eq 9, 3) := by decide +kernel
theorem dX6_digest_43 : decode cX6_digest 43 = .ok (.aload_n 0, 1) := by decide +kernel
theorem dX6_digest_44 : decode cX6_digest 44 = .ok (.lload_n 1, 1) := by decide +kernel
theorem dX6_digest_45 : decode cX6_digest 45 = .ok (.invokevirtual 236, 3) := by decide +kernel
theorem dX6_digest_48 : decode cX6_digest 48 = .ok (.lstore_n 1, 1) := by decide +kernel
theorem dX6_digest_49 : decode cX6_digest 49 = .ok (.iconst 0, 1) := by decide +kernel
theorem dX6_digest_50 : decode cX6_digest 50 = .ok (.istore_n 3, 1) := by decide +kernel
theorem dX6_digest_51 : decode cX6_digest 51 = .ok (.iload_n 3, 1) := by decide +kernel
theorem dX6_digest_52 : decode cX6_digest 52 = .ok (.aload_n 0, 1) := by decide +kernel
theorem dX6_digest_53 : decode cX6_digest 53 = .ok (.getfield 53, 3) := by decide +kernel
theorem dX6_digest_56 : decode cX6_digest 56 = .ok (.if_icmp .ge 20, 3) := by decide +kernel
theorem dX6_digest_59 : decode cX6_digest 59 = .ok (.lload_n 1, 1) := by decide +kernel
theorem dX6_digest_60 : decode cX6_digest 60 = .ok (.aload_n 0, 1) := by decide +kernel
theorem dX6_digest_61 : decode cX6_digest 61 = .ok (.getfield 9, 3) := by decide +kernel
theorem dX6_digest_64 : decode cX6_digest 64 = .ok (.iload_n 3, 1) := by decide +kernel
theorem dX6_digest_65 : decode cX6_digest 65 = .ok (.iaload, 1) := by decide +kernel
theorem dX6_digest_66 : decode cX6_digest 66 = .ok (.invokestatic 239, 3) := by decide +kernel
theorem dX6_digest_69 : decode cX6_digest 69 = .ok (.lstore_n 1, 1) := by decide +kernel
theorem dX6_digest_70 : decode cX6_digest 70 = .ok (.iinc 3 1, 3) := by decide +kernel
theorem dX6_digest_73 : decode cX6_digest 73 = .ok (.goto (-22), 3) := by decide +kernel
theorem dX6_digest_76 : decode cX6_digest 76 = .ok (.iconst 0, 1) := by decide +kernel
theorem dX6_digest_77 : decode cX6_digest 77 = .ok (.istore_n 3, 1) := by decide +kernel
theorem dX6_digest_78 : decode cX6_digest 78 = .ok (.iload_n 3, 1) := by decide +kernel
theorem dX6_digest_79 : decode cX6_digest 79 = .ok (.iconst 4, 1) := by decide +kernel
theorem dX6_digest_80 : decode cX6_digest 80 = .ok (.if_icmp .gt 19, 3) := by decide +kernel
theorem dX6_digest_83 : decode cX6_digest 83 = .ok (.lload_n 1, 1) := by decide +kernel
theorem dX6_digest_84 : decode cX6_digest 84 = .ok (.aload_n 0, 1) := by decide +kernel
theorem dX6_digest_85 : decode cX6_digest 85 = .ok (.iload_n 3, 1) := by decide +kernel
theorem dX6_digest_86 : decode cX6_digest 86 = .ok (.invokevirtual 243, 3) := by decide +kernel
theorem dX6_digest_89 : decode cX6_digest 89 = .ok (.invokestatic 239, 3) := by decide +kernel
theorem dX6_digest_92 : decode cX6_digest 92 = .ok (.lstore_n 1, 1) := by decide +kernel
theorem dX6_digest_93 : decode cX6_digest 93 = .ok (.iinc 3 1, 3) := by decide +kernel
theorem dX6_digest_96 : decode cX6_digest 96 = .ok (.goto (-18), 3) := by decide +kernel
theorem dX6_digest_99 : decode cX6_digest 99 = .ok (.lload_n 1, 1) := by decide +kernel
theorem dX6_digest_100 : decode cX6_digest 100 = .ok (.lreturn, 1) := by decide +kernel
theorem dX6_add_0 : decode cX6_add 0 = .ok (.ldc2_w 246, 3) := by decide +kernel
theorem dX6_add_3 : decode cX6_add 3 = .ok (.lload_n 0, 1) := by decide +kernel
theorem dX6_add_4 : decode cX6_add 4 = .ok (.lmul, 1) := by decide +kernel
theorem dX6_add_5 : decode cX6_add 5 = .ok (.iload_n 2, 1) := by decide +kernel
theorem dX6_add_6 : decode cX6_add 6 = .ok (.i2l, 1) := by decide +kernel
theorem dX6_add_7 : decode cX6_add 7 = .ok (.ladd, 1) := by decide +kernel
theorem dX6_add_8 : decode cX6_add 8 = .ok (.lreturn, 1) := by decide +kernel
theorem dX6_addInk_0 : decode cX6_addInk 0 = .ok (.lload_n 1, 1) := by decide +kernel
theorem dX6_addInk_1 : decode cX6_addInk 1 = .ok (.lstore_n 3, 1) := by decide +kernel
theorem dX6_addInk_2 : decode cX6_addInk 2 = .ok (.aload_n 0, 1) := by decide +kernel
theorem dX6_addInk_3 : decode cX6_addInk 3 = .ok (.getfield 30, 3) := by decide +kernel
theorem dX6_addInk_6 : decode cX6_addInk 6 = .ok (.aload_n 0, 1) := by decide +kernel
theorem dX6_addInk_7 : decode cX6_addInk 7 = .ok (.getfield 16, 3) := by decide +kernel
theorem dX6_addInk_10 : decode cX6_addInk 10 = .ok (.invokevirtual 88, 3) := by decide +kernel
theorem dX6_addInk_13 : decode cX6_addInk 13 = .ok (.iconst 0, 1) := by decide +kernel
theorem dX6_addInk_14 : decode cX6_addInk 14 = .ok (.istore 5, 2) := by decide +kernel
theorem dX6_addInk_16 : decode cX6_addInk 16 = .ok (.iload 5, 2) := by decide +kernel
theorem dX6_addInk_18 : decode cX6_addInk 18 = .ok (.aload_n 0, 1) := by decide +kernel
theorem dX6_addInk_19 : decode cX6_addInk 19 = .ok (.getfield 30, 3) := by decide +kernel
theorem dX6_addInk_22 : decode cX6_addInk 22 = .ok (.getfield 91, 3) := by decide +kernel
theorem dX6_addInk_25 : decode cX6_addInk 25 = .ok (.if_icmp .ge 24, 3) := by decide +kernel
theorem dX6_addInk_28 : decode cX6_addInk 28 = .ok (.lload_n 3, 1) := by decide +kernel
theorem dX6_addInk_29 : decode cX6_addInk 29 = .ok (.aload_n 0, 1) := by decide +kernel
theorem dX6_addInk_30 : decode cX6_addInk 30 = .ok (.getfield 30, 3) := by decide +kernel
theorem dX6_addInk_33 : decode cX6_addInk 33 = .ok (.getfield 94, 3) := by decide +kernel
theorem dX6_addInk_36 : decode cX6_addInk 36 = .ok (.iload 5, 2) := by decide +kernel
theorem dX6_addInk_38 : decode cX6_addInk 38 = .ok (.iaload, 1) := by decide +kernel
theorem dX6_addInk_39 : decode cX6_addInk 39 = .ok (.invokestatic 239, 3) := by decide +kernel
theorem dX6_addInk_42 : decode cX6_addInk 42 = .ok (.lstore_n 3, 1) := by decide +kernel
theorem dX6_addInk_43 : decode cX6_addInk 43 = .ok (.iinc 5 1, 3) := by decide +kernel
theorem dX6_addInk_46 : decode cX6_addInk 46 = .ok (.goto (-30), 3) := by decide +kernel
theorem dX6_addInk_49 : decode cX6_addInk 49 = .ok (.lload_n 3, 1) := by decide +kernel
theorem dX6_addInk_50 : decode cX6_addInk 50 = .ok (.lreturn, 1) := by decide +kernel
theorem dX6_addPersons_0 : decode cX6_addPersons 0 = .ok (.lload_n 1, 1) := by decide +kernel
theorem dX6_addPersons_1 : decode cX6_addPersons 1 = .ok (.lstore_n 3, 1) := by decide +kernel
theorem dX6_addPersons_2 : decode cX6_addPersons 2 = .ok (.iconst 0, 1) := by decide +kernel
theorem dX6_addPersons_3 : decode cX6_addPersons 3 = .ok (.istore 5, 2) := by decide +kernel
theorem dX6_addPersons_5 : decode cX6_addPersons 5 = .ok (.iload 5, 2) := by decide +kernel
theorem dX6_addPersons_7 : decode cX6_addPersons 7 = .ok (.bipush 7, 2) := by decide +kernel
theorem dX6_addPersons_9 : decode cX6_addPersons 9 = .ok (.if_icmp .gt 20, 3) := by decide +kernel
theorem dX6_addPersons_12 : decode cX6_addPersons 12 = .ok (.lload_n 3, 1) := by decide +kernel
theorem dX6_addPersons_13 : decode cX6_addPersons 13 = .ok (.aload_n 0, 1) := by decide +kernel
theorem dX6_addPersons_14 : decode cX6_addPersons 14 = .ok (.iload 5, 2) := by decide +kernel
theorem dX6_addPersons_16 : decode cX6_addPersons 16 = .ok (.invokevirtual 248, 3) := by decide +kernel
theorem dX6_addPersons_19 : decode cX6_addPersons 19 = .ok (.invokestatic 239, 3) := by decide +kernel
theorem dX6_addPersons_22 : decode cX6_addPersons 22 = .ok (.lstore_n 3, 1) := by decide +kernel
theorem dX6_addPersons_23 : decode cX6_addPersons 23 = .ok (.iinc 5 1, 3) := by decide +kernel
theorem dX6_addPersons_26 : decode cX6_addPersons 26 = .ok (.goto (-21), 3) := by decide +kernel
theorem dX6_addPersons_29 : decode cX6_addPersons 29 = .ok (.iconst 0, 1) := by decide +kernel
theorem dX6_addPersons_30 : decode cX6_addPersons 30 = .ok (.istore 5, 2) := by decide +kernel
theorem dX6_addPersons_32 : decode cX6_addPersons 32 = .ok (.iload 5, 2) := by decide +kernel
theorem dX6_addPersons_34 : decode cX6_addPersons 34 = .ok (.aload_n 0, 1) := by decide +kernel
theorem dX6_addPersons_35 : decode cX6_addPersons 35 = .ok (.getfield 16, 3) := by decide +kernel
theorem dX6_addPersons_38 : decode cX6_addPersons 38 = .ok (.getfield 82, 3) := by decide +kernel
theorem dX6_addPersons_41 : decode cX6_addPersons 41 = .ok (.if_icmp .ge 49, 3) := by decide +kernel
theorem dX6_addPersons_44 : decode cX6_addPersons 44 = .ok (.iconst 0, 1) := by decide +kernel
theorem dX6_addPersons_45 : decode cX6_addPersons 45 = .ok (.istore 6, 2) := by decide +kernel
theorem dX6_addPersons_47 : decode cX6_addPersons 47 = .ok (.iload 6, 2) := by decide +kernel
theorem dX6_addPersons_49 : decode cX6_addPersons 49 = .ok (.bipush 7, 2) := by decide +kernel
theorem dX6_addPersons_51 : decode cX6_addPersons 51 = .ok (.if_icmp .gt 22, 3) := by decide +kernel
theorem dX6_addPersons_54 : decode cX6_addPersons 54 = .ok (.lload_n 3, 1) := by decide +kernel
theorem dX6_addPersons_55 : decode cX6_addPersons 55 = .ok (.aload_n 0, 1) := by decide +kernel
theorem dX6_addPersons_56 : decode cX6_addPersons 56 = .ok (.iload 5, 2) := by decide +kernel
theorem dX6_addPersons_58 : decode cX6_addPersons 58 = .ok (.iload 6, 2) := by decide +kernel
theorem dX6_addPersons_60 : decode cX6_addPersons 60 = .ok (.invokevirtual 251, 3) := by decide +kernel
theorem dX6_addPersons_63 : decode cX6_addPersons 63 = .ok (.invokestatic 239, 3) := by decide +kernel
theorem dX6_addPersons_66 : decode cX6_addPersons 66 = .ok (.lstore_n 3, 1) := by decide +kernel
theorem dX6_addPersons_67 : decode cX6_addPersons 67 = .ok (.iinc 6 1, 3) := by decide +kernel
theorem dX6_addPersons_70 : decode cX6_addPersons 70 = .ok (.goto (-23), 3) := by decide +kernel
theorem dX6_addPersons_73 : decode cX6_addPersons 73 = .ok (.lload_n 3, 1) := by decide +kernel
theorem dX6_addPersons_74 : decode cX6_addPersons 74 = .ok (.aload_n 0, 1) := by decide +kernel
theorem dX6_addPersons_75 : decode cX6_addPersons 75 = .ok (.iload 5, 2) := by decide +kernel
theorem dX6_addPersons_77 : decode cX6_addPersons 77 = .ok (.invokevirtual 254, 3) := by decide +kernel
theorem dX6_addPersons_80 : decode cX6_addPersons 80 = .ok (.invokestatic 239, 3) := by decide +kernel
theorem dX6_addPersons_83 : decode cX6_addPersons 83 = .ok (.lstore_n 3, 1) := by decide +kernel
theorem dX6_addPersons_84 : decode cX6_addPersons 84 = .ok (.iinc 5 1, 3) := by decide +kernel
theorem dX6_addPersons_87 : decode cX6_addPersons 87 = .ok (.goto (-55), 3) := by decide +kernel
theorem dX6_addPersons_90 : decode cX6_addPersons 90 = .ok (.lload_n 3, 1) := by decide +kernel
theorem dX6_addPersons_91 : decode cX6_addPersons 91 = .ok (.aload_n 0, 1) := by decide +kernel
theorem dX6_addPersons_92 : decode cX6_addPersons 92 = .ok (.invokevirtual 257, 3) := by decide +kernel
theorem dX6_addPersons_95 : decode cX6_addPersons 95 = .ok (.invokestatic 239, 3) := by decide +kernel
theorem dX6_addPersons_98 : decode cX6_addPersons 98 = .ok (.lreturn, 1) := by decide +kernel
theorem dX6_addTrust_0 : decode cX6_addTrust 0 = .ok (.lload_n 1, 1) := by decide +kernel
theorem dX6_addTrust_1 : decode cX6_addTrust 1 = .ok (.lstore_n 3, 1) := by decide +kernel
theorem dX6_addTrust_2 : decode cX6_addTrust 2 = .ok (.iconst 0, 1) := by decide +kernel
theorem dX6_addTrust_3 : decode cX6_addTrust 3 = .ok (.istore 5, 2) := by decide +kernel
theorem dX6_addTrust_5 : decode cX6_addTrust 5 = .ok (.iload 5, 2) := by decide +kernel
theorem dX6_addTrust_7 : decode cX6_addTrust 7 = .ok (.iconst 4, 1) := by decide +kernel
theorem dX6_addTrust_8 : decode cX6_addTrust 8 = .ok (.if_icmp .gt 20, 3) := by decide +kernel
theorem dX6_addTrust_11 : decode cX6_addTrust 11 = .ok (.lload_n 3, 1) := by decide +kernel
theorem dX6_addTrust_12 : decode cX6_addTrust 12 = .ok (.aload_n 0, 1) := by decide +kernel
theorem dX6_addTrust_13 : decode cX6_addTrust 13 = .ok (.iload 5, 2) := by decide +kernel
theorem dX6_addTrust_15 : decode cX6_addTrust 15 = .ok (.invokevirtual 260, 3) := by decide +kernel
theorem dX6_addTrust_18 : decode cX6_addTrust 18 = .ok (.invokestatic 239, 3) := by decide +kernel
theorem dX6_addTrust_21 : decode cX6_addTrust 21 = .ok (.lstore_n 3, 1) := by decide +kernel
theorem dX6_addTrust_22 : decode cX6_addTrust 22 = .ok (.iinc 5 1, 3) := by decide +kernel
theorem dX6_addTrust_25 : decode cX6_addTrust 25 = .ok (.goto (-20), 3) := by decide +kernel
theorem dX6_addTrust_28 : decode cX6_addTrust 28 = .ok (.iconst 0, 1) := by decide +kernel
theorem dX6_addTrust_29 : decode cX6_addTrust 29 = .ok (.istore 5, 2) := by decide +kernel
theorem dX6_addTrust_31 : decode cX6_addTrust 31 = .ok (.iload 5, 2) := by decide +kernel
theorem dX6_addTrust_33 : decode cX6_addTrust 33 = .ok (.iconst 2, 1) := by decide +kernel
theorem dX6_addTrust_34 : decode cX6_addTrust 34 = .ok (.if_icmp .gt 20, 3) := by decide +kernel
theorem dX6_addTrust_37 : decode cX6_addTrust 37 = .ok (.lload_n 3, 1) := by decide +kernel
theorem dX6_addTrust_38 : decode cX6_addTrust 38 = .ok (.aload_n 0, 1) := by decide +kernel
theorem dX6_addTrust_39 : decode cX6_addTrust 39 = .ok (.iload 5, 2) := by decide +kernel
theorem dX6_addTrust_41 : decode cX6_addTrust 41 = .ok (.invokevirtual 263, 3) := by decide +kernel
theorem dX6_addTrust_44 : decode cX6_addTrust 44 = .ok (.invokestatic 239, 3) := by decide +kernel
theorem dX6_addTrust_47 : decode cX6_addTrust 47 = .ok (.lstore_n 3, 1) := by decide +kernel
theorem dX6_addTrust_48 : decode cX6_addTrust 48 = .ok (.iinc 5 1, 3) := by decide +kernel
theorem dX6_addTrust_51 : decode cX6_addTrust 51 = .ok (.goto (-20), 3) := by decide +kernel
theorem dX6_addTrust_54 : decode cX6_addTrust 54 = .ok (.aload_n 0, 1) := by decide +kernel
theorem dX6_addTrust_55 : decode cX6_addTrust 55 = .ok (.invokevirtual 266, 3) := by decide +kernel
theorem dX6_addTrust_58 : decode cX6_addTrust 58 = .ok (.istore 5, 2) := by decide +kernel
theorem dX6_addTrust_60 : decode cX6_addTrust 60 = .ok (.lload_n 3, 1) := by decide +kernel
theorem dX6_addTrust_61 : decode cX6_addTrust 61 = .ok (.iload 5, 2) := by decide +kernel
theorem dX6_addTrust_63 : decode cX6_addTrust 63 = .ok (.invokestatic 239, 3) := by decide +kernel
theorem dX6_addTrust_66 : decode cX6_addTrust 66 = .ok (.lstore_n 3, 1) := by decide +kernel
theorem dX6_addTrust_67 : decode cX6_addTrust 67 = .ok (.iload 5, 2) := by decide +kernel
theorem dX6_addTrust_69 : decode cX6_addTrust 69 = .ok (.iconst (-1), 1) := by decide +kernel
theorem dX6_addTrust_70 : decode cX6_addTrust 70 = .ok (.if_icmp .eq 39, 3) := by decide +kernel
theorem dX6_addTrust_73 : decode cX6_addTrust 73 = .ok (.iconst 0, 1) := by decide +kernel
theorem dX6_addTrust_74 : decode cX6_addTrust 74 = .ok (.istore 6, 2) := by decide +kernel
theorem dX6_addTrust_76 : decode cX6_addTrust 76 = .ok (.iload 6, 2) := by decide +kernel
theorem dX6_addTrust_78 : decode cX6_addTrust 78 = .ok (.iconst 2, 1) := by decide +kernel
theorem dX6_addTrust_79 : decode cX6_addTrust 79 = .ok (.if_icmp .gt 30, 3) := by decide +kernel
theorem dX6_addTrust_82 : decode cX6_addTrust 82 = .ok (.lload_n 3, 1) := by decide +kernel
theorem dX6_addTrust_83 : decode cX6_addTrust 83 = .ok (.aload_n 0, 1) := by decide +kernel
theorem dX6_addTrust_84 : decode cX6_addTrust 84 = .ok (.iload 5, 2) := by decide +kernel
theorem dX6_addTrust_86 : decode cX6_addTrust 86 = .ok (.bipush 10, 2) := by decide +kernel
theorem dX6_addTrust_88 : decode cX6_addTrust 88 = .ok (.idiv, 1) := by decide +kernel
theorem dX6_addTrust_89 : decode cX6_addTrust 89 = .ok (.iload 5, 2) := by decide +kernel
theorem dX6_addTrust_91 : decode cX6_addTrust 91 = .ok (.bipush 10, 2) := by decide +kernel
theorem dX6_addTrust_93 : decode cX6_addTrust 93 = .ok (.irem, 1) := by decide +kernel
theorem dX6_addTrust_94 : decode cX6_addTrust 94 = .ok (.iload 6, 2) := by decide +kernel
theorem dX6_addTrust_96 : decode cX6_addTrust 96 = .ok (.invokevirtual 269, 3) := by decide +kernel
theorem dX6_addTrust_99 : decode cX6_addTrust 99 = .ok (.invokestatic 239, 3) := by decide +kernel
theorem dX6_addTrust_102 : decode cX6_addTrust 102 = .ok (.lstore_n 3, 1) := by decide +kernel
theorem dX6_addTrust_103 : decode cX6_addTrust 103 = .ok (.iinc 6 1, 3) := by decide +kernel
theorem dX6_addTrust_106 : decode cX6_addTrust 106 = .ok (.goto (-30), 3) := by decide +kernel
theorem dX6_addTrust_109 : decode cX6_addTrust 109 = .ok (.lload_n 3, 1) := by decide +kernel
theorem dX6_addTrust_110 : decode cX6_addTrust 110 = .ok (.lreturn, 1) := by decide +kernel
theorem dX6_addWalks_0 : decode cX6_addWalks 0 = .ok (.lload_n 1, 1) := by decide +kernel
theorem dX6_addWalks_1 : decode cX6_addWalks 1 = .ok (.lstore_n 3, 1) := by decide +kernel
theorem dX6_addWalks_2 : decode cX6_addWalks 2 = .ok (.iconst 0, 1) := by decide +kernel
theorem dX6_addWalks_3 : decode cX6_addWalks 3 = .ok (.istore 5, 2) := by decide +kernel
theorem dX6_addWalks_5 : decode cX6_addWalks 5 = .ok (.iload 5, 2) := by decide +kernel
theorem dX6_addWalks_7 : decode cX6_addWalks 7 = .ok (.iconst 4, 1) := by decide +kernel
theorem dX6_addWalks_8 : decode cX6_addWalks 8 = .ok (.if_icmp .gt 120, 3) := by decide +kernel
theorem dX6_addWalks_11 : decode cX6_addWalks 11 = .ok (.aload_n 0, 1) := by decide +kernel
theorem dX6_addWalks_12 : decode cX6_addWalks 12 = .ok (.getfield 49, 3) := by decide +kernel
theorem dX6_addWalks_15 : decode cX6_addWalks 15 = .ok (.aload_n 0, 1) := by decide +kernel
theorem dX6_addWalks_16 : decode cX6_addWalks 16 = .ok (.getfield 16, 3) := by decide +kernel
theorem dX6_addWalks_19 : decode cX6_addWalks 19 = .ok (.iload 5, 2) := by decide +kernel
theorem dX6_addWalks_21 : decode cX6_addWalks 21 = .ok (.invokevirtual 208, 3) := by decide +kernel
theorem dX6_addWalks_24 : decode cX6_addWalks 24 = .ok (.iconst 0, 1) := by decide +kernel
theorem dX6_addWalks_25 : decode cX6_addWalks 25 = .ok (.istore 6, 2) := by decide +kernel
theorem dX6_addWalks_27 : decode cX6_addWalks 27 = .ok (.iload 6, 2) := by decide +kernel
theorem dX6_addWalks_29 : decode cX6_addWalks 29 = .ok (.aload_n 0, 1) := by decide +kernel
theorem dX6_addWalks_30 : decode cX6_addWalks 30 = .ok (.getfield 16, 3) := by decide +kernel
theorem dX6_addWalks_33 : decode cX6_addWalks 33 = .ok (.getfield 82, 3) := by decide +kernel
theorem dX6_addWalks_36 : decode cX6_addWalks 36 = .ok (.if_icmp .ge 51, 3) := by decide +kernel
theorem dX6_addWalks_39 : decode cX6_addWalks 39 = .ok (.lload_n 3, 1) := by decide +kernel
theorem dX6_addWalks_40 : decode cX6_addWalks 40 = .ok (.aload_n 0, 1) := by decide +kernel
theorem dX6_addWalks_41 : decode cX6_addWalks 41 = .ok (.getfield 49, 3) := by decide +kernel
theorem dX6_addWalks_44 : decode cX6_addWalks 44 = .ok (.iload 6, 2) := by decide +kernel
theorem dX6_addWalks_46 : decode cX6_addWalks 46 = .ok (.invokevirtual 212, 3) := by decide +kernel
theorem dX6_addWalks_49 : decode cX6_addWalks 49 = .ok (.invokestatic 239, 3) := by decide +kernel
theorem dX6_addWalks_52 : decode cX6_addWalks 52 = .ok (.lstore_n 3, 1) := by decide +kernel
theorem dX6_addWalks_53 : decode cX6_addWalks 53 = .ok (.lload_n 3, 1) := by decide +kernel
theorem dX6_addWalks_54 : decode cX6_addWalks 54 = .ok (.aload_n 0, 1) := by decide +kernel
theorem dX6_addWalks_55 : decode cX6_addWalks 55 = .ok (.getfield 49, 3) := by decide +kernel
theorem dX6_addWalks_58 : decode cX6_addWalks 58 = .ok (.iload 6, 2) := by decide +kernel
theorem dX6_addWalks_60 : decode cX6_addWalks 60 = .ok (.invokevirtual 215, 3) := by decide +kernel
theorem dX6_addWalks_63 : decode cX6_addWalks 63 = .ok (.invokestatic 239, 3) := by decide +kernel
theorem dX6_addWalks_66 : decode cX6_addWalks 66 = .ok (.lstore_n 3, 1) := by decide +kernel
theorem dX6_addWalks_67 : decode cX6_addWalks 67 = .ok (.lload_n 3, 1) := by decide +kernel
theorem dX6_addWalks_68 : decode cX6_addWalks 68 = .ok (.aload_n 0, 1) := by decide +kernel
theorem dX6_addWalks_69 : decode cX6_addWalks 69 = .ok (.getfield 49, 3) := by decide +kernel
theorem dX6_addWalks_72 : decode cX6_addWalks 72 = .ok (.iload 6, 2) := by decide +kernel
theorem dX6_addWalks_74 : decode cX6_addWalks 74 = .ok (.invokevirtual 218, 3) := by decide +kernel
theorem dX6_addWalks_77 : decode cX6_addWalks 77 = .ok (.invokestatic 239, 3) := by decide +kernel
theorem dX6_addWalks_80 : decode cX6_addWalks 80 = .ok (.lstore_n 3, 1) := by decide +kernel
theorem dX6_addWalks_81 : decode cX6_addWalks 81 = .ok (.iinc 6 1, 3) := by decide +kernel
theorem dX6_addWalks_84 : decode cX6_addWalks 84 = .ok (.goto (-57), 3) := by decide +kernel
theorem dX6_addWalks_87 : decode cX6_addWalks 87 = .ok (.iconst 0, 1) := by decide +kernel
theorem dX6_addWalks_88 : decode cX6_addWalks 88 = .ok (.istore 6, 2) := by decide +kernel
theorem dX6_addWalks_90 : decode cX6_addWalks 90 = .ok (.iload 6, 2) := by decide +kernel
theorem dX6_addWalks_92 : decode cX6_addWalks 92 = .ok (.aload_n 0, 1) := by decide +kernel
theorem dX6_addWalks_93 : decode cX6_addWalks 93 = .ok (.getfield 16, 3) := by decide +kernel
theorem dX6_addWalks_96 : decode cX6_addWalks 96 = .ok (.getfield 82, 3) := by decide +kernel
theorem dX6_addWalks_99 : decode cX6_addWalks 99 = .ok (.if_icmp .ge 23, 3) := by decide +kernel
theorem dX6_addWalks_102 : decode cX6_addWalks 102 = .ok (.lload_n 3, 1) := by decide +kernel
theorem dX6_addWalks_103 : decode cX6_addWalks 103 = .ok (.aload_n 0, 1) := by decide +kernel
theorem dX6_addWalks_104 : decode cX6_addWalks 104 = .ok (.getfield 49, 3) := by decide +kernel
theorem dX6_addWalks_107 : decode cX6_addWalks 107 = .ok (.iload 6, 2) := by decide +kernel
theorem dX6_addWalks_109 : decode cX6_addWalks 109 = .ok (.invokevirtual 221, 3) := by decide +kernel
theorem dX6_addWalks_112 : decode cX6_addWalks 112 = .ok (.invokestatic 239, 3) := by decide +kernel
theorem dX6_addWalks_115 : decode cX6_addWalks 115 = .ok (.lstore_n 3, 1) := by decide +kernel
theorem dX6_addWalks_116 : decode cX6_addWalks 116 = .ok (.iinc 6 1, 3) := by decide +kernel
theorem dX6_addWalks_119 : decode cX6_addWalks 119 = .ok (.goto (-29), 3) := by decide +kernel
theorem dX6_addWalks_122 : decode cX6_addWalks 122 = .ok (.iinc 5 1, 3) := by decide +kernel
theorem dX6_addWalks_125 : decode cX6_addWalks 125 = .ok (.goto (-120), 3) := by decide +kernel
theorem dX6_addWalks_128 : decode cX6_addWalks 128 = .ok (.lload_n 3, 1) := by decide +kernel
theorem dX6_addWalks_129 : decode cX6_addWalks 129 = .ok (.lreturn, 1) := by decide +kernel
theorem dX6_isKind_0 : decode cX6_isKind 0 = .ok (.iload_n 0, 1) := by decide +kernel
theorem dX6_isKind_1 : decode cX6_isKind 1 = .ok (.ifCond .lt 12, 3) := by decide +kernel
theorem dX6_isKind_4 : decode cX6_isKind 4 = .ok (.iload_n 0, 1) := by decide +kernel
theorem dX6_isKind_5 : decode cX6_isKind 5 = .ok (.iconst 2, 1) := by decide +kernel
theorem dX6_isKind_6 : decode cX6_isKind 6 = .ok (.if_icmp .gt 7, 3) := by decide +kernel
theorem dX6_isKind_9 : decode cX6_isKind 9 = .ok (.iconst 1, 1) := by decide +kernel
theorem dX6_isKind_10 : decode cX6_isKind 10 = .ok (.goto 4, 3) := by decide +kernel
theorem dX6_isKind_13 : decode cX6_isKind 13 = .ok (.iconst 0, 1) := by decide +kernel
theorem dX6_isKind_14 : decode cX6_isKind 14 = .ok (.ireturn, 1) := by decide +kernel
theorem dX6_isStepCount_0 : decode cX6_isStepCount 0 = .ok (.iload_n 0, 1) := by decide +kernel
theorem dX6_isStepCount_1 : decode cX6_isStepCount 1 = .ok (.ifCond .lt 12, 3) := by decide +kernel
theorem dX6_isStepCount_4 : decode cX6_isStepCount 4 = .ok (.iload_n 0, 1) := by decide +kernel
theorem dX6_isStepCount_5 : decode cX6_isStepCount 5 = .ok (.iconst 4, 1) := by decide +kernel
theorem dX6_isStepCount_6 : decode cX6_isStepCount 6 = .ok (.if_icmp .gt 7, 3) := by decide +kernel
theorem dX6_isStepCount_9 : decode cX6_isStepCount 9 = .ok (.iconst 1, 1) := by decide +kernel
theorem dX6_isStepCount_10 : decode cX6_isStepCount 10 = .ok (.goto 4, 3) := by decide +kernel
theorem dX6_isStepCount_13 : decode cX6_isStepCount 13 = .ok (.iconst 0, 1) := by decide +kernel
theorem dX6_isStepCount_14 : decode cX6_isStepCount 14 = .ok (.ireturn, 1) := by decide +kernel
theorem dX6_bit_0 : decode cX6_bit 0 = .ok (.iload_n 0, 1) := by decide +kernel
theorem dX6_bit_1 : decode cX6_bit 1 = .ok (.iload_n 1, 1) := by decide +kernel
theorem dX6_bit_2 : decode cX6_bit 2 = .ok (.ishr, 1) := by decide +kernel
theorem dX6_bit_3 : decode cX6_bit 3 = .ok (.iconst 1, 1) := by decide +kernel
theorem dX6_bit_4 : decode cX6_bit 4 = .ok (.iand, 1) := by decide +kernel
theorem dX6_bit_5 : decode cX6_bit 5 = .ok (.ireturn, 1) := by decide +kernel
theorem dX6_prepareWeb_0 : decode cX6_prepareWeb 0 = .ok (.aload_n 0, 1) := by decide +kernel
theorem dX6_prepareWeb_1 : decode cX6_prepareWeb 1 = .ok (.getfield 45, 3) := by decide +kernel
theorem dX6_prepareWeb_4 : decode cX6_prepareWeb 4 = .ok (.aload_n 0, 1) := by decide +kernel
theorem dX6_prepareWeb_5 : decode cX6_prepareWeb 5 = .ok (.getfield 16, 3) := by decide +kernel
theorem dX6_prepareWeb_8 : decode cX6_prepareWeb 8 = .ok (.invokevirtual 179, 3) := by decide +kernel
theorem dX6_prepareWeb_11 : decode cX6_prepareWeb 11 = .ok (.aload_n 0, 1) := by decide +kernel
theorem dX6_prepareWeb_12 : decode cX6_prepareWeb 12 = .ok (.getfield 45, 3) := by decide +kernel
theorem dX6_prepareWeb_15 : decode cX6_prepareWeb 15 = .ok (.aload_n 0, 1) := by decide +kernel
theorem dX6_prepareWeb_16 : decode cX6_prepareWeb 16 = .ok (.getfield 16, 3) := by decide +kernel
theorem dX6_prepareWeb_19 : decode cX6_prepareWeb 19 = .ok (.invokevirtual 186, 3) := by decide +kernel
theorem dX6_prepareWeb_22 : decode cX6_prepareWeb 22 = .ok (.return_, 1) := by decide +kernel
theorem dX6_prepareWebWithout_0 : decode cX6_prepareWebWithout 0 = .ok (.aload_n 0, 1) := by decide +kernel
theorem dX6_prepareWebWithout_1 : decode cX6_prepareWebWithout 1 = .ok (.getfield 45, 3) := by decide +kernel
theorem dX6_prepareWebWithout_4 : decode cX6_prepareWebWithout 4 = .ok (.aload_n 0, 1) := by decide +kernel
theorem dX6_prepareWebWithout_5 : decode cX6_prepareWebWithout 5 = .ok (.getfield 16, 3) := by decide +kernel
theorem dX6_prepareWebWithout_8 : decode cX6_prepareWebWithout 8 = .ok (.invokevirtual 179, 3) := by decide +kernel
theorem dX6_prepareWebWithout_11 : decode cX6_prepareWebWithout 11 = .ok (.aload_n 0, 1) := by decide +kernel
theorem dX6_prepareWebWithout_12 : decode cX6_prepareWebWithout 12 = .ok (.getfield 45, 3) := by decide +kernel
theorem dX6_prepareWebWithout_15 : decode cX6_prepareWebWithout 15 = .ok (.iload_n 1, 1) := by decide +kernel
theorem dX6_prepareWebWithout_16 : decode cX6_prepareWebWithout 16 = .ok (.iload_n 2, 1) := by decide +kernel
theorem dX6_prepareWebWithout_17 : decode cX6_prepareWebWithout 17 = .ok (.invokevirtual 273, 3) := by decide +kernel
theorem dX6_prepareWebWithout_20 : decode cX6_prepareWebWithout 20 = .ok (.aload_n 0, 1) := by decide +kernel
theorem dX6_prepareWebWithout_21 : decode cX6_prepareWebWithout 21 = .ok (.getfield 45, 3) := by decide +kernel
theorem dX6_prepareWebWithout_24 : decode cX6_prepareWebWithout 24 = .ok (.aload_n 0, 1) := by decide +kernel
theorem dX6_prepareWebWithout_25 : decode cX6_prepareWebWithout 25 = .ok (.getfield 16, 3) := by decide +kernel
theorem dX6_prepareWebWithout_28 : decode cX6_prepareWebWithout 28 = .ok (.invokevirtual 186, 3) := by decide +kernel
theorem dX6_prepareWebWithout_31 : decode cX6_prepareWebWithout 31 = .ok (.return_, 1) := by decide +kernel
theorem dX6_admitted_0 : decode cX6_admitted 0 = .ok (.aload_n 0, 1) := by decide +kernel
theorem dX6_admitted_1 : decode cX6_admitted 1 = .ok (.getfield 37, 3) := by decide +kernel
theorem dX6_admitted_4 : decode cX6_admitted 4 = .ok (.invokevirtual 276, 3) := by decide +kernel
theorem dX6_admitted_7 : decode cX6_admitted 7 = .ok (.iconst 0, 1) := by decide +kernel
theorem dX6_admitted_8 : decode cX6_admitted 8 = .ok (.istore_n 2, 1) := by decide +kernel
theorem dX6_admitted_9 : decode cX6_admitted 9 = .ok (.iconst 0, 1) := by decide +kernel
theorem dX6_admitted_10 : decode cX6_admitted 10 = .ok (.istore_n 3, 1) := by decide +kernel
theorem dX6_admitted_11 : decode cX6_admitted 11 = .ok (.iload_n 3, 1) := by decide +kernel
theorem dX6_admitted_12 : decode cX6_admitted 12 = .ok (.aload_n 0, 1) := by decide +kernel
theorem dX6_admitted_13 : decode cX6_admitted 13 = .ok (.getfield 16, 3) := by decide +kernel
theorem dX6_admitted_16 : decode cX6_admitted 16 = .ok (.getfield 82, 3) := by decide +kernel
theorem dX6_admitted_19 : decode cX6_admitted 19 = .ok (.if_icmp .ge 35, 3) := by decide +kernel
theorem dX6_admitted_22 : decode cX6_admitted 22 = .ok (.iload_n 1, 1) := by decide +kernel
theorem dX6_admitted_23 : decode cX6_admitted 23 = .ok (.iload_n 3, 1) := by decide +kernel
theorem dX6_admitted_24 : decode cX6_admitted 24 = .ok (.invokestatic 172, 3) := by decide +kernel
theorem dX6_admitted_27 : decode cX6_admitted 27 = .ok (.iconst 1, 1) := by decide +kernel
theorem dX6_admitted_28 : decode cX6_admitted 28 = .ok (.if_icmp .ne 20, 3) := by decide +kernel
theorem dX6_admitted_31 : decode cX6_admitted 31 = .ok (.aload_n 0, 1) := by decide +kernel
theorem dX6_admitted_32 : decode cX6_admitted 32 = .ok (.getfield 37, 3) := by decide +kernel
theorem dX6_admitted_35 : decode cX6_admitted 35 = .ok (.iload_n 3, 1) := by decide +kernel
theorem dX6_admitted_36 : decode cX6_admitted 36 = .ok (.invokevirtual 277, 3) := by decide +kernel
theorem dX6_admitted_39 : decode cX6_admitted 39 = .ok (.ifCond .eq 9, 3) := by decide +kernel
theorem dX6_admitted_42 : decode cX6_admitted 42 = .ok (.iload_n 2, 1) := by decide +kernel
theorem dX6_admitted_43 : decode cX6_admitted 43 = .ok (.iconst 1, 1) := by decide +kernel
theorem dX6_admitted_44 : decode cX6_admitted 44 = .ok (.iload_n 3, 1) := by decide +kernel
theorem dX6_admitted_45 : decode cX6_admitted 45 = .ok (.ishl, 1) := by decide +kernel
theorem dX6_admitted_46 : decode cX6_admitted 46 = .ok (.ior, 1) := by decide +kernel
theorem dX6_admitted_47 : decode cX6_admitted 47 = .ok (.istore_n 2, 1) := by decide +kernel
theorem dX6_admitted_48 : decode cX6_admitted 48 = .ok (.iinc 3 1, 3) := by decide +kernel
theorem dX6_admitted_51 : decode cX6_admitted 51 = .ok (.goto (-40), 3) := by decide +kernel
theorem dX6_admitted_54 : decode cX6_admitted 54 = .ok (.iload_n 2, 1) := by decide +kernel
theorem dX6_admitted_55 : decode cX6_admitted 55 = .ok (.ireturn, 1) := by decide +kernel
theorem dX6_takenIn_0 : decode cX6_takenIn 0 = .ok (.aload_n 0, 1) := by decide +kernel
theorem dX6_takenIn_1 : decode cX6_takenIn 1 = .ok (.getfield 16, 3) := by decide +kernel
theorem dX6_takenIn_4 : decode cX6_takenIn 4 = .ok (.iconst 2, 1) := by decide +kernel
theorem dX6_takenIn_5 : decode cX6_takenIn 5 = .ok (.invokevirtual 106, 3) := by decide +kernel
theorem dX6_takenIn_8 : decode cX6_takenIn 8 = .ok (.istore_n 1, 1) := by decide +kernel
theorem dX6_takenIn_9 : decode cX6_takenIn 9 = .ok (.iconst 0, 1) := by decide +kernel
theorem dX6_takenIn_10 : decode cX6_takenIn 10 = .ok (.istore_n 2, 1) := by decide +kernel
theorem dX6_takenIn_11 : decode cX6_takenIn 11 = .ok (.iconst 0, 1) := by decide +kernel
theorem dX6_takenIn_12 : decode cX6_takenIn 12 = .ok (.istore_n 3, 1) := by decide +kernel
theorem dX6_takenIn_13 : decode cX6_takenIn 13 = .ok (.iload_n 3, 1) := by decide +kernel
theorem dX6_takenIn_14 : decode cX6_takenIn 14 = .ok (.aload_n 0, 1) := by decide +kernel
theorem dX6_takenIn_15 : decode cX6_takenIn 15 = .ok (.getfield 16, 3) := by decide +kernel
theorem dX6_takenIn_18 : decode cX6_takenIn 18 = .ok (.getfield 82, 3) := by decide +kernel
theorem dX6_takenIn_21 : decode cX6_takenIn 21 = .ok (.if_icmp .ge 54, 3) := by decide +kernel
theorem dX6_takenIn_24 : decode cX6_takenIn 24 = .ok (.aload_n 0, 1) := by decide +kernel
theorem dX6_takenIn_25 : decode cX6_takenIn 25 = .ok (.getfield 16, 3) := by decide +kernel
theorem dX6_takenIn_28 : decode cX6_takenIn 28 = .ok (.getfield 103, 3) := by decide +kernel
theorem dX6_takenIn_31 : decode cX6_takenIn 31 = .ok (.iload_n 3, 1) := by decide +kernel
theorem dX6_takenIn_32 : decode cX6_takenIn 32 = .ok (.iaload, 1) := by decide +kernel
theorem dX6_takenIn_33 : decode cX6_takenIn 33 = .ok (.iconst 2, 1) := by decide +kernel
theorem dX6_takenIn_34 : decode cX6_takenIn 34 = .ok (.if_icmp .eq 35, 3) := by decide +kernel
theorem dX6_takenIn_37 : decode cX6_takenIn 37 = .ok (.aload_n 0, 1) := by decide +kernel
theorem dX6_takenIn_38 : decode cX6_takenIn 38 = .ok (.getfield 45, 3) := by decide +kernel
theorem dX6_takenIn_41 : decode cX6_takenIn 41 = .ok (.getfield 166, 3) := by decide +kernel
theorem dX6_takenIn_44 : decode cX6_takenIn 44 = .ok (.iload_n 3, 1) := by decide +kernel
theorem dX6_takenIn_45 : decode cX6_takenIn 45 = .ok (.iaload, 1) := by decide +kernel
theorem dX6_takenIn_46 : decode cX6_takenIn 46 = .ok (.ifCond .le 23, 3) := by decide +kernel
theorem dX6_takenIn_49 : decode cX6_takenIn 49 = .ok (.aload_n 0, 1) := by decide +kernel
theorem dX6_takenIn_50 : decode cX6_takenIn 50 = .ok (.getfield 16, 3) := by decide +kernel
theorem dX6_takenIn_53 : decode cX6_takenIn 53 = .ok (.getfield 122, 3) := by decide +kernel
theorem dX6_takenIn_56 : decode cX6_takenIn 56 = .ok (.iload_n 3, 1) := by decide +kernel
theorem dX6_takenIn_57 : decode cX6_takenIn 57 = .ok (.iaload, 1) := by decide +kernel
theorem dX6_takenIn_58 : decode cX6_takenIn 58 = .ok (.iload_n 1, 1) := by decide +kernel
theorem dX6_takenIn_59 : decode cX6_takenIn 59 = .ok (.iand, 1) := by decide +kernel
theorem dX6_takenIn_60 : decode cX6_takenIn 60 = .ok (.ifCond .eq 9, 3) := by decide +kernel
theorem dX6_takenIn_63 : decode cX6_takenIn 63 = .ok (.iload_n 2, 1) := by decide +kernel
theorem dX6_takenIn_64 : decode cX6_takenIn 64 = .ok (.iconst 1, 1) := by decide +kernel
theorem dX6_takenIn_65 : decode cX6_takenIn 65 = .ok (.iload_n 3, 1) := by decide +kernel
theorem dX6_takenIn_66 : decode cX6_takenIn 66 = .ok (.ishl, 1) := by decide +kernel
theorem dX6_takenIn_67 : decode cX6_takenIn 67 = .ok (.ior, 1) := by decide +kernel
theorem dX6_takenIn_68 : decode cX6_takenIn 68 = .ok (.istore_n 2, 1) := by decide +kernel
theorem dX6_takenIn_69 : decode cX6_takenIn 69 = .ok (.iinc 3 1, 3) := by decide +kernel
theorem dX6_takenIn_72 : decode cX6_takenIn 72 = .ok (.goto (-59), 3) := by decide +kernel
theorem dX6_takenIn_75 : decode cX6_takenIn 75 = .ok (.iload_n 2, 1) := by decide +kernel
theorem dX6_takenIn_76 : decode cX6_takenIn 76 = .ok (.ireturn, 1) := by decide +kernel
theorem dX6_waysTo_0 : decode cX6_waysTo 0 = .ok (.aload_n 0, 1) := by decide +kernel
theorem dX6_waysTo_1 : decode cX6_waysTo 1 = .ok (.getfield 16, 3) := by decide +kernel
theorem dX6_waysTo_4 : decode cX6_waysTo 4 = .ok (.getfield 103, 3) := by decide +kernel
theorem dX6_waysTo_7 : decode cX6_waysTo 7 = .ok (.iload_n 1, 1) := by decide +kernel
theorem dX6_waysTo_8 : decode cX6_waysTo 8 = .ok (.iaload, 1) := by decide +kernel
theorem dX6_waysTo_9 : decode cX6_waysTo 9 = .ok (.iconst 1, 1) := by decide +kernel
theorem dX6_waysTo_10 : decode cX6_waysTo 10 = .ok (.if_icmp .ne 5, 3) := by decide +kernel
theorem dX6_waysTo_13 : decode cX6_waysTo 13 = .ok (.iconst (-1), 1) := by decide +kernel
theorem dX6_waysTo_14 : decode cX6_waysTo 14 = .ok (.ireturn, 1) := by decide +kernel
theorem dX6_waysTo_15 : decode cX6_waysTo 15 = .ok (.aload_n 0, 1) := by decide +kernel
theorem dX6_waysTo_16 : decode cX6_waysTo 16 = .ok (.getfield 45, 3) := by decide +kernel
theorem dX6_waysTo_19 : decode cX6_waysTo 19 = .ok (.aload_n 0, 1) := by decide +kernel
theorem dX6_waysTo_20 : decode cX6_waysTo 20 = .ok (.getfield 16, 3) := by decide +kernel
theorem dX6_waysTo_23 : decode cX6_waysTo 23 = .ok (.invokevirtual 179, 3) := by decide +kernel
theorem dX6_waysTo_26 : decode cX6_waysTo 26 = .ok (.aload_n 0, 1) := by decide +kernel
theorem dX6_waysTo_27 : decode cX6_waysTo 27 = .ok (.getfield 45, 3) := by decide +kernel
theorem dX6_waysTo_30 : decode cX6_waysTo 30 = .ok (.iload_n 1, 1) := by decide +kernel
theorem dX6_waysTo_31 : decode cX6_waysTo 31 = .ok (.invokevirtual 280, 3) := by decide +kernel
theorem dX6_waysTo_34 : decode cX6_waysTo 34 = .ok (.aload_n 0, 1) := by decide +kernel
theorem dX6_waysTo_35 : decode cX6_waysTo 35 = .ok (.getfield 37, 3) := by decide +kernel
theorem dX6_waysTo_38 : decode cX6_waysTo 38 = .ok (.invokevirtual 276, 3) := by decide +kernel
theorem dX6_waysTo_41 : decode cX6_waysTo 41 = .ok (.iconst 0, 1) := by decide +kernel
theorem dX6_waysTo_42 : decode cX6_waysTo 42 = .ok (.istore_n 2, 1) := by decide +kernel
theorem dX6_waysTo_43 : decode cX6_waysTo 43 = .ok (.iconst 0, 1) := by decide +kernel
theorem dX6_waysTo_44 : decode cX6_waysTo 44 = .ok (.istore_n 3, 1) := by decide +kernel
theorem dX6_waysTo_45 : decode cX6_waysTo 45 = .ok (.iload_n 3, 1) := by decide +kernel
theorem dX6_waysTo_46 : decode cX6_waysTo 46 = .ok (.bipush 9, 2) := by decide +kernel
theorem dX6_waysTo_48 : decode cX6_waysTo 48 = .ok (.if_icmp .ge 23, 3) := by decide +kernel
theorem dX6_waysTo_51 : decode cX6_waysTo 51 = .ok (.aload_n 0, 1) := by decide +kernel
theorem dX6_waysTo_52 : decode cX6_waysTo 52 = .ok (.getfield 37, 3) := by decide +kernel
theorem dX6_waysTo_55 : decode cX6_waysTo 55 = .ok (.iload_n 1, 1) := by decide +kernel
theorem dX6_waysTo_56 : decode cX6_waysTo 56 = .ok (.invokevirtual 277, 3) := by decide +kernel
theorem dX6_waysTo_59 : decode cX6_waysTo 59 = .ok (.ifCond .eq 12, 3) := by decide +kernel
theorem dX6_waysTo_62 : decode cX6_waysTo 62 = .ok (.iinc 2 1, 3) := by decide +kernel
theorem dX6_waysTo_65 : decode cX6_waysTo 65 = .ok (.iinc 3 1, 3) := by decide +kernel
theorem dX6_waysTo_68 : decode cX6_waysTo 68 = .ok (.goto (-23), 3) := by decide +kernel
theorem dX6_waysTo_71 : decode cX6_waysTo 71 = .ok (.iload_n 2, 1) := by decide +kernel
theorem dX6_waysTo_72 : decode cX6_waysTo 72 = .ok (.ireturn, 1) := by decide +kernel
end
section
theorem dX7_init_0 : decode cX7_init 0 = .ok (.aload_n 0, 1) := by decide +kernel
theorem dX7_init_1 : decode cX7_init 1 = .ok (.invokespecial 1, 3) := by decide +kernel
theorem dX7_init_4 : decode cX7_init 4 = .ok (.aload_n 0, 1) := by decide +kernel
theorem dX7_init_5 : decode cX7_init 5 = .ok (.bipush 9, 2) := by decide +kernel
theorem dX7_init_7 : decode cX7_init 7 = .ok (.newarray .int, 2) := by decide +kernel
theorem dX7_init_9 : decode cX7_init 9 = .ok (.putfield 7, 3) := by decide +kernel
theorem dX7_init_12 : decode cX7_init 12 = .ok (.aload_n 0, 1) := by decide +kernel
theorem dX7_init_13 : decode cX7_init 13 = .ok (.bipush 9, 2) := by decide +kernel
theorem dX7_init_15 : decode cX7_init 15 = .ok (.newarray .int, 2) := by decide +kernel
theorem dX7_init_17 : decode cX7_init 17 = .ok (.putfield 13, 3) := by decide +kernel
theorem dX7_init_20 : decode cX7_init 20 = .ok (.aload_n 0, 1) := by decide +kernel
theorem dX7_init_21 : decode cX7_init 21 = .ok (.iconst 5, 1) := by decide +kernel
theorem dX7_init_22 : decode cX7_init 22 = .ok (.newarray .int, 2) := by decide +kernel
theorem dX7_init_24 : decode cX7_init 24 = .ok (.putfield 16, 3) := by decide +kernel
theorem dX7_init_27 : decode cX7_init 27 = .ok (.aload_n 0, 1) := by decide +kernel
theorem dX7_init_28 : decode cX7_init 28 = .ok (.bipush 110, 2) := by decide +kernel
theorem dX7_init_30 : decode cX7_init 30 = .ok (.newarray .int, 2) := by decide +kernel
theorem dX7_init_32 : decode cX7_init 32 = .ok (.putfield 19, 3) := by decide +kernel
theorem dX7_init_35 : decode cX7_init 35 = .ok (.aload_n 0, 1) := by decide +kernel
theorem dX7_init_36 : decode cX7_init 36 = .ok (.iconst 5, 1) := by decide +kernel
theorem dX7_init_37 : decode cX7_init 37 = .ok (.newarray .int, 2) := by decide +kernel
theorem dX7_init_39 : decode cX7_init 39 = .ok (.putfield 22, 3) := by decide +kernel
theorem dX7_init_42 : decode cX7_init 42 = .ok (.aload_n 0, 1) := by decide +kernel
theorem dX7_init_43 : decode cX7_init 43 = .ok (.bipush 9, 2) := by decide +kernel
theorem dX7_init_45 : decode cX7_init 45 = .ok (.newarray .int, 2) := by decide +kernel
theorem dX7_init_47 : decode cX7_init 47 = .ok (.putfield 25, 3) := by decide +kernel
theorem dX7_init_50 : decode cX7_init 50 = .ok (.aload_n 0, 1) := by decide +kernel
theorem dX7_init_51 : decode cX7_init 51 = .ok (.bipush 9, 2) := by decide +kernel
theorem dX7_init_53 : decode cX7_init 53 = .ok (.newarray .int, 2) := by decide +kernel
theorem dX7_init_55 : decode cX7_init 55 = .ok (.putfield 28, 3) := by decide +kernel
theorem dX7_init_58 : decode cX7_init 58 = .ok (.aload_n 0, 1) := by decide +kernel
theorem dX7_init_59 : decode cX7_init 59 = .ok (.bipush 9, 2) := by decide +kernel
theorem dX7_init_61 : decode cX7_init 61 = .ok (.newarray .int, 2) := by decide +kernel
theorem dX7_init_63 : decode cX7_init 63 = .ok (.putfield 31, 3) := by decide +kernel
theorem dX7_init_66 : decode cX7_init 66 = .ok (.aload_n 0, 1) := by decide +kernel
theorem dX7_init_67 : decode cX7_init 67 = .ok (.bipush 9, 2) := by decide +kernel
theorem dX7_init_69 : decode cX7_init 69 = .ok (.newarray .int, 2) := by decide +kernel
theorem dX7_init_71 : decode cX7_init 71 = .ok (.putfield 34, 3) := by decide +kernel
theorem dX7_init_74 : decode cX7_init 74 = .ok (.aload_n 0, 1) := by decide +kernel
theorem dX7_init_75 : decode cX7_init 75 = .ok (.sipush 512, 3) := by decide +kernel
theorem dX7_init_78 : decode cX7_init 78 = .ok (.newarray .int, 2) := by decide +kernel
theorem dX7_init_80 : decode cX7_init 80 = .ok (.putfield 37, 3) := by decide +kernel
theorem dX7_init_83 : decode cX7_init 83 = .ok (.aload_n 0, 1) := by decide +kernel
theorem dX7_init_84 : decode cX7_init 84 = .ok (.bipush 9, 2) := by decide +kernel
theorem dX7_init_86 : decode cX7_init 86 = .ok (.newarray .int, 2) := by decide +kernel
theorem dX7_init_88 : decode cX7_init 88 = .ok (.putfield 40, 3) := by decide +kernel
theorem dX7_init_91 : decode cX7_init 91 = .ok (.aload_n 0, 1) := by decide +kernel
theorem dX7_init_92 : decode cX7_init 92 = .ok (.bipush 9, 2) := by decide +kernel
theorem dX7_init_94 : decode cX7_init 94 = .ok (.newarray .long, 2) := by decide +kernel
theorem dX7_init_96 : decode cX7_init 96 = .ok (.putfield 43, 3) := by decide +kernel
theorem dX7_init_99 : decode cX7_init 99 = .ok (.aload_n 0, 1) := by decide +kernel
theorem dX7_init_100 : decode cX7_init 100 = .ok (.bipush 9, 2) := by decide +kernel
theorem dX7_init_102 : decode cX7_init 102 = .ok (.newarray .long, 2) := by decide +kernel
theorem dX7_init_104 : decode cX7_init 104 = .ok (.putfield 47, 3) := by decide +kernel
theorem dX7_init_107 : decode cX7_init 107 = .ok (.return_, 1) := by decide +kernel
theorem dX7_within_0 : decode cX7_within 0 = .ok (.iload_n 0, 1) := by decide +kernel
theorem dX7_within_1 : decode cX7_within 1 = .ok (.iload_n 1, 1) := by decide +kernel
theorem dX7_within_2 : decode cX7_within 2 = .ok (.if_icmp .lt 12, 3) := by decide +kernel
theorem dX7_within_5 : decode cX7_within 5 = .ok (.iload_n 0, 1) := by decide +kernel
theorem dX7_within_6 : decode cX7_within 6 = .ok (.iload_n 2, 1) := by decide +kernel
theorem dX7_within_7 : decode cX7_within 7 = .ok (.if_icmp .gt 7, 3) := by decide +kernel
theorem dX7_within_10 : decode cX7_within 10 = .ok (.iconst 1, 1) := by decide +kernel
theorem dX7_within_11 : decode cX7_within 11 = .ok (.goto 4, 3) := by decide +kernel
theorem dX7_within_14 : decode cX7_within 14 = .ok (.iconst 0, 1) := by decide +kernel
theorem dX7_within_15 : decode cX7_within 15 = .ok (.ireturn, 1) := by decide +kernel
theorem dX7_has_0 : decode cX7_has 0 = .ok (.iload_n 0, 1) := by decide +kernel
theorem dX7_has_1 : decode cX7_has 1 = .ok (.iload_n 1, 1) := by decide +kernel
theorem dX7_has_2 : decode cX7_has 2 = .ok (.ishr, 1) := by decide +kernel
theorem dX7_has_3 : decode cX7_has 3 = .ok (.iconst 1, 1) := by decide +kernel
theorem dX7_has_4 : decode cX7_has 4 = .ok (.iand, 1) := by decide +kernel
theorem dX7_has_5 : decode cX7_has 5 = .ok (.iconst 1, 1) := by decide +kernel
theorem dX7_has_6 : decode cX7_has 6 = .ok (.if_icmp .ne 7, 3) := by decide +kernel
theorem dX7_has_9 : decode cX7_has 9 = .ok (.iconst 1, 1) := by decide +kernel
theorem dX7_has_10 : decode cX7_has 10 = .ok (.goto 4, 3) := by decide +kernel
theorem dX7_has_13 : decode cX7_has 13 = .ok (.iconst 0, 1) := by decide +kernel
theorem dX7_has_14 : decode cX7_has 14 = .ok (.ireturn, 1) := by decide +kernel
theorem dX7_size_0 : decode cX7_size 0 = .ok (.iconst 0, 1) := by decide +kernel
theorem dX7_size_1 : decode cX7_size 1 = .ok (.istore_n 1, 1) := by decide +kernel
theorem dX7_size_2 : decode cX7_size 2 = .ok (.iconst 0, 1) := by decide +kernel
theorem dX7_size_3 : decode cX7_size 3 = .ok (.istore_n 2, 1) := by decide +kernel
theorem dX7_size_4 : decode cX7_size 4 = .ok (.iload_n 2, 1) := by decide +kernel
theorem dX7_size_5 : decode cX7_size 5 = .ok (.bipush 9, 2) := by decide +kernel
theorem dX7_size_7 : decode cX7_size 7 = .ok (.if_icmp .ge 17, 3) := by decide +kernel
theorem dX7_size_10 : decode cX7_size 10 = .ok (.iload_n 1, 1) := by decide +kernel
theorem dX7_size_11 : decode cX7_size 11 = .ok (.iload_n 0, 1) := by decide +kernel
theorem dX7_size_12 : decode cX7_size 12 = .ok (.iload_n 2, 1) := by decide +kernel
theorem dX7_size_13 : decode cX7_size 13 = .ok (.ishr, 1) := by decide +kernel
theorem dX7_size_14 : decode cX7_size 14 = .ok (.iconst 1, 1) := by decide +kernel
theorem dX7_size_15 : decode cX7_size 15 = .ok (.iand, 1) := by decide +kernel
theorem dX7_size_16 : decode cX7_size 16 = .ok (.iadd, 1) := by decide +kernel
theorem dX7_size_17 : decode cX7_size 17 = .ok (.istore_n 1, 1) := by decide +kernel
theorem dX7_size_18 : decode cX7_size 18 = .ok (.iinc 2 1, 3) := by decide +kernel
theorem dX7_size_21 : decode cX7_size 21 = .ok (.goto (-17), 3) := by decide +kernel
theorem dX7_size_24 : decode cX7_size 24 = .ok (.iload_n 1, 1) := by decide +kernel
theorem dX7_size_25 : decode cX7_size 25 = .ok (.ireturn, 1) := by decide +kernel
theorem dX7_letter_0 : decode cX7_letter 0 = .ok (.iload_n 1, 1) := by decide +kernel
theorem dX7_letter_1 : decode cX7_letter 1 = .ok (.bipush 32, 2) := by decide +kernel
theorem dX7_letter_3 : decode cX7_letter 3 = .ok (.bipush 126, 2) := by decide +kernel
theorem dX7_letter_5 : decode cX7_letter 5 = .ok (.invokestatic 50, 3) := by decide +kernel
theorem dX7_letter_8 : decode cX7_letter 8 = .ok (.ifCond .ne 6, 3) := by decide +kernel
theorem dX7_letter_11 : decode cX7_letter 11 = .ok (.bipush (-102), 2) := by decide +kernel
theorem dX7_letter_13 : decode cX7_letter 13 = .ok (.ireturn, 1) := by decide +kernel
theorem dX7_letter_14 : decode cX7_letter 14 = .ok (.aload_n 0, 1) := by decide +kernel
theorem dX7_letter_15 : decode cX7_letter 15 = .ok (.getfield 54, 3) := by decide +kernel
theorem dX7_letter_18 : decode cX7_letter 18 = .ok (.bipush 110, 2) := by decide +kernel
theorem dX7_letter_20 : decode cX7_letter 20 = .ok (.if_icmp .ne 6, 3) := by decide +kernel
theorem dX7_letter_23 : decode cX7_letter 23 = .ok (.bipush (-104), 2) := by decide +kernel
theorem dX7_letter_25 : decode cX7_letter 25 = .ok (.ireturn, 1) := by decide +kernel
theorem dX7_letter_26 : decode cX7_letter 26 = .ok (.aload_n 0, 1) := by decide +kernel
theorem dX7_letter_27 : decode cX7_letter 27 = .ok (.getfield 19, 3) := by decide +kernel
theorem dX7_letter_30 : decode cX7_letter 30 = .ok (.aload_n 0, 1) := by decide +kernel
theorem dX7_letter_31 : decode cX7_letter 31 = .ok (.getfield 54, 3) := by decide +kernel
theorem dX7_letter_34 : decode cX7_letter 34 = .ok (.iload_n 1, 1) := by decide +kernel
theorem dX7_letter_35 : decode cX7_letter 35 = .ok (.iastore, 1) := by decide +kernel
theorem dX7_letter_36 : decode cX7_letter 36 = .ok (.aload_n 0, 1) := by decide +kernel
theorem dX7_letter_37 : decode cX7_letter 37 = .ok (.dup, 1) := by decide +kernel
theorem dX7_letter_38 : decode cX7_letter 38 = .ok (.getfield 54, 3) := by decide +kernel
theorem dX7_letter_41 : decode cX7_letter 41 = .ok (.iconst 1, 1) := by decide +kernel
theorem dX7_letter_42 : decode cX7_letter 42 = .ok (.iadd, 1) := by decide +kernel
theorem dX7_letter_43 : decode cX7_letter 43 = .ok (.putfield 54, 3) := by decide +kernel
theorem dX7_letter_46 : decode cX7_letter 46 = .ok (.aload_n 0, 1) := by decide +kernel
theorem dX7_letter_47 : decode cX7_letter 47 = .ok (.getfield 54, 3) := by decide +kernel
theorem dX7_letter_50 : decode cX7_letter 50 = .ok (.ireturn, 1) := by decide +kernel
theorem dX7_blank_0 : decode cX7_blank 0 = .ok (.aload_n 0, 1) := by decide +kernel
theorem dX7_blank_1 : decode cX7_blank 1 = .ok (.getfield 54, 3) := by decide +kernel
theorem dX7_blank_4 : decode cX7_blank 4 = .ok (.istore_n 1, 1) := by decide +kernel
theorem dX7_blank_5 : decode cX7_blank 5 = .ok (.aload_n 0, 1) := by decide +kernel
theorem dX7_blank_6 : decode cX7_blank 6 = .ok (.iconst 0, 1) := by decide +kernel
theorem dX7_blank_7 : decode cX7_blank 7 = .ok (.putfield 54, 3) := by decide +kernel
theorem dX7_blank_10 : decode cX7_blank 10 = .ok (.iload_n 1, 1) := by decide +kernel
theorem dX7_blank_11 : decode cX7_blank 11 = .ok (.ireturn, 1) := by decide +kernel
theorem dX7_canVouch_0 : decode cX7_canVouch 0 = .ok (.iload_n 1, 1) := by decide +kernel
theorem dX7_canVouch_1 : decode cX7_canVouch 1 = .ok (.aload_n 0, 1) := by decide +kernel
theorem dX7_canVouch_2 : decode cX7_canVouch 2 = .ok (.getfield 58, 3) := by decide +kernel
theorem dX7_canVouch_5 : decode cX7_canVouch 5 = .ok (.if_icmp .le 23, 3) := by decide +kernel
theorem dX7_canVouch_8 : decode cX7_canVouch 8 = .ok (.iload_n 1, 1) := by decide +kernel
theorem dX7_canVouch_9 : decode cX7_canVouch 9 = .ok (.aload_n 0, 1) := by decide +kernel
theorem dX7_canVouch_10 : decode cX7_canVouch 10 = .ok (.getfield 61, 3) := by decide +kernel
theorem dX7_canVouch_13 : decode cX7_canVouch 13 = .ok (.if_icmp .ge 15, 3) := by decide +kernel
theorem dX7_canVouch_16 : decode cX7_canVouch 16 = .ok (.iload_n 1, 1) := by decide +kernel
theorem dX7_canVouch_17 : decode cX7_canVouch 17 = .ok (.aload_n 0, 1) := by decide +kernel
theorem dX7_canVouch_18 : decode cX7_canVouch 18 = .ok (.getfield 64, 3) := by decide +kernel
theorem dX7_canVouch_21 : decode cX7_canVouch 21 = .ok (.if_icmp .eq 7, 3) := by decide +kernel
theorem dX7_canVouch_24 : decode cX7_canVouch 24 = .ok (.iconst 1, 1) := by decide +kernel
theorem dX7_canVouch_25 : decode cX7_canVouch 25 = .ok (.goto 4, 3) := by decide +kernel
theorem dX7_canVouch_28 : decode cX7_canVouch 28 = .ok (.iconst 0, 1) := by decide +kernel
theorem dX7_canVouch_29 : decode cX7_canVouch 29 = .ok (.ireturn, 1) := by decide +kernel
theorem dX7_canBegin_0 : decode cX7_canBegin 0 = .ok (.iconst 0, 1) := by decide +kernel
theorem dX7_canBegin_1 : decode cX7_canBegin 1 = .ok (.istore_n 1, 1) := by decide +kernel
theorem dX7_canBegin_2 : decode cX7_canBegin 2 = .ok (.iconst 0, 1) := by decide +kernel
theorem dX7_canBegin_3 : decode cX7_canBegin 3 = .ok (.istore_n 2, 1) := by decide +kernel
theorem dX7_canBegin_4 : decode cX7_canBegin 4 = .ok (.iload_n 2, 1) := by decide +kernel
theorem dX7_canBegin_5 : decode cX7_canBegin 5 = .ok (.bipush 9, 2) := by decide +kernel
theorem dX7_canBegin_7 : decode cX7_canBegin 7 = .ok (.if_icmp .ge 27, 3) := by decide +kernel
theorem dX7_canBegin_10 : decode cX7_canBegin 10 = .ok (.iload_n 1, 1) := by decide +kernel
theorem dX7_canBegin_11 : decode cX7_canBegin 11 = .ok (.ifCond .ne 11, 3) := by decide +kernel
theorem dX7_canBegin_14 : decode cX7_canBegin 14 = .ok (.aload_n 0, 1) := by decide +kernel
theorem dX7_canBegin_15 : decode cX7_canBegin 15 = .ok (.iload_n 2, 1) := by decide +kernel
theorem dX7_canBegin_16 : decode cX7_canBegin 16 = .ok (.invokevirtual 67, 3) := by decide +kernel
theorem dX7_canBegin_19 : decode cX7_canBegin 19 = .ok (.ifCond .eq 7, 3) := by decide +kernel
theorem dX7_canBegin_22 : decode cX7_canBegin 22 = .ok (.iconst 1, 1) := by decide +kernel
theorem dX7_canBegin_23 : decode cX7_canBegin 23 = .ok (.goto 4, 3) := by decide +kernel
theorem dX7_canBegin_26 : decode cX7_canBegin 26 = .ok (.iconst 0, 1) := by decide +kernel
theorem dX7_canBegin_27 : decode cX7_canBegin 27 = .ok (.istore_n 1, 1) := by decide +kernel
theorem dX7_canBegin_28 : decode cX7_canBegin 28 = .ok (.iinc 2 1, 3) := by decide +kernel
theorem dX7_canBegin_31 : decode cX7_canBegin 31 = .ok (.goto (-27), 3) := by decide +kernel
theorem dX7_canBegin_34 : decode cX7_canBegin 34 = .ok (.iload_n 1, 1) := by decide +kernel
theorem dX7_canBegin_35 : decode cX7_canBegin 35 = .ok (.ifCond .eq 23, 3) := by decide +kernel
theorem dX7_canBegin_38 : decode cX7_canBegin 38 = .ok (.aload_n 0, 1) := by decide +kernel
theorem dX7_canBegin_39 : decode cX7_canBegin 39 = .ok (.getfield 28, 3) := by decide +kernel
theorem dX7_canBegin_42 : decode cX7_canBegin 42 = .ok (.aload_n 0, 1) := by decide +kernel
theorem dX7_canBegin_43 : decode cX7_canBegin 43 = .ok (.getfield 64, 3) := by decide +kernel
theorem dX7_canBegin_46 : decode cX7_canBegin 46 = .ok (.iaload, 1) := by decide +kernel
theorem dX7_canBegin_47 : decode cX7_canBegin 47 = .ok (.invokestatic 71, 3) := by decide +kernel
theorem dX7_canBegin_50 : decode cX7_canBegin 50 = .ok (.iconst 5, 1) := by decide +kernel
theorem dX7_canBegin_51 : decode cX7_canBegin 51 = .ok (.if_icmp .ge 7, 3) := by decide +kernel
theorem dX7_canBegin_54 : decode cX7_canBegin 54 = .ok (.iconst 1, 1) := by decide +kernel
theorem dX7_canBegin_55 : decode cX7_canBegin 55 = .ok (.goto 4, 3) := by decide +kernel
theorem dX7_canBegin_58 : decode cX7_canBegin 58 = .ok (.iconst 0, 1) := by decide +kernel
theorem dX7_canBegin_59 : decode cX7_canBegin 59 = .ok (.ireturn, 1) := by decide +kernel
theorem dX7_beginPerson_0 : decode cX7_beginPerson 0 = .ok (.aload_n 0, 1) := by decide +kernel
theorem dX7_beginPerson_1 : decode cX7_beginPerson 1 = .ok (.iload_n 1, 1) := by decide +kernel
theorem dX7_beginPerson_2 : decode cX7_beginPerson 2 = .ok (.putfield 64, 3) := by decide +kernel
theorem dX7_beginPerson_5 : decode cX7_beginPerson 5 = .ok (.aload_n 0, 1) := by decide +kernel
theorem dX7_beginPerson_6 : decode cX7_beginPerson 6 = .ok (.iconst (-1), 1) := by decide +kernel
theorem dX7_beginPerson_7 : decode cX7_beginPerson 7 = .ok (.putfield 58, 3) := by decide +kernel
theorem dX7_beginPerson_10 : decode cX7_beginPerson 10 = .ok (.aload_n 0, 1) := by decide +kernel
theorem dX7_beginPerson_11 : decode cX7_beginPerson 11 = .ok (.iconst 3, 1) := by decide +kernel
theorem dX7_beginPerson_12 : decode cX7_beginPerson 12 = .ok (.putfield 75, 3) := by decide +kernel
theorem dX7_beginPerson_15 : decode cX7_beginPerson 15 = .ok (.aload_n 0, 1) := by decide +kernel
theorem dX7_beginPerson_16 : decode cX7_beginPerson 16 = .ok (.getfield 25, 3) := by decide +kernel
theorem dX7_beginPerson_19 : decode cX7_beginPerson 19 = .ok (.iload_n 1, 1) := by decide +kernel
theorem dX7_beginPerson_20 : decode cX7_beginPerson 20 = .ok (.iconst 0, 1) := by decide +kernel
theorem dX7_beginPerson_21 : decode cX7_beginPerson 21 = .ok (.iastore, 1) := by decide +kernel
theorem dX7_beginPerson_22 : decode cX7_beginPerson 22 = .ok (.aload_n 0, 1) := by decide +kernel
theorem dX7_beginPerson_23 : decode cX7_beginPerson 23 = .ok (.getfield 28, 3) := by decide +kernel
theorem dX7_beginPerson_26 : decode cX7_beginPerson 26 = .ok (.iload_n 1, 1) := by decide +kernel
theorem dX7_beginPerson_27 : decode cX7_beginPerson 27 = .ok (.iconst 0, 1) := by decide +kernel
theorem dX7_beginPerson_28 : decode cX7_beginPerson 28 = .ok (.iastore, 1) := by decide +kernel
theorem dX7_beginPerson_29 : decode cX7_beginPerson 29 = .ok (.return_, 1) := by decide +kernel
theorem dX7_takesBounds_0 : decode cX7_takesBounds 0 = .ok (.iload_n 1, 1) := by decide +kernel
theorem dX7_takesBounds_1 : decode cX7_takesBounds 1 = .ok (.bipush 58, 2) := by decide +kernel
theorem dX7_takesBounds_3 : decode cX7_takesBounds 3 = .ok (.if_icmp .ne 17, 3) := by decide +kernel
theorem dX7_takesBounds_6 : decode cX7_takesBounds 6 = .ok (.aload_n 0, 1) := by decide +kernel
theorem dX7_takesBounds_7 : decode cX7_takesBounds 7 = .ok (.getfield 78, 3) := by decide +kernel
theorem dX7_takesBounds_10 : decode cX7_takesBounds 10 = .ok (.ifCond .le 10, 3) := by decide +kernel
theorem dX7_takesBounds_13 : decode cX7_takesBounds 13 = .ok (.aload_n 0, 1) := by decide +kernel
theorem dX7_takesBounds_14 : decode cX7_takesBounds 14 = .ok (.iconst 0, 1) := by decide +kernel
theorem dX7_takesBounds_15 : decode cX7_takesBounds 15 = .ok (.invokevirtual 81, 3) := by decide +kernel
theorem dX7_takesBounds_18 : decode cX7_takesBounds 18 = .ok (.iconst 1, 1) := by decide +kernel
theorem dX7_takesBounds_19 : decode cX7_takesBounds 19 = .ok (.ireturn, 1) := by decide +kernel
theorem dX7_takesBounds_20 : decode cX7_takesBounds 20 = .ok (.iload_n 1, 1) := by decide +kernel
theorem dX7_takesBounds_21 : decode cX7_takesBounds 21 = .ok (.bipush 48, 2) := by decide +kernel
theorem dX7_takesBounds_23 : decode cX7_takesBounds 23 = .ok (.bipush 57, 2) := by decide +kernel
theorem dX7_takesBounds_25 : decode cX7_takesBounds 25 = .ok (.invokestatic 50, 3) := by decide +kernel
theorem dX7_takesBounds_28 : decode cX7_takesBounds 28 = .ok (.ifCond .eq 15, 3) := by decide +kernel
theorem dX7_takesBounds_31 : decode cX7_takesBounds 31 = .ok (.aload_n 0, 1) := by decide +kernel
theorem dX7_takesBounds_32 : decode cX7_takesBounds 32 = .ok (.getfield 78, 3) := by decide +kernel
theorem dX7_takesBounds_35 : decode cX7_takesBounds 35 = .ok (.iconst 5, 1) := by decide +kernel
theorem dX7_takesBounds_36 : decode cX7_takesBounds 36 = .ok (.if_icmp .ge 7, 3) := by decide +kernel
theorem dX7_takesBounds_39 : decode cX7_takesBounds 39 = .ok (.iconst 1, 1) := by decide +kernel
theorem dX7_takesBounds_40 : decode cX7_takesBounds 40 = .ok (.goto 4, 3) := by decide +kernel
theorem dX7_takesBounds_43 : decode cX7_takesBounds 43 = .ok (.iconst 0, 1) := by decide +kernel
theorem dX7_takesBounds_44 : decode cX7_takesBounds 44 = .ok (.istore_n 2, 1) := by decide +kernel
theorem dX7_takesBounds_45 : decode cX7_takesBounds 45 = .ok (.iload_n 2, 1) := by decide +kernel
theorem dX7_takesBounds_46 : decode cX7_takesBounds 46 = .ok (.ifCond .eq 26, 3) := by decide +kernel
theorem dX7_takesBounds_49 : decode cX7_takesBounds 49 = .ok (.aload_n 0, 1) := by decide +kernel
theorem dX7_takesBounds_50 : decode cX7_takesBounds 50 = .ok (.getfield 22, 3) := by decide +kernel
theorem dX7_takesBounds_53 : decode cX7_takesBounds 53 = .ok (.aload_n 0, 1) := by decide +kernel
theorem dX7_takesBounds_54 : decode cX7_takesBounds 54 = .ok (.getfield 78, 3) := by decide +kernel
theorem dX7_takesBounds_57 : decode cX7_takesBounds 57 = .ok (.iload_n 1, 1) := by decide +kernel
theorem dX7_takesBounds_58 : decode cX7_takesBounds 58 = .ok (.bipush 48, 2) := by decide +kernel
theorem dX7_takesBounds_60 : decode cX7_takesBounds 60 = .ok (.isub, 1) := by decide +kernel
theorem dX7_takesBounds_61 : decode cX7_takesBounds 61 = .ok (.iastore, 1) := by decide +kernel
theorem dX7_takesBounds_62 : decode cX7_takesBounds 62 = .ok (.aload_n 0, 1) := by decide +kernel
theorem dX7_takesBounds_63 : decode cX7_takesBounds 63 = .ok (.dup, 1) := by decide +kernel
theorem dX7_takesBounds_64 : decode cX7_takesBounds 64 = .ok (.getfield 78, 3) := by decide +kernel
theorem dX7_takesBounds_67 : decode cX7_takesBounds 67 = .ok (.iconst 1, 1) := by decide +kernel
theorem dX7_takesBounds_68 : decode cX7_takesBounds 68 = .ok (.iadd, 1) := by decide +kernel
theorem dX7_takesBounds_69 : decode cX7_takesBounds 69 = .ok (.putfield 78, 3) := by decide +kernel
theorem dX7_takesBounds_72 : decode cX7_takesBounds 72 = .ok (.iload_n 2, 1) := by decide +kernel
theorem dX7_takesBounds_73 : decode cX7_takesBounds 73 = .ok (.ireturn, 1) := by decide +kernel
theorem dX7_takesKind_0 : decode cX7_takesKind 0 = .ok (.aload_n 0, 1) := by decide +kernel
theorem dX7_takesKind_1 : decode cX7_takesKind 1 = .ok (.getfield 75, 3) := by decide +kernel
theorem dX7_takesKind_4 : decode cX7_takesKind 4 = .ok (.iconst 3, 1) := by decide +kernel
theorem dX7_takesKind_5 : decode cX7_takesKind 5 = .ok (.if_icmp .ne 20, 3) := by decide +kernel
theorem dX7_takesKind_8 : decode cX7_takesKind 8 = .ok (.iload_n 1, 1) := by decide +kernel
theorem dX7_takesKind_9 : decode cX7_takesKind 9 = .ok (.iconst 1, 1) := by decide +kernel
theorem dX7_takesKind_10 : decode cX7_takesKind 10 = .ok (.if_icmp .ne 11, 3) := by decide +kernel
theorem dX7_takesKind_13 : decode cX7_takesKind 13 = .ok (.aload_n 0, 1) := by decide +kernel
theorem dX7_takesKind_14 : decode cX7_takesKind 14 = .ok (.getfield 85, 3) := by decide +kernel
theorem dX7_takesKind_17 : decode cX7_takesKind 17 = .ok (.iconst 5, 1) := by decide +kernel
theorem dX7_takesKind_18 : decode cX7_takesKind 18 = .ok (.if_icmp .ge 7, 3) := by decide +kernel
theorem dX7_takesKind_21 : decode cX7_takesKind 21 = .ok (.iconst 1, 1) := by decide +kernel
theorem dX7_takesKind_22 : decode cX7_takesKind 22 = .ok (.goto 4, 3) := by decide +kernel
theorem dX7_takesKind_25 : decode cX7_takesKind 25 = .ok (.iconst 0, 1) := by decide +kernel
theorem dX7_takesKind_26 : decode cX7_takesKind 26 = .ok (.istore_n 2, 1) := by decide +kernel
theorem dX7_takesKind_27 : decode cX7_takesKind 27 = .ok (.iload_n 2, 1) := by decide +kernel
theorem dX7_takesKind_28 : decode cX7_takesKind 28 = .ok (.ifCond .eq 37, 3) := by decide +kernel
theorem dX7_takesKind_31 : decode cX7_takesKind 31 = .ok (.aload_n 0, 1) := by decide +kernel
theorem dX7_takesKind_32 : decode cX7_takesKind 32 = .ok (.getfield 25, 3) := by decide +kernel
theorem dX7_takesKind_35 : decode cX7_takesKind 35 = .ok (.aload_n 0, 1) := by decide +kernel
theorem dX7_takesKind_36 : decode cX7_takesKind 36 = .ok (.getfield 64, 3) := by decide +kernel
theorem dX7_takesKind_39 : decode cX7_takesKind 39 = .ok (.iload_n 1, 1) := by decide +kernel
theorem dX7_takesKind_40 : decode cX7_takesKind 40 = .ok (.iastore, 1) := by decide +kernel
theorem dX7_takesKind_41 : decode cX7_takesKind 41 = .ok (.aload_n 0, 1) := by decide +kernel
theorem dX7_takesKind_42 : decode cX7_takesKind 42 = .ok (.dup, 1) := by decide +kernel
theorem dX7_takesKind_43 : decode cX7_takesKind 43 = .ok (.getfield 85, 3) := by decide +kernel
theorem dX7_takesKind_46 : decode cX7_takesKind 46 = .ok (.iload_n 1, 1) := by decide +kernel
theorem dX7_takesKind_47 : decode cX7_takesKind 47 = .ok (.iconst 1, 1) := by decide +kernel
theorem dX7_takesKind_48 : decode cX7_takesKind 48 = .ok (.if_icmp .ne 7, 3) := by decide +kernel
theorem dX7_takesKind_51 : decode cX7_takesKind 51 = .ok (.iconst 1, 1) := by decide +kernel
theorem dX7_takesKind_52 : decode cX7_takesKind 52 = .ok (.goto 4, 3) := by decide +kernel
theorem dX7_takesKind_55 : decode cX7_takesKind 55 = .ok (.iconst 0, 1) := by decide +kernel
theorem dX7_takesKind_56 : decode cX7_takesKind 56 = .ok (.iadd, 1) := by decide +kernel
theorem dX7_takesKind_57 : decode cX7_takesKind 57 = .ok (.putfield 85, 3) := by decide +kernel
theorem dX7_takesKind_60 : decode cX7_takesKind 60 = .ok (.aload_n 0, 1) := by decide +kernel
theorem dX7_takesKind_61 : decode cX7_takesKind 61 = .ok (.iconst 4, 1) := by decide +kernel
theorem dX7_takesKind_62 : decode cX7_takesKind 62 = .ok (.putfield 75, 3) := by decide +kernel
theorem dX7_takesKind_65 : decode cX7_takesKind 65 = .ok (.iload_n 2, 1) := by decide +kernel
theorem dX7_takesKind_66 : decode cX7_takesKind 66 = .ok (.ireturn, 1) := by decide +kernel
theorem dX7_takesOfPerson_0 : decode cX7_takesOfPerson 0 = .ok (.iload_n 1, 1) := by decide +kernel
theorem dX7_takesOfPerson_1 : decode cX7_takesOfPerson 1 = .ok (.lookupswitch 115 #[(33, 49), (42, 43), (59, 88), (62, 55)], 43) := by decide +kernel
theorem dX7_takesOfPerson_44 : decode cX7_takesOfPerson 44 = .ok (.aload_n 0, 1) := by decide +kernel
theorem dX7_takesOfPerson_45 : decode cX7_takesOfPerson 45 = .ok (.iconst 1, 1) := by decide +kernel
theorem dX7_takesOfPerson_46 : decode cX7_takesOfPerson 46 = .ok (.invokevirtual 88, 3) := by decide +kernel
theorem dX7_takesOfPerson_49 : decode cX7_takesOfPerson 49 = .ok (.ireturn, 1) := by decide +kernel
theorem dX7_takesOfPerson_50 : decode cX7_takesOfPerson 50 = .ok (.aload_n 0, 1) := by decide +kernel
theorem dX7_takesOfPerson_51 : decode cX7_takesOfPerson 51 = .ok (.iconst 2, 1) := by decide +kernel
theorem dX7_takesOfPerson_52 : decode cX7_takesOfPerson 52 = .ok (.invokevirtual 88, 3) := by decide +kernel
theorem dX7_takesOfPerson_55 : decode cX7_takesOfPerson 55 = .ok (.ireturn, 1) := by decide +kernel
theorem dX7_takesOfPerson_56 : decode cX7_takesOfPerson 56 = .ok (.aload_n 0, 1) := by decide +kernel
theorem dX7_takesOfPerson_57 : decode cX7_takesOfPerson 57 = .ok (.aload_n 0, 1) := by decide +kernel
theorem dX7_takesOfPerson_58 : decode cX7_takesOfPerson 58 = .ok (.invokevirtual 91, 3) := by decide +kernel
theorem dX7_takesOfPerson_61 : decode cX7_takesOfPerson 61 = .ok (.ifCond .eq 7, 3) := by decide +kernel
theorem dX7_takesOfPerson_64 : decode cX7_takesOfPerson 64 = .ok (.iconst 5, 1) := by decide +kernel
theorem dX7_takesOfPerson_65 : decode cX7_takesOfPerson 65 = .ok (.goto 7, 3) := by decide +kernel
theorem dX7_takesOfPerson_68 : decode cX7_takesOfPerson 68 = .ok (.aload_n 0, 1) := by decide +kernel
theorem dX7_takesOfPerson_69 : decode cX7_takesOfPerson 69 = .ok (.getfield 75, 3) := by decide +kernel
theorem dX7_takesOfPerson_72 : decode cX7_takesOfPerson 72 = .ok (.putfield 75, 3) := by decide +kernel
theorem dX7_takesOfPerson_75 : decode cX7_takesOfPerson 75 = .ok (.aload_n 0, 1) := by decide +kernel
theorem dX7_takesOfPerson_76 : decode cX7_takesOfPerson 76 = .ok (.getfield 75, 3) := by decide +kernel
theorem dX7_takesOfPerson_79 : decode cX7_takesOfPerson 79 = .ok (.iconst 5, 1) := by decide +kernel
theorem dX7_takesOfPerson_80 : decode cX7_takesOfPerson 80 = .ok (.if_icmp .ne 7, 3) := by decide +kernel
theorem dX7_takesOfPerson_83 : decode cX7_takesOfPerson 83 = .ok (.iconst 1, 1) := by decide +kernel
theorem dX7_takesOfPerson_84 : decode cX7_takesOfPerson 84 = .ok (.goto 4, 3) := by decide +kernel
theorem dX7_takesOfPerson_87 : decode cX7_takesOfPerson 87 = .ok (.iconst 0, 1) := by decide +kernel
theorem dX7_takesOfPerson_88 : decode cX7_takesOfPerson 88 = .ok (.ireturn, 1) := by decide +kernel
theorem dX7_takesOfPerson_89 : decode cX7_takesOfPerson 89 = .ok (.aload_n 0, 1) := by decide +kernel
theorem dX7_takesOfPerson_90 : decode cX7_takesOfPerson 90 = .ok (.getfield 64, 3) := by decide +kernel
theorem dX7_takesOfPerson_93 : decode cX7_takesOfPerson 93 = .ok (.aload_n 0, 1) := by decide +kernel
theorem dX7_takesOfPerson_94 : decode cX7_takesOfPerson 94 = .ok (.getfield 61, 3) := by decide +kernel
theorem dX7_takesOfPerson_97 : decode cX7_takesOfPerson 97 = .ok (.iconst 1, 1) := by decide +kernel
theorem dX7_takesOfPerson_98 : decode cX7_takesOfPerson 98 = .ok (.isub, 1) := by decide +kernel
theorem dX7_takesOfPerson_99 : decode cX7_takesOfPerson 99 = .ok (.if_icmp .ne 5, 3) := by decide +kernel
theorem dX7_takesOfPerson_102 : decode cX7_takesOfPerson 102 = .ok (.iconst 0, 1) := by decide +kernel
theorem dX7_takesOfPerson_103 : decode cX7_takesOfPerson 103 = .ok (.ireturn, 1) := by decide +kernel
theorem dX7_takesOfPerson_104 : decode cX7_takesOfPerson 104 = .ok (.aload_n 0, 1) := by decide +kernel
theorem dX7_takesOfPerson_105 : decode cX7_takesOfPerson 105 = .ok (.aload_n 0, 1) := by decide +kernel
theorem dX7_takesOfPerson_106 : decode cX7_takesOfPerson 106 = .ok (.getfield 64, 3) := by decide +kernel
theorem dX7_takesOfPerson_109 : decode cX7_takesOfPerson 109 = .ok (.iconst 1, 1) := by decide +kernel
theorem dX7_takesOfPerson_110 : decode cX7_takesOfPerson 110 = .ok (.iadd, 1) := by decide +kernel
theorem dX7_takesOfPerson_111 : decode cX7_takesOfPerson 111 = .ok (.invokevirtual 81, 3) := by decide +kernel
theorem dX7_takesOfPerson_114 : decode cX7_takesOfPerson 114 = .ok (.iconst 1, 1) := by decide +kernel
theorem dX7_takesOfPerson_115 : decode cX7_takesOfPerson 115 = .ok (.ireturn, 1) := by decide +kernel
theorem dX7_takesOfPerson_116 : decode cX7_takesOfPerson 116 = .ok (.iconst 0, 1) := by decide +kernel
theorem dX7_takesOfPerson_117 : decode cX7_takesOfPerson 117 = .ok (.ireturn, 1) := by decide +kernel
theorem dX7_takesWhom_0 : decode cX7_takesWhom 0 = .ok (.aload_n 0, 1) := by decide +kernel
theorem dX7_takesWhom_1 : decode cX7_takesWhom 1 = .ok (.iload_n 1, 1) := by decide +kernel
theorem dX7_takesWhom_2 : decode cX7_takesWhom 2 = .ok (.invokevirtual 67, 3) := by decide +kernel
theorem dX7_takesWhom_5 : decode cX7_takesWhom 5 = .ok (.istore_n 2, 1) := by decide +kernel
theorem dX7_takesWhom_6 : decode cX7_takesWhom 6 = .ok (.iload_n 2, 1) := by decide +kernel
theorem dX7_takesWhom_7 : decode cX7_takesWhom 7 = .ok (.ifCond .eq 28, 3) := by decide +kernel
theorem dX7_takesWhom_10 : decode cX7_takesWhom 10 = .ok (.aload_n 0, 1) := by decide +kernel
theorem dX7_takesWhom_11 : decode cX7_takesWhom 11 = .ok (.getfield 28, 3) := by decide +kernel
theorem dX7_takesWhom_14 : decode cX7_takesWhom 14 = .ok (.aload_n 0, 1) := by decide +kernel
theorem dX7_takesWhom_15 : decode cX7_takesWhom 15 = .ok (.getfield 64, 3) := by decide +kernel
theorem dX7_takesWhom_18 : decode cX7_takesWhom 18 = .ok (.dup2, 1) := by decide +kernel
theorem dX7_takesWhom_19 : decode cX7_takesWhom 19 = .ok (.iaload, 1) := by decide +kernel
theorem dX7_takesWhom_20 : decode cX7_takesWhom 20 = .ok (.iconst 1, 1) := by decide +kernel
theorem dX7_takesWhom_21 : decode cX7_takesWhom 21 = .ok (.iload_n 1, 1) := by decide +kernel
theorem dX7_takesWhom_22 : decode cX7_takesWhom 22 = .ok (.ishl, 1) := by decide +kernel
theorem dX7_takesWhom_23 : decode cX7_takesWhom 23 = .ok (.ior, 1) := by decide +kernel
theorem dX7_takesWhom_24 : decode cX7_takesWhom 24 = .ok (.iastore, 1) := by decide +kernel
theorem dX7_takesWhom_25 : decode cX7_takesWhom 25 = .ok (.aload_n 0, 1) := by decide +kernel
theorem dX7_takesWhom_26 : decode cX7_takesWhom 26 = .ok (.iload_n 1, 1) := by decide +kernel
theorem dX7_takesWhom_27 : decode cX7_takesWhom 27 = .ok (.putfield 58, 3) := by decide +kernel
theorem dX7_takesWhom_30 : decode cX7_takesWhom 30 = .ok (.aload_n 0, 1) := by decide +kernel
theorem dX7_takesWhom_31 : decode cX7_takesWhom 31 = .ok (.iconst 4, 1) := by decide +kernel
theorem dX7_takesWhom_32 : decode cX7_takesWhom 32 = .ok (.putfield 75, 3) := by decide +kernel
theorem dX7_takesWhom_35 : decode cX7_takesWhom 35 = .ok (.iload_n 2, 1) := by decide +kernel
theorem dX7_takesWhom_36 : decode cX7_takesWhom 36 = .ok (.ireturn, 1) := by decide +kernel
theorem dX7_takes_0 : decode cX7_takes 0 = .ok (.aload_n 0, 1) := by decide +kernel
theorem dX7_takes_1 : decode cX7_takes 1 = .ok (.getfield 75, 3) := by decide +kernel
theorem dX7_takes_4 : decode cX7_takes 4 = .ok (.tableswitch 128 0 5 #[40, 84, 113, 128, 128, 119], 40) := by decide +kernel
theorem dX7_takes_44 : decode cX7_takes 44 = .ok (.aload_n 0, 1) := by decide +kernel
theorem dX7_takes_45 : decode cX7_takes 45 = .ok (.iload_n 1, 1) := by decide +kernel
theorem dX7_takes_46 : decode cX7_takes 46 = .ok (.bipush 48, 2) := by decide +kernel
theorem dX7_takes_48 : decode cX7_takes 48 = .ok (.isub, 1) := by decide +kernel
theorem dX7_takes_49 : decode cX7_takes 49 = .ok (.putfield 61, 3) := by decide +kernel
theorem dX7_takes_52 : decode cX7_takes 52 = .ok (.aload_n 0, 1) := by decide +kernel
theorem dX7_takes_53 : decode cX7_takes 53 = .ok (.aload_n 0, 1) := by decide +kernel
theorem dX7_takes_54 : decode cX7_takes 54 = .ok (.getfield 61, 3) := by decide +kernel
theorem dX7_takes_57 : decode cX7_takes 57 = .ok (.iconst 1, 1) := by decide +kernel
theorem dX7_takes_58 : decode cX7_takes 58 = .ok (.bipush 9, 2) := by decide +kernel
theorem dX7_takes_60 : decode cX7_takes 60 = .ok (.invokestatic 50, 3) := by decide +kernel
theorem dX7_takes_63 : decode cX7_takes 63 = .ok (.ifCond .eq 7, 3) := by decide +kernel
theorem dX7_takes_66 : decode cX7_takes 66 = .ok (.iconst 1, 1) := by decide +kernel
theorem dX7_takes_67 : decode cX7_takes 67 = .ok (.goto 4, 3) := by decide +kernel
theorem dX7_takes_70 : decode cX7_takes 70 = .ok (.iconst 0, 1) := by decide +kernel
theorem dX7_takes_71 : decode cX7_takes 71 = .ok (.putfield 75, 3) := by decide +kernel
theorem dX7_takes_74 : decode cX7_takes 74 = .ok (.aload_n 0, 1) := by decide +kernel
theorem dX7_takes_75 : decode cX7_takes 75 = .ok (.getfield 75, 3) := by decide +kernel
theorem dX7_takes_78 : decode cX7_takes 78 = .ok (.iconst 1, 1) := by decide +kernel
theorem dX7_takes_79 : decode cX7_takes 79 = .ok (.if_icmp .ne 7, 3) := by decide +kernel
theorem dX7_takes_82 : decode cX7_takes 82 = .ok (.iconst 1, 1) := by decide +kernel
theorem dX7_takes_83 : decode cX7_takes 83 = .ok (.goto 4, 3) := by decide +kernel
theorem dX7_takes_86 : decode cX7_takes 86 = .ok (.iconst 0, 1) := by decide +kernel
theorem dX7_takes_87 : decode cX7_takes 87 = .ok (.ireturn, 1) := by decide +kernel
theorem dX7_takes_88 : decode cX7_takes 88 = .ok (.aload_n 0, 1) := by decide +kernel
theorem dX7_takes_89 : decode cX7_takes 89 = .ok (.iload_n 1, 1) := by decide +kernel
theorem dX7_takes_90 : decode cX7_takes 90 = .ok (.bipush 58, 2) := by decide +kernel
theorem dX7_takes_92 : decode cX7_takes 92 = .ok (.if_icmp .ne 7, 3) := by decide +kernel
theorem dX7_takes_95 : decode cX7_takes 95 = .ok (.iconst 2, 1) := by decide +kernel
theorem dX7_takes_96 : decode cX7_takes 96 = .ok (.goto 4, 3) := by decide +kernel
theorem dX7_takes_99 : decode cX7_takes 99 = .ok (.iconst 1, 1) := by decide +kernel
theorem dX7_takes_100 : decode cX7_takes 100 = .ok (.putfield 75, 3) := by decide +kernel
theorem dX7_takes_103 : decode cX7_takes 103 = .ok (.aload_n 0, 1) := by decide +kernel
theorem dX7_takes_104 : decode cX7_takes 104 = .ok (.getfield 75, 3) := by decide +kernel
theorem dX7_takes_107 : decode cX7_takes 107 = .ok (.iconst 2, 1) := by decide +kernel
theorem dX7_takes_108 : decode cX7_takes 108 = .ok (.if_icmp .ne 7, 3) := by decide +kernel
theorem dX7_takes_111 : decode cX7_takes 111 = .ok (.iconst 1, 1) := by decide +kernel
theorem dX7_takes_112 : decode cX7_takes 112 = .ok (.goto 4, 3) := by decide +kernel
theorem dX7_takes_115 : decode cX7_takes 115 = .ok (.iconst 0, 1) := by decide +kernel
theorem dX7_takes_116 : decode cX7_takes 116 = .ok (.ireturn, 1) := by decide +kernel
theorem dX7_takes_117 : decode cX7_takes 117 = .ok (.aload_n 0, 1) := by decide +kernel
theorem dX7_takes_118 : decode cX7_takes 118 = .ok (.iload_n 1, 1) := by decide +kernel
theorem dX7_takes_119 : decode cX7_takes 119 = .ok (.invokevirtual 95, 3) := by decide +kernel
theorem dX7_takes_122 : decode cX7_takes 122 = .ok (.ireturn, 1) := by decide +kernel
theorem dX7_takes_123 : decode cX7_takes 123 = .ok (.aload_n 0, 1) := by decide +kernel
theorem dX7_takes_124 : decode cX7_takes 124 = .ok (.iload_n 1, 1) := by decide +kernel
theorem dX7_takes_125 : decode cX7_takes 125 = .ok (.bipush 48, 2) := by decide +kernel
theorem dX7_takes_127 : decode cX7_takes 127 = .ok (.isub, 1) := by decide +kernel
theorem dX7_takes_128 : decode cX7_takes 128 = .ok (.invokevirtual 98, 3) := by decide +kernel
theorem dX7_takes_131 : decode cX7_takes 131 = .ok (.ireturn, 1) := by decide +kernel
theorem dX7_takes_132 : decode cX7_takes 132 = .ok (.aload_n 0, 1) := by decide +kernel
theorem dX7_takes_133 : decode cX7_takes 133 = .ok (.iload_n 1, 1) := by decide +kernel
theorem dX7_takes_134 : decode cX7_takes 134 = .ok (.invokevirtual 101, 3) := by decide +kernel
theorem dX7_takes_137 : decode cX7_takes 137 = .ok (.ireturn, 1) := by decide +kernel
theorem dX7_read_0 : decode cX7_read 0 = .ok (.aload_n 0, 1) := by decide +kernel
theorem dX7_read_1 : decode cX7_read 1 = .ok (.iconst 0, 1) := by decide +kernel
theorem dX7_read_2 : decode cX7_read 2 = .ok (.putfield 75, 3) := by decide +kernel
theorem dX7_read_5 : decode cX7_read 5 = .ok (.aload_n 0, 1) := by decide +kernel
theorem dX7_read_6 : decode cX7_read 6 = .ok (.iconst 0, 1) := by decide +kernel
theorem dX7_read_7 : decode cX7_read 7 = .ok (.putfield 78, 3) := by decide +kernel
theorem dX7_read_10 : decode cX7_read 10 = .ok (.aload_n 0, 1) := by decide +kernel
theorem dX7_read_11 : decode cX7_read 11 = .ok (.iconst 0, 1) := by decide +kernel
theorem dX7_read_12 : decode cX7_read 12 = .ok (.putfield 85, 3) := by decide +kernel
theorem dX7_read_15 : decode cX7_read 15 = .ok (.iconst 0, 1) := by decide +kernel
theorem dX7_read_16 : decode cX7_read 16 = .ok (.istore_n 1, 1) := by decide +kernel
theorem dX7_read_17 : decode cX7_read 17 = .ok (.iload_n 1, 1) := by decide +kernel
theorem dX7_read_18 : decode cX7_read 18 = .ok (.aload_n 0, 1) := by decide +kernel
theorem dX7_read_19 : decode cX7_read 19 = .ok (.getfield 54, 3) := by decide +kernel
theorem dX7_read_22 : decode cX7_read 22 = .ok (.if_icmp .ge 22, 3) := by decide +kernel
theorem dX7_read_25 : decode cX7_read 25 = .ok (.aload_n 0, 1) := by decide +kernel
theorem dX7_read_26 : decode cX7_read 26 = .ok (.aload_n 0, 1) := by decide +kernel
theorem dX7_read_27 : decode cX7_read 27 = .ok (.getfield 19, 3) := by decide +kernel
theorem dX7_read_30 : decode cX7_read 30 = .ok (.iload_n 1, 1) := by decide +kernel
theorem dX7_read_31 : decode cX7_read 31 = .ok (.iaload, 1) := by decide +kernel
theorem dX7_read_32 : decode cX7_read 32 = .ok (.invokevirtual 104, 3) := by decide +kernel
theorem dX7_read_35 : decode cX7_read 35 = .ok (.ifCond .eq 9, 3) := by decide +kernel
theorem dX7_read_38 : decode cX7_read 38 = .ok (.iinc 1 1, 3) := by decide +kernel
theorem dX7_read_41 : decode cX7_read 41 = .ok (.goto (-24), 3) := by decide +kernel
theorem dX7_read_44 : decode cX7_read 44 = .ok (.iload_n 1, 1) := by decide +kernel
theorem dX7_read_45 : decode cX7_read 45 = .ok (.ireturn, 1) := by decide +kernel
theorem dX7_fault_0 : decode cX7_fault 0 = .ok (.aload_n 0, 1) := by decide +kernel
theorem dX7_fault_1 : decode cX7_fault 1 = .ok (.invokevirtual 107, 3) := by decide +kernel
theorem dX7_fault_4 : decode cX7_fault 4 = .ok (.ireturn, 1) := by decide +kernel
theorem dX7_circle_0 : decode cX7_circle 0 = .ok (.aload_n 0, 1) := by decide +kernel
theorem dX7_circle_1 : decode cX7_circle 1 = .ok (.invokevirtual 107, 3) := by decide +kernel
theorem dX7_circle_4 : decode cX7_circle 4 = .ok (.aload_n 0, 1) := by decide +kernel
theorem dX7_circle_5 : decode cX7_circle 5 = .ok (.getfield 54, 3) := by decide +kernel
theorem dX7_circle_8 : decode cX7_circle 8 = .ok (.if_icmp .lt 32, 3) := by decide +kernel
theorem dX7_circle_11 : decode cX7_circle 11 = .ok (.aload_n 0, 1) := by decide +kernel
theorem dX7_circle_12 : decode cX7_circle 12 = .ok (.getfield 75, 3) := by decide +kernel
theorem dX7_circle_15 : decode cX7_circle 15 = .ok (.iconst 3, 1) := by decide +kernel
theorem dX7_circle_16 : decode cX7_circle 16 = .ok (.if_icmp .eq 11, 3) := by decide +kernel
theorem dX7_circle_19 : decode cX7_circle 19 = .ok (.aload_n 0, 1) := by decide +kernel
theorem dX7_circle_20 : decode cX7_circle 20 = .ok (.getfield 75, 3) := by decide +kernel
theorem dX7_circle_23 : decode cX7_circle 23 = .ok (.iconst 4, 1) := by decide +kernel
theorem dX7_circle_24 : decode cX7_circle 24 = .ok (.if_icmp .ne 16, 3) := by decide +kernel
theorem dX7_circle_27 : decode cX7_circle 27 = .ok (.aload_n 0, 1) := by decide +kernel
theorem dX7_circle_28 : decode cX7_circle 28 = .ok (.getfield 64, 3) := by decide +kernel
theorem dX7_circle_31 : decode cX7_circle 31 = .ok (.aload_n 0, 1) := by decide +kernel
theorem dX7_circle_32 : decode cX7_circle 32 = .ok (.getfield 61, 3) := by decide +kernel
theorem dX7_circle_35 : decode cX7_circle 35 = .ok (.iconst 1, 1) := by decide +kernel
theorem dX7_circle_36 : decode cX7_circle 36 = .ok (.isub, 1) := by decide +kernel
theorem dX7_circle_37 : decode cX7_circle 37 = .ok (.if_icmp .ge 6, 3) := by decide +kernel
theorem dX7_circle_40 : decode cX7_circle 40 = .ok (.bipush (-103), 2) := by decide +kernel
theorem dX7_circle_42 : decode cX7_circle 42 = .ok (.ireturn, 1) := by decide +kernel
theorem dX7_circle_43 : decode cX7_circle 43 = .ok (.aload_n 0, 1) := by decide +kernel
theorem dX7_circle_44 : decode cX7_circle 44 = .ok (.aload_n 0, 1) := by decide +kernel
theorem dX7_circle_45 : decode cX7_circle 45 = .ok (.getfield 61, 3) := by decide +kernel
theorem dX7_circle_48 : decode cX7_circle 48 = .ok (.putfield 111, 3) := by decide +kernel
theorem dX7_circle_51 : decode cX7_circle 51 = .ok (.aload_n 0, 1) := by decide +kernel
theorem dX7_circle_52 : decode cX7_circle 52 = .ok (.aload_n 0, 1) := by decide +kernel
theorem dX7_circle_53 : decode cX7_circle 53 = .ok (.getfield 78, 3) := by decide +kernel
theorem dX7_circle_56 : decode cX7_circle 56 = .ok (.putfield 114, 3) := by decide +kernel
theorem dX7_circle_59 : decode cX7_circle 59 = .ok (.iconst 0, 1) := by decide +kernel
theorem dX7_circle_60 : decode cX7_circle 60 = .ok (.istore_n 1, 1) := by decide +kernel
theorem dX7_circle_61 : decode cX7_circle 61 = .ok (.iload_n 1, 1) := by decide +kernel
theorem dX7_circle_62 : decode cX7_circle 62 = .ok (.iconst 5, 1) := by decide +kernel
theorem dX7_circle_63 : decode cX7_circle 63 = .ok (.if_icmp .ge 21, 3) := by decide +kernel
theorem dX7_circle_66 : decode cX7_circle 66 = .ok (.aload_n 0, 1) := by decide +kernel
theorem dX7_circle_67 : decode cX7_circle 67 = .ok (.getfield 16, 3) := by decide +kernel
theorem dX7_circle_70 : decode cX7_circle 70 = .ok (.iload_n 1, 1) := by decide +kernel
theorem dX7_circle_71 : decode cX7_circle 71 = .ok (.aload_n 0, 1) := by decide +kernel
theorem dX7_circle_72 : decode cX7_circle 72 = .ok (.getfield 22, 3) := by decide +kernel
theorem dX7_circle_75 : decode cX7_circle 75 = .ok (.iload_n 1, 1) := by decide +kernel
theorem dX7_circle_76 : decode cX7_circle 76 = .ok (.iaload, 1) := by decide +kernel
theorem dX7_circle_77 : decode cX7_circle 77 = .ok (.iastore, 1) := by decide +kernel
theorem dX7_circle_78 : decode cX7_circle 78 = .ok (.iinc 1 1, 3) := by decide +kernel
theorem dX7_circle_81 : decode cX7_circle 81 = .ok (.goto (-20), 3) := by decide +kernel
theorem dX7_circle_84 : decode cX7_circle 84 = .ok (.iconst 0, 1) := by decide +kernel
theorem dX7_circle_85 : decode cX7_circle 85 = .ok (.istore_n 1, 1) := by decide +kernel
theorem dX7_circle_86 : decode cX7_circle 86 = .ok (.iload_n 1, 1) := by decide +kernel
theorem dX7_circle_87 : decode cX7_circle 87 = .ok (.aload_n 0, 1) := by decide +kernel
theorem dX7_circle_88 : decode cX7_circle 88 = .ok (.getfield 111, 3) := by decide +kernel
theorem dX7_circle_91 : decode cX7_circle 91 = .ok (.if_icmp .ge 33, 3) := by decide +kernel
theorem dX7_circle_94 : decode cX7_circle 94 = .ok (.aload_n 0, 1) := by decide +kernel
theorem dX7_circle_95 : decode cX7_circle 95 = .ok (.getfield 7, 3) := by decide +kernel
theorem dX7_circle_98 : decode cX7_circle 98 = .ok (.iload_n 1, 1) := by decide +kernel
theorem dX7_circle_99 : decode cX7_circle 99 = .ok (.aload_n 0, 1) := by decide +kernel
theorem dX7_circle_100 : decode cX7_circle 100 = .ok (.getfield 25, 3) := by decide +kernel
theorem dX7_circle_103 : decode cX7_circle 103 = .ok (.iload_n 1, 1) := by decide +kernel
theorem dX7_circle_104 : decode cX7_circle 104 = .ok (.iaload, 1) := by decide +kernel
theorem dX7_circle_105 : decode cX7_circle 105 = .ok (.iastore, 1) := by decide +kernel
theorem dX7_circle_106 : decode cX7_circle 106 = .ok (.aload_n 0, 1) := by decide +kernel
theorem dX7_circle_107 : decode cX7_circle 107 = .ok (.getfield 13, 3) := by decide +kernel
theorem dX7_circle_110 : decode cX7_circle 110 = .ok (.iload_n 1, 1) := by decide +kernel
theorem dX7_circle_111 : decode cX7_circle 111 = .ok (.aload_n 0, 1) := by decide +kernel
theorem dX7_circle_112 : decode cX7_circle 112 = .ok (.getfield 28, 3) := by decide +kernel
theorem dX7_circle_115 : decode cX7_circle 115 = .ok (.iload_n 1, 1) := by decide +kernel
theorem dX7_circle_116 : decode cX7_circle 116 = .ok (.iaload, 1) := by decide +kernel
theorem dX7_circle_117 : decode cX7_circle 117 = .ok (.iastore, 1) := by decide +kernel
theorem dX7_circle_118 : decode cX7_circle 118 = .ok (.iinc 1 1, 3) := by decide +kernel
theorem dX7_circle_121 : decode cX7_circle 121 = .ok (.goto (-35), 3) := by decide +kernel
theorem dX7_circle_124 : decode cX7_circle 124 = .ok (.aload_n 0, 1) := by decide +kernel
theorem dX7_circle_125 : decode cX7_circle 125 = .ok (.dup, 1) := by decide +kernel
theorem dX7_circle_126 : decode cX7_circle 126 = .ok (.getfield 117, 3) := by decide +kernel
theorem dX7_circle_129 : decode cX7_circle 129 = .ok (.iconst 1, 1) := by decide +kernel
theorem dX7_circle_130 : decode cX7_circle 130 = .ok (.iadd, 1) := by decide +kernel
theorem dX7_circle_131 : decode cX7_circle 131 = .ok (.putfield 117, 3) := by decide +kernel
theorem dX7_circle_134 : decode cX7_circle 134 = .ok (.aload_n 0, 1) := by decide +kernel
theorem dX7_circle_135 : decode cX7_circle 135 = .ok (.iconst 0, 1) := by decide +kernel
theorem dX7_circle_136 : decode cX7_circle 136 = .ok (.putfield 54, 3) := by decide +kernel
theorem dX7_circle_139 : decode cX7_circle 139 = .ok (.aload_n 0, 1) := by decide +kernel
theorem dX7_circle_140 : decode cX7_circle 140 = .ok (.getfield 111, 3) := by decide +kernel
theorem dX7_circle_143 : decode cX7_circle 143 = .ok (.ireturn, 1) := by decide +kernel
theorem dX7_isCircle_0 : decode cX7_isCircle 0 = .ok (.aload_n 0, 1) := by decide +kernel
theorem dX7_isCircle_1 : decode cX7_isCircle 1 = .ok (.getfield 111, 3) := by decide +kernel
theorem dX7_isCircle_4 : decode cX7_isCircle 4 = .ok (.ifCond .le 7, 3) := by decide +kernel
theorem dX7_isCircle_7 : decode cX7_isCircle 7 = .ok (.iconst 1, 1) := by decide +kernel
theorem dX7_isCircle_8 : decode cX7_isCircle 8 = .ok (.goto 4, 3) := by decide +kernel
theorem dX7_isCircle_11 : decode cX7_isCircle 11 = .ok (.iconst 0, 1) := by decide +kernel
theorem dX7_isCircle_12 : decode cX7_isCircle 12 = .ok (.ireturn, 1) := by decide +kernel
theorem dX7_ink1_0 : decode cX7_ink1 0 = .ok (.aload_n 0, 1) := by decide +kernel
theorem dX7_ink1_1 : decode cX7_ink1 1 = .ok (.aload_n 0, 1) := by decide +kernel
theorem dX7_ink1_2 : decode cX7_ink1 2 = .ok (.getfield 120, 3) := by decide +kernel
theorem dX7_ink1_5 : decode cX7_ink1 5 = .ok (.aload_n 0, 1) := by decide +kernel
theorem dX7_ink1_6 : decode cX7_ink1 6 = .ok (.getfield 123, 3) := by decide +kernel
theorem dX7_ink1_9 : decode cX7_ink1 9 = .ok (.if_icmp .ne 7, 3) := by decide +kernel
theorem dX7_ink1_12 : decode cX7_ink1 12 = .ok (.iload_n 1, 1) := by decide +kernel
theorem dX7_ink1_13 : decode cX7_ink1 13 = .ok (.goto 7, 3) := by decide +kernel
theorem dX7_ink1_16 : decode cX7_ink1 16 = .ok (.aload_n 0, 1) := by decide +kernel
theorem dX7_ink1_17 : decode cX7_ink1 17 = .ok (.getfield 126, 3) := by decide +kernel
theorem dX7_ink1_20 : decode cX7_ink1 20 = .ok (.putfield 126, 3) := by decide +kernel
theorem dX7_ink1_23 : decode cX7_ink1 23 = .ok (.aload_n 0, 1) := by decide +kernel
theorem dX7_ink1_24 : decode cX7_ink1 24 = .ok (.dup, 1) := by decide +kernel
theorem dX7_ink1_25 : decode cX7_ink1 25 = .ok (.getfield 120, 3) := by decide +kernel
theorem dX7_ink1_28 : decode cX7_ink1 28 = .ok (.iconst 1, 1) := by decide +kernel
theorem dX7_ink1_29 : decode cX7_ink1 29 = .ok (.iadd, 1) := by decide +kernel
theorem dX7_ink1_30 : decode cX7_ink1 30 = .ok (.putfield 120, 3) := by decide +kernel
theorem dX7_ink1_33 : decode cX7_ink1 33 = .ok (.return_, 1) := by decide +kernel
theorem dX7_inkPerson_0 : decode cX7_inkPerson 0 = .ok (.iload_n 1, 1) := by decide +kernel
theorem dX7_inkPerson_1 : decode cX7_inkPerson 1 = .ok (.ifCond .le 9, 3) := by decide +kernel
theorem dX7_inkPerson_4 : decode cX7_inkPerson 4 = .ok (.aload_n 0, 1) := by decide +kernel
theorem dX7_inkPerson_5 : decode cX7_inkPerson 5 = .ok (.bipush 59, 2) := by decide +kernel
theorem dX7_inkPerson_7 : decode cX7_inkPerson 7 = .ok (.invokevirtual 129, 3) := by decide +kernel
theorem dX7_inkPerson_10 : decode cX7_inkPerson 10 = .ok (.aload_n 0, 1) := by decide +kernel
theorem dX7_inkPerson_11 : decode cX7_inkPerson 11 = .ok (.getfield 7, 3) := by decide +kernel
theorem dX7_inkPerson_14 : decode cX7_inkPerson 14 = .ok (.iload_n 1, 1) := by decide +kernel
theorem dX7_inkPerson_15 : decode cX7_inkPerson 15 = .ok (.iaload, 1) := by decide +kernel
theorem dX7_inkPerson_16 : decode cX7_inkPerson 16 = .ok (.ifCond .le 24, 3) := by decide +kernel
theorem dX7_inkPerson_19 : decode cX7_inkPerson 19 = .ok (.aload_n 0, 1) := by decide +kernel
theorem dX7_inkPerson_20 : decode cX7_inkPerson 20 = .ok (.aload_n 0, 1) := by decide +kernel
theorem dX7_inkPerson_21 : decode cX7_inkPerson 21 = .ok (.getfield 7, 3) := by decide +kernel
theorem dX7_inkPerson_24 : decode cX7_inkPerson 24 = .ok (.iload_n 1, 1) := by decide +kernel
theorem dX7_inkPerson_25 : decode cX7_inkPerson 25 = .ok (.iaload, 1) := by decide +kernel
theorem dX7_inkPerson_26 : decode cX7_inkPerson 26 = .ok (.iconst 1, 1) := by decide +kernel
theorem dX7_inkPerson_27 : decode cX7_inkPerson 27 = .ok (.if_icmp .ne 8, 3) := by decide +kernel
theorem dX7_inkPerson_30 : decode cX7_inkPerson 30 = .ok (.bipush 42, 2) := by decide +kernel
theorem dX7_inkPerson_32 : decode cX7_inkPerson 32 = .ok (.goto 5, 3) := by decide +kernel
theorem dX7_inkPerson_35 : decode cX7_inkPerson 35 = .ok (.bipush 33, 2) := by decide +kernel
theorem dX7_inkPerson_37 : decode cX7_inkPerson 37 = .ok (.invokevirtual 129, 3) := by decide +kernel
theorem dX7_inkPerson_40 : decode cX7_inkPerson 40 = .ok (.iconst 0, 1) := by decide +kernel
theorem dX7_inkPerson_41 : decode cX7_inkPerson 41 = .ok (.istore_n 2, 1) := by decide +kernel
theorem dX7_inkPerson_42 : decode cX7_inkPerson 42 = .ok (.iload_n 2, 1) := by decide +kernel
theorem dX7_inkPerson_43 : decode cX7_inkPerson 43 = .ok (.aload_n 0, 1) := by decide +kernel
theorem dX7_inkPerson_44 : decode cX7_inkPerson 44 = .ok (.getfield 111, 3) := by decide +kernel
theorem dX7_inkPerson_47 : decode cX7_inkPerson 47 = .ok (.if_icmp .ge 36, 3) := by decide +kernel
theorem dX7_inkPerson_50 : decode cX7_inkPerson 50 = .ok (.aload_n 0, 1) := by decide +kernel
theorem dX7_inkPerson_51 : decode cX7_inkPerson 51 = .ok (.getfield 13, 3) := by decide +kernel
theorem dX7_inkPerson_54 : decode cX7_inkPerson 54 = .ok (.iload_n 1, 1) := by decide +kernel
theorem dX7_inkPerson_55 : decode cX7_inkPerson 55 = .ok (.iaload, 1) := by decide +kernel
theorem dX7_inkPerson_56 : decode cX7_inkPerson 56 = .ok (.iload_n 2, 1) := by decide +kernel
theorem dX7_inkPerson_57 : decode cX7_inkPerson 57 = .ok (.invokestatic 132, 3) := by decide +kernel
theorem dX7_inkPerson_60 : decode cX7_inkPerson 60 = .ok (.ifCond .eq 17, 3) := by decide +kernel
theorem dX7_inkPerson_63 : decode cX7_inkPerson 63 = .ok (.aload_n 0, 1) := by decide +kernel
theorem dX7_inkPerson_64 : decode cX7_inkPerson 64 = .ok (.bipush 62, 2) := by decide +kernel
theorem dX7_inkPerson_66 : decode cX7_inkPerson 66 = .ok (.invokevirtual 129, 3) := by decide +kernel
theorem dX7_inkPerson_69 : decode cX7_inkPerson 69 = .ok (.aload_n 0, 1) := by decide +kernel
theorem dX7_inkPerson_70 : decode cX7_inkPerson 70 = .ok (.bipush 48, 2) := by decide +kernel
theorem dX7_inkPerson_72 : decode cX7_inkPerson 72 = .ok (.iload_n 2, 1) := by decide +kernel
theorem dX7_inkPerson_73 : decode cX7_inkPerson 73 = .ok (.iadd, 1) := by decide +kernel
theorem dX7_inkPerson_74 : decode cX7_inkPerson 74 = .ok (.invokevirtual 129, 3) := by decide +kernel
theorem dX7_inkPerson_77 : decode cX7_inkPerson 77 = .ok (.iinc 2 1, 3) := by decide +kernel
theorem dX7_inkPerson_80 : decode cX7_inkPerson 80 = .ok (.goto (-38), 3) := by decide +kernel
theorem dX7_inkPerson_83 : decode cX7_inkPerson 83 = .ok (.return_, 1) := by decide +kernel
theorem dX7_inkNow_0 : decode cX7_inkNow 0 = .ok (.aload_n 0, 1) := by decide +kernel
theorem dX7_inkNow_1 : decode cX7_inkNow 1 = .ok (.iload_n 1, 1) := by decide +kernel
theorem dX7_inkNow_2 : decode cX7_inkNow 2 = .ok (.putfield 123, 3) := by decide +kernel
theorem dX7_inkNow_5 : decode cX7_inkNow 5 = .ok (.aload_n 0, 1) := by decide +kernel
theorem dX7_inkNow_6 : decode cX7_inkNow 6 = .ok (.iconst 0, 1) := by decide +kernel
theorem dX7_inkNow_7 : decode cX7_inkNow 7 = .ok (.putfield 120, 3) := by decide +kernel
theorem dX7_inkNow_10 : decode cX7_inkNow 10 = .ok (.aload_n 0, 1) := by decide +kernel
theorem dX7_inkNow_11 : decode cX7_inkNow 11 = .ok (.iconst (-1), 1) := by decide +kernel
theorem dX7_inkNow_12 : decode cX7_inkNow 12 = .ok (.putfield 126, 3) := by decide +kernel
theorem dX7_inkNow_15 : decode cX7_inkNow 15 = .ok (.aload_n 0, 1) := by decide +kernel
theorem dX7_inkNow_16 : decode cX7_inkNow 16 = .ok (.bipush 48, 2) := by decide +kernel
theorem dX7_inkNow_18 : decode cX7_inkNow 18 = .ok (.aload_n 0, 1) := by decide +kernel
theorem dX7_inkNow_19 : decode cX7_inkNow 19 = .ok (.getfield 111, 3) := by decide +kernel
theorem dX7_inkNow_22 : decode cX7_inkNow 22 = .ok (.iadd, 1) := by decide +kernel
theorem dX7_inkNow_23 : decode cX7_inkNow 23 = .ok (.invokevirtual 129, 3) := by decide +kernel
theorem dX7_inkNow_26 : decode cX7_inkNow 26 = .ok (.aload_n 0, 1) := by decide +kernel
theorem dX7_inkNow_27 : decode cX7_inkNow 27 = .ok (.bipush 58, 2) := by decide +kernel
theorem dX7_inkNow_29 : decode cX7_inkNow 29 = .ok (.invokevirtual 129, 3) := by decide +kernel
theorem dX7_inkNow_32 : decode cX7_inkNow 32 = .ok (.iconst 0, 1) := by decide +kernel
theorem dX7_inkNow_33 : decode cX7_inkNow 33 = .ok (.istore_n 2, 1) := by decide +kernel
theorem dX7_inkNow_34 : decode cX7_inkNow 34 = .ok (.iload_n 2, 1) := by decide +kernel
theorem dX7_inkNow_35 : decode cX7_inkNow 35 = .ok (.aload_n 0, 1) := by decide +kernel
theorem dX7_inkNow_36 : decode cX7_inkNow 36 = .ok (.getfield 114, 3) := by decide +kernel
theorem dX7_inkNow_39 : decode cX7_inkNow 39 = .ok (.if_icmp .ge 22, 3) := by decide +kernel
theorem dX7_inkNow_42 : decode cX7_inkNow 42 = .ok (.aload_n 0, 1) := by decide +kernel
theorem dX7_inkNow_43 : decode cX7_inkNow 43 = .ok (.bipush 48, 2) := by decide +kernel
theorem dX7_inkNow_45 : decode cX7_inkNow 45 = .ok (.aload_n 0, 1) := by decide +kernel
theorem dX7_inkNow_46 : decode cX7_inkNow 46 = .ok (.getfield 16, 3) := by decide +kernel
theorem dX7_inkNow_49 : decode cX7_inkNow 49 = .ok (.iload_n 2, 1) := by decide +kernel
theorem dX7_inkNow_50 : decode cX7_inkNow 50 = .ok (.iaload, 1) := by decide +kernel
theorem dX7_inkNow_51 : decode cX7_inkNow 51 = .ok (.iadd, 1) := by decide +kernel
theorem dX7_inkNow_52 : decode cX7_inkNow 52 = .ok (.invokevirtual 129, 3) := by decide +kernel
theorem dX7_inkNow_55 : decode cX7_inkNow 55 = .ok (.iinc 2 1, 3) := by decide +kernel
theorem dX7_inkNow_58 : decode cX7_inkNow 58 = .ok (.goto (-24), 3) := by decide +kernel
theorem dX7_inkNow_61 : decode cX7_inkNow 61 = .ok (.aload_n 0, 1) := by decide +kernel
theorem dX7_inkNow_62 : decode cX7_inkNow 62 = .ok (.bipush 58, 2) := by decide +kernel
theorem dX7_inkNow_64 : decode cX7_inkNow 64 = .ok (.invokevirtual 129, 3) := by decide +kernel
theorem dX7_inkNow_67 : decode cX7_inkNow 67 = .ok (.iconst 0, 1) := by decide +kernel
theorem dX7_inkNow_68 : decode cX7_inkNow 68 = .ok (.istore_n 2, 1) := by decide +kernel
theorem dX7_inkNow_69 : decode cX7_inkNow 69 = .ok (.iload_n 2, 1) := by decide +kernel
theorem dX7_inkNow_70 : decode cX7_inkNow 70 = .ok (.aload_n 0, 1) := by decide +kernel
theorem dX7_inkNow_71 : decode cX7_inkNow 71 = .ok (.getfield 111, 3) := by decide +kernel
theorem dX7_inkNow_74 : decode cX7_inkNow 74 = .ok (.if_icmp .ge 14, 3) := by decide +kernel
theorem dX7_inkNow_77 : decode cX7_inkNow 77 = .ok (.aload_n 0, 1) := by decide +kernel
theorem dX7_inkNow_78 : decode cX7_inkNow 78 = .ok (.iload_n 2, 1) := by decide +kernel
theorem dX7_inkNow_79 : decode cX7_inkNow 79 = .ok (.invokevirtual 136, 3) := by decide +kernel
theorem dX7_inkNow_82 : decode cX7_inkNow 82 = .ok (.iinc 2 1, 3) := by decide +kernel
theorem dX7_inkNow_85 : decode cX7_inkNow 85 = .ok (.goto (-16), 3) := by decide +kernel
theorem dX7_inkNow_88 : decode cX7_inkNow 88 = .ok (.aload_n 0, 1) := by decide +kernel
theorem dX7_inkNow_89 : decode cX7_inkNow 89 = .ok (.getfield 126, 3) := by decide +kernel
theorem dX7_inkNow_92 : decode cX7_inkNow 92 = .ok (.ireturn, 1) := by decide +kernel
theorem dX7_ink_0 : decode cX7_ink 0 = .ok (.aload_n 0, 1) := by decide +kernel
theorem dX7_ink_1 : decode cX7_ink 1 = .ok (.invokevirtual 139, 3) := by decide +kernel
theorem dX7_ink_4 : decode cX7_ink 4 = .ok (.ifCond .ne 6, 3) := by decide +kernel
theorem dX7_ink_7 : decode cX7_ink 7 = .ok (.bipush (-103), 2) := by decide +kernel
theorem dX7_ink_9 : decode cX7_ink 9 = .ok (.ireturn, 1) := by decide +kernel
theorem dX7_ink_10 : decode cX7_ink 10 = .ok (.iload_n 1, 1) := by decide +kernel
theorem dX7_ink_11 : decode cX7_ink 11 = .ok (.ifCond .ge 8, 3) := by decide +kernel
theorem dX7_ink_14 : decode cX7_ink 14 = .ok (.bipush (-101), 2) := by decide +kernel
theorem dX7_ink_16 : decode cX7_ink 16 = .ok (.goto 8, 3) := by decide +kernel
theorem dX7_ink_19 : decode cX7_ink 19 = .ok (.aload_n 0, 1) := by decide +kernel
theorem dX7_ink_20 : decode cX7_ink 20 = .ok (.iload_n 1, 1) := by decide +kernel
theorem dX7_ink_21 : decode cX7_ink 21 = .ok (.invokevirtual 142, 3) := by decide +kernel
theorem dX7_ink_24 : decode cX7_ink 24 = .ok (.ireturn, 1) := by decide +kernel
theorem dX7_isPerson_0 : decode cX7_isPerson 0 = .ok (.iload_n 1, 1) := by decide +kernel
theorem dX7_isPerson_1 : decode cX7_isPerson 1 = .ok (.iconst 0, 1) := by decide +kernel
theorem dX7_isPerson_2 : decode cX7_isPerson 2 = .ok (.aload_n 0, 1) := by decide +kernel
theorem dX7_isPerson_3 : decode cX7_isPerson 3 = .ok (.getfield 111, 3) := by decide +kernel
theorem dX7_isPerson_6 : decode cX7_isPerson 6 = .ok (.iconst 1, 1) := by decide +kernel
theorem dX7_isPerson_7 : decode cX7_isPerson 7 = .ok (.isub, 1) := by decide +kernel
theorem dX7_isPerson_8 : decode cX7_isPerson 8 = .ok (.invokestatic 50, 3) := by decide +kernel
theorem dX7_isPerson_11 : decode cX7_isPerson 11 = .ok (.ireturn, 1) := by decide +kernel
theorem dX7_areTwo_0 : decode cX7_areTwo 0 = .ok (.aload_n 0, 1) := by decide +kernel
theorem dX7_areTwo_1 : decode cX7_areTwo 1 = .ok (.iload_n 1, 1) := by decide +kernel
theorem dX7_areTwo_2 : decode cX7_areTwo 2 = .ok (.invokevirtual 145, 3) := by decide +kernel
theorem dX7_areTwo_5 : decode cX7_areTwo 5 = .ok (.ifCond .eq 20, 3) := by decide +kernel
theorem dX7_areTwo_8 : decode cX7_areTwo 8 = .ok (.aload_n 0, 1) := by decide +kernel
theorem dX7_areTwo_9 : decode cX7_areTwo 9 = .ok (.iload_n 2, 1) := by decide +kernel
theorem dX7_areTwo_10 : decode cX7_areTwo 10 = .ok (.invokevirtual 145, 3) := by decide +kernel
theorem dX7_areTwo_13 : decode cX7_areTwo 13 = .ok (.ifCond .eq 12, 3) := by decide +kernel
theorem dX7_areTwo_16 : decode cX7_areTwo 16 = .ok (.iload_n 1, 1) := by decide +kernel
theorem dX7_areTwo_17 : decode cX7_areTwo 17 = .ok (.iload_n 2, 1) := by decide +kernel
theorem dX7_areTwo_18 : decode cX7_areTwo 18 = .ok (.if_icmp .eq 7, 3) := by decide +kernel
theorem dX7_areTwo_21 : decode cX7_areTwo 21 = .ok (.iconst 1, 1) := by decide +kernel
theorem dX7_areTwo_22 : decode cX7_areTwo 22 = .ok (.goto 4, 3) := by decide +kernel
theorem dX7_areTwo_25 : decode cX7_areTwo 25 = .ok (.iconst 0, 1) := by decide +kernel
theorem dX7_areTwo_26 : decode cX7_areTwo 26 = .ok (.ireturn, 1) := by decide +kernel
theorem dX7_ofKind_0 : decode cX7_ofKind 0 = .ok (.iconst 0, 1) := by decide +kernel
theorem dX7_ofKind_1 : decode cX7_ofKind 1 = .ok (.istore_n 2, 1) := by decide +kernel
theorem dX7_ofKind_2 : decode cX7_ofKind 2 = .ok (.iconst 0, 1) := by decide +kernel
theorem dX7_ofKind_3 : decode cX7_ofKind 3 = .ok (.istore_n 3, 1) := by decide +kernel
theorem dX7_ofKind_4 : decode cX7_ofKind 4 = .ok (.iload_n 3, 1) := by decide +kernel
theorem dX7_ofKind_5 : decode cX7_ofKind 5 = .ok (.aload_n 0, 1) := by decide +kernel
theorem dX7_ofKind_6 : decode cX7_ofKind 6 = .ok (.getfield 111, 3) := by decide +kernel
theorem dX7_ofKind_9 : decode cX7_ofKind 9 = .ok (.if_icmp .ge 29, 3) := by decide +kernel
theorem dX7_ofKind_12 : decode cX7_ofKind 12 = .ok (.iload_n 2, 1) := by decide +kernel
theorem dX7_ofKind_13 : decode cX7_ofKind 13 = .ok (.aload_n 0, 1) := by decide +kernel
theorem dX7_ofKind_14 : decode cX7_ofKind 14 = .ok (.getfield 7, 3) := by decide +kernel
theorem dX7_ofKind_17 : decode cX7_ofKind 17 = .ok (.iload_n 3, 1) := by decide +kernel
theorem dX7_ofKind_18 : decode cX7_ofKind 18 = .ok (.iaload, 1) := by decide +kernel
theorem dX7_ofKind_19 : decode cX7_ofKind 19 = .ok (.iload_n 1, 1) := by decide +kernel
theorem dX7_ofKind_20 : decode cX7_ofKind 20 = .ok (.if_icmp .ne 9, 3) := by decide +kernel
theorem dX7_ofKind_23 : decode cX7_ofKind 23 = .ok (.iconst 1, 1) := by decide +kernel
theorem dX7_ofKind_24 : decode cX7_ofKind 24 = .ok (.iload_n 3, 1) := by decide +kernel
theorem dX7_ofKind_25 : decode cX7_ofKind 25 = .ok (.ishl, 1) := by decide +kernel
theorem dX7_ofKind_26 : decode cX7_ofKind 26 = .ok (.goto 4, 3) := by decide +kernel
theorem dX7_ofKind_29 : decode cX7_ofKind 29 = .ok (.iconst 0, 1) := by decide +kernel
theorem dX7_ofKind_30 : decode cX7_ofKind 30 = .ok (.ior, 1) := by decide +kernel
theorem dX7_ofKind_31 : decode cX7_ofKind 31 = .ok (.istore_n 2, 1) := by decide +kernel
theorem dX7_ofKind_32 : decode cX7_ofKind 32 = .ok (.iinc 3 1, 3) := by decide +kernel
theorem dX7_ofKind_35 : decode cX7_ofKind 35 = .ok (.goto (-31), 3) := by decide +kernel
theorem dX7_ofKind_38 : decode cX7_ofKind 38 = .ok (.iload_n 2, 1) := by decide +kernel
theorem dX7_ofKind_39 : decode cX7_ofKind 39 = .ok (.ireturn, 1) := by decide +kernel
theorem dX7_kind_0 : decode cX7_kind 0 = .ok (.aload_n 0, 1) := by decide +kernel
theorem dX7_kind_1 : decode cX7_kind 1 = .ok (.iload_n 1, 1) := by decide +kernel
theorem dX7_kind_2 : decode cX7_kind 2 = .ok (.invokevirtual 145, 3) := by decide +kernel
theorem dX7_kind_5 : decode cX7_kind 5 = .ok (.ifCond .ne 6, 3) := by decide +kernel
theorem dX7_kind_8 : decode cX7_kind 8 = .ok (.bipush (-101), 2) := by decide +kernel
theorem dX7_kind_10 : decode cX7_kind 10 = .ok (.ireturn, 1) := by decide +kernel
theorem dX7_kind_11 : decode cX7_kind 11 = .ok (.iload_n 2, 1) := by decide +kernel
theorem dX7_kind_12 : decode cX7_kind 12 = .ok (.iconst 0, 1) := by decide +kernel
theorem dX7_kind_13 : decode cX7_kind 13 = .ok (.iconst 2, 1) := by decide +kernel
theorem dX7_kind_14 : decode cX7_kind 14 = .ok (.invokestatic 50, 3) := by decide +kernel
theorem dX7_kind_17 : decode cX7_kind 17 = .ok (.ifCond .ne 6, 3) := by decide +kernel
theorem dX7_kind_20 : decode cX7_kind 20 = .ok (.bipush (-102), 2) := by decide +kernel
theorem dX7_kind_22 : decode cX7_kind 22 = .ok (.ireturn, 1) := by decide +kernel
theorem dX7_kind_23 : decode cX7_kind 23 = .ok (.aload_n 0, 1) := by decide +kernel
theorem dX7_kind_24 : decode cX7_kind 24 = .ok (.getfield 7, 3) := by decide +kernel
theorem dX7_kind_27 : decode cX7_kind 27 = .ok (.iload_n 1, 1) := by decide +kernel
theorem dX7_kind_28 : decode cX7_kind 28 = .ok (.iaload, 1) := by decide +kernel
theorem dX7_kind_29 : decode cX7_kind 29 = .ok (.istore_n 3, 1) := by decide +kernel
theorem dX7_kind_30 : decode cX7_kind 30 = .ok (.iload_n 2, 1) := by decide +kernel
theorem dX7_kind_31 : decode cX7_kind 31 = .ok (.iconst 1, 1) := by decide +kernel
theorem dX7_kind_32 : decode cX7_kind 32 = .ok (.if_icmp .ne 23, 3) := by decide +kernel
theorem dX7_kind_35 : decode cX7_kind 35 = .ok (.iload_n 3, 1) := by decide +kernel
theorem dX7_kind_36 : decode cX7_kind 36 = .ok (.iconst 1, 1) := by decide +kernel
theorem dX7_kind_37 : decode cX7_kind 37 = .ok (.if_icmp .eq 18, 3) := by decide +kernel
theorem dX7_kind_40 : decode cX7_kind 40 = .ok (.aload_n 0, 1) := by decide +kernel
theorem dX7_kind_41 : decode cX7_kind 41 = .ok (.iconst 1, 1) := by decide +kernel
theorem dX7_kind_42 : decode cX7_kind 42 = .ok (.invokevirtual 148, 3) := by decide +kernel
theorem dX7_kind_45 : decode cX7_kind 45 = .ok (.invokestatic 71, 3) := by decide +kernel
theorem dX7_kind_48 : decode cX7_kind 48 = .ok (.iconst 5, 1) := by decide +kernel
theorem dX7_kind_49 : decode cX7_kind 49 = .ok (.if_icmp .ne 6, 3) := by decide +kernel
theorem dX7_kind_52 : decode cX7_kind 52 = .ok (.bipush (-104), 2) := by decide +kernel
theorem dX7_kind_54 : decode cX7_kind 54 = .ok (.ireturn, 1) := by decide +kernel
theorem dX7_kind_55 : decode cX7_kind 55 = .ok (.aload_n 0, 1) := by decide +kernel
theorem dX7_kind_56 : decode cX7_kind 56 = .ok (.getfield 7, 3) := by decide +kernel
theorem dX7_kind_59 : decode cX7_kind 59 = .ok (.iload_n 1, 1) := by decide +kernel
theorem dX7_kind_60 : decode cX7_kind 60 = .ok (.iload_n 2, 1) := by decide +kernel
theorem dX7_kind_61 : decode cX7_kind 61 = .ok (.iastore, 1) := by decide +kernel
theorem dX7_kind_62 : decode cX7_kind 62 = .ok (.iload_n 3, 1) := by decide +kernel
theorem dX7_kind_63 : decode cX7_kind 63 = .ok (.ireturn, 1) := by decide +kernel
theorem dX7_as_0 : decode cX7_as 0 = .ok (.aload_n 0, 1) := by decide +kernel
theorem dX7_as_1 : decode cX7_as 1 = .ok (.iload_n 1, 1) := by decide +kernel
theorem dX7_as_2 : decode cX7_as 2 = .ok (.invokevirtual 145, 3) := by decide +kernel
theorem dX7_as_5 : decode cX7_as 5 = .ok (.ifCond .ne 6, 3) := by decide +kernel
theorem dX7_as_8 : decode cX7_as 8 = .ok (.bipush (-101), 2) := by decide +kernel
theorem dX7_as_10 : decode cX7_as 10 = .ok (.ireturn, 1) := by decide +kernel
theorem dX7_as_11 : decode cX7_as 11 = .ok (.iload_n 2, 1) := by decide +kernel
theorem dX7_as_12 : decode cX7_as 12 = .ok (.iconst 0, 1) := by decide +kernel
theorem dX7_as_13 : decode cX7_as 13 = .ok (.iconst 2, 1) := by decide +kernel
theorem dX7_as_14 : decode cX7_as 14 = .ok (.invokestatic 50, 3) := by decide +kernel
theorem dX7_as_17 : decode cX7_as 17 = .ok (.ifCond .ne 6, 3) := by decide +kernel
theorem dX7_as_20 : decode cX7_as 20 = .ok (.bipush (-102), 2) := by decide +kernel
theorem dX7_as_22 : decode cX7_as 22 = .ok (.ireturn, 1) := by decide +kernel
theorem dX7_as_23 : decode cX7_as 23 = .ok (.iload_n 2, 1) := by decide +kernel
theorem dX7_as_24 : decode cX7_as 24 = .ok (.ifCond .eq 13, 3) := by decide +kernel
theorem dX7_as_27 : decode cX7_as 27 = .ok (.iload_n 2, 1) := by decide +kernel
theorem dX7_as_28 : decode cX7_as 28 = .ok (.aload_n 0, 1) := by decide +kernel
theorem dX7_as_29 : decode cX7_as 29 = .ok (.getfield 7, 3) := by decide +kernel
theorem dX7_as_32 : decode cX7_as 32 = .ok (.iload_n 1, 1) := by decide +kernel
theorem dX7_as_33 : decode cX7_as 33 = .ok (.iaload, 1) := by decide +kernel
theorem dX7_as_34 : decode cX7_as 34 = .ok (.if_icmp .ne 12, 3) := by decide +kernel
theorem dX7_as_37 : decode cX7_as 37 = .ok (.aload_n 0, 1) := by decide +kernel
theorem dX7_as_38 : decode cX7_as 38 = .ok (.getfield 7, 3) := by decide +kernel
theorem dX7_as_41 : decode cX7_as 41 = .ok (.iload_n 1, 1) := by decide +kernel
theorem dX7_as_42 : decode cX7_as 42 = .ok (.iaload, 1) := by decide +kernel
theorem dX7_as_43 : decode cX7_as 43 = .ok (.goto 4, 3) := by decide +kernel
theorem dX7_as_46 : decode cX7_as 46 = .ok (.iconst (-1), 1) := by decide +kernel
theorem dX7_as_47 : decode cX7_as 47 = .ok (.ireturn, 1) := by decide +kernel
theorem dX7_vouch_0 : decode cX7_vouch 0 = .ok (.aload_n 0, 1) := by decide +kernel
theorem dX7_vouch_1 : decode cX7_vouch 1 = .ok (.iload_n 1, 1) := by decide +kernel
theorem dX7_vouch_2 : decode cX7_vouch 2 = .ok (.iload_n 2, 1) := by decide +kernel
theorem dX7_vouch_3 : decode cX7_vouch 3 = .ok (.invokevirtual 151, 3) := by decide +kernel
theorem dX7_vouch_6 : decode cX7_vouch 6 = .ok (.ifCond .ne 6, 3) := by decide +kernel
theorem dX7_vouch_9 : decode cX7_vouch 9 = .ok (.bipush (-101), 2) := by decide +kernel
theorem dX7_vouch_11 : decode cX7_vouch 11 = .ok (.ireturn, 1) := by decide +kernel
theorem dX7_vouch_12 : decode cX7_vouch 12 = .ok (.aload_n 0, 1) := by decide +kernel
theorem dX7_vouch_13 : decode cX7_vouch 13 = .ok (.getfield 13, 3) := by decide +kernel
theorem dX7_vouch_16 : decode cX7_vouch 16 = .ok (.iload_n 1, 1) := by decide +kernel
theorem dX7_vouch_17 : decode cX7_vouch 17 = .ok (.iaload, 1) := by decide +kernel
theorem dX7_vouch_18 : decode cX7_vouch 18 = .ok (.iload_n 2, 1) := by decide +kernel
theorem dX7_vouch_19 : decode cX7_vouch 19 = .ok (.invokestatic 132, 3) := by decide +kernel
theorem dX7_vouch_22 : decode cX7_vouch 22 = .ok (.ifCond .eq 6, 3) := by decide +kernel
theorem dX7_vouch_25 : decode cX7_vouch 25 = .ok (.bipush (-103), 2) := by decide +kernel
theorem dX7_vouch_27 : decode cX7_vouch 27 = .ok (.ireturn, 1) := by decide +kernel
theorem dX7_vouch_28 : decode cX7_vouch 28 = .ok (.aload_n 0, 1) := by decide +kernel
theorem dX7_vouch_29 : decode cX7_vouch 29 = .ok (.getfield 13, 3) := by decide +kernel
theorem dX7_vouch_32 : decode cX7_vouch 32 = .ok (.iload_n 1, 1) := by decide +kernel
theorem dX7_vouch_33 : decode cX7_vouch 33 = .ok (.iaload, 1) := by decide +kernel
theorem dX7_vouch_34 : decode cX7_vouch 34 = .ok (.invokestatic 71, 3) := by decide +kernel
theorem dX7_vouch_37 : decode cX7_vouch 37 = .ok (.iconst 5, 1) := by decide +kernel
theorem dX7_vouch_38 : decode cX7_vouch 38 = .ok (.if_icmp .ne 6, 3) := by decide +kernel
theorem dX7_vouch_41 : decode cX7_vouch 41 = .ok (.bipush (-104), 2) := by decide +kernel
theorem dX7_vouch_43 : decode cX7_vouch 43 = .ok (.ireturn, 1) := by decide +kernel
theorem dX7_vouch_44 : decode cX7_vouch 44 = .ok (.aload_n 0, 1) := by decide +kernel
theorem dX7_vouch_45 : decode cX7_vouch 45 = .ok (.getfield 13, 3) := by decide +kernel
theorem dX7_vouch_48 : decode cX7_vouch 48 = .ok (.iload_n 1, 1) := by decide +kernel
theorem dX7_vouch_49 : decode cX7_vouch 49 = .ok (.dup2, 1) := by decide +kernel
theorem dX7_vouch_50 : decode cX7_vouch 50 = .ok (.iaload, 1) := by decide +kernel
theorem dX7_vouch_51 : decode cX7_vouch 51 = .ok (.iconst 1, 1) := by decide +kernel
theorem dX7_vouch_52 : decode cX7_vouch 52 = .ok (.iload_n 2, 1) := by decide +kernel
theorem dX7_vouch_53 : decode cX7_vouch 53 = .ok (.ishl, 1) := by decide +kernel
theorem dX7_vouch_54 : decode cX7_vouch 54 = .ok (.ior, 1) := by decide +kernel
theorem dX7_vouch_55 : decode cX7_vouch 55 = .ok (.iastore, 1) := by decide +kernel
theorem dX7_vouch_56 : decode cX7_vouch 56 = .ok (.aload_n 0, 1) := by decide +kernel
theorem dX7_vouch_57 : decode cX7_vouch 57 = .ok (.dup, 1) := by decide +kernel
theorem dX7_vouch_58 : decode cX7_vouch 58 = .ok (.getfield 154, 3) := by decide +kernel
theorem dX7_vouch_61 : decode cX7_vouch 61 = .ok (.iconst 1, 1) := by decide +kernel
theorem dX7_vouch_62 : decode cX7_vouch 62 = .ok (.iadd, 1) := by decide +kernel
theorem dX7_vouch_63 : decode cX7_vouch 63 = .ok (.putfield 154, 3) := by decide +kernel
theorem dX7_vouch_66 : decode cX7_vouch 66 = .ok (.aload_n 0, 1) := by decide +kernel
theorem dX7_vouch_67 : decode cX7_vouch 67 = .ok (.getfield 13, 3) := by decide +kernel
theorem dX7_vouch_70 : decode cX7_vouch 70 = .ok (.iload_n 1, 1) := by decide +kernel
theorem dX7_vouch_71 : decode cX7_vouch 71 = .ok (.iaload, 1) := by decide +kernel
theorem dX7_vouch_72 : decode cX7_vouch 72 = .ok (.invokestatic 71, 3) := by decide +kernel
theorem dX7_vouch_75 : decode cX7_vouch 75 = .ok (.ireturn, 1) := by decide +kernel
theorem dX7_recall_0 : decode cX7_recall 0 = .ok (.aload_n 0, 1) := by decide +kernel
theorem dX7_recall_1 : decode cX7_recall 1 = .ok (.iload_n 1, 1) := by decide +kernel
theorem dX7_recall_2 : decode cX7_recall 2 = .ok (.iload_n 2, 1) := by decide +kernel
theorem dX7_recall_3 : decode cX7_recall 3 = .ok (.invokevirtual 151, 3) := by decide +kernel
theorem dX7_recall_6 : decode cX7_recall 6 = .ok (.ifCond .ne 6, 3) := by decide +kernel
theorem dX7_recall_9 : decode cX7_recall 9 = .ok (.bipush (-101), 2) := by decide +kernel
theorem dX7_recall_11 : decode cX7_recall 11 = .ok (.ireturn, 1) := by decide +kernel
theorem dX7_recall_12 : decode cX7_recall 12 = .ok (.aload_n 0, 1) := by decide +kernel
theorem dX7_recall_13 : decode cX7_recall 13 = .ok (.getfield 13, 3) := by decide +kernel
theorem dX7_recall_16 : decode cX7_recall 16 = .ok (.iload_n 1, 1) := by decide +kernel
theorem dX7_recall_17 : decode cX7_recall 17 = .ok (.iaload, 1) := by decide +kernel
theorem dX7_recall_18 : decode cX7_recall 18 = .ok (.iload_n 2, 1) := by decide +kernel
theorem dX7_recall_19 : decode cX7_recall 19 = .ok (.invokestatic 132, 3) := by decide +kernel
theorem dX7_recall_22 : decode cX7_recall 22 = .ok (.ifCond .ne 6, 3) := by decide +kernel
theorem dX7_recall_25 : decode cX7_recall 25 = .ok (.bipush (-103), 2) := by decide +kernel
theorem dX7_recall_27 : decode cX7_recall 27 = .ok (.ireturn, 1) := by decide +kernel
theorem dX7_recall_28 : decode cX7_recall 28 = .ok (.aload_n 0, 1) := by decide +kernel
theorem dX7_recall_29 : decode cX7_recall 29 = .ok (.getfield 13, 3) := by decide +kernel
theorem dX7_recall_32 : decode cX7_recall 32 = .ok (.iload_n 1, 1) := by decide +kernel
theorem dX7_recall_33 : decode cX7_recall 33 = .ok (.dup2, 1) := by decide +kernel
theorem dX7_recall_34 : decode cX7_recall 34 = .ok (.iaload, 1) := by decide +kernel
theorem dX7_recall_35 : decode cX7_recall 35 = .ok (.iconst 1, 1) := by decide +kernel
theorem dX7_recall_36 : decode cX7_recall 36 = .ok (.iload_n 2, 1) := by decide +kernel
theorem dX7_recall_37 : decode cX7_recall 37 = .ok (.ishl, 1) := by decide +kernel
theorem dX7_recall_38 : decode cX7_recall 38 = .ok (.iconst (-1), 1) := by decide +kernel
theorem dX7_recall_39 : decode cX7_recall 39 = .ok (.ixor, 1) := by decide +kernel
theorem dX7_recall_40 : decode cX7_recall 40 = .ok (.iand, 1) := by decide +kernel
theorem dX7_recall_41 : decode cX7_recall 41 = .ok (.iastore, 1) := by decide +kernel
theorem dX7_recall_42 : decode cX7_recall 42 = .ok (.aload_n 0, 1) := by decide +kernel
theorem dX7_recall_43 : decode cX7_recall 43 = .ok (.dup, 1) := by decide +kernel
theorem dX7_recall_44 : decode cX7_recall 44 = .ok (.getfield 157, 3) := by decide +kernel
theorem dX7_recall_47 : decode cX7_recall 47 = .ok (.iconst 1, 1) := by decide +kernel
theorem dX7_recall_48 : decode cX7_recall 48 = .ok (.iadd, 1) := by decide +kernel
theorem dX7_recall_49 : decode cX7_recall 49 = .ok (.putfield 157, 3) := by decide +kernel
theorem dX7_recall_52 : decode cX7_recall 52 = .ok (.aload_n 0, 1) := by decide +kernel
theorem dX7_recall_53 : decode cX7_recall 53 = .ok (.getfield 13, 3) := by decide +kernel
theorem dX7_recall_56 : decode cX7_recall 56 = .ok (.iload_n 1, 1) := by decide +kernel
theorem dX7_recall_57 : decode cX7_recall 57 = .ok (.iaload, 1) := by decide +kernel
theorem dX7_recall_58 : decode cX7_recall 58 = .ok (.invokestatic 71, 3) := by decide +kernel
theorem dX7_recall_61 : decode cX7_recall 61 = .ok (.ireturn, 1) := by decide +kernel
theorem dX7_bound_0 : decode cX7_bound 0 = .ok (.aload_n 0, 1) := by decide +kernel
theorem dX7_bound_1 : decode cX7_bound 1 = .ok (.invokevirtual 139, 3) := by decide +kernel
theorem dX7_bound_4 : decode cX7_bound 4 = .ok (.ifCond .eq 17, 3) := by decide +kernel
theorem dX7_bound_7 : decode cX7_bound 7 = .ok (.iload_n 1, 1) := by decide +kernel
theorem dX7_bound_8 : decode cX7_bound 8 = .ok (.iconst 0, 1) := by decide +kernel
theorem dX7_bound_9 : decode cX7_bound 9 = .ok (.aload_n 0, 1) := by decide +kernel
theorem dX7_bound_10 : decode cX7_bound 10 = .ok (.getfield 114, 3) := by decide +kernel
theorem dX7_bound_13 : decode cX7_bound 13 = .ok (.iconst 1, 1) := by decide +kernel
theorem dX7_bound_14 : decode cX7_bound 14 = .ok (.isub, 1) := by decide +kernel
theorem dX7_bound_15 : decode cX7_bound 15 = .ok (.invokestatic 50, 3) := by decide +kernel
theorem dX7_bound_18 : decode cX7_bound 18 = .ok (.ifCond .ne 6, 3) := by decide +kernel
theorem dX7_bound_21 : decode cX7_bound 21 = .ok (.bipush (-101), 2) := by decide +kernel
theorem dX7_bound_23 : decode cX7_bound 23 = .ok (.ireturn, 1) := by decide +kernel
theorem dX7_bound_24 : decode cX7_bound 24 = .ok (.iload_n 2, 1) := by decide +kernel
theorem dX7_bound_25 : decode cX7_bound 25 = .ok (.iconst 0, 1) := by decide +kernel
theorem dX7_bound_26 : decode cX7_bound 26 = .ok (.bipush 9, 2) := by decide +kernel
theorem dX7_bound_28 : decode cX7_bound 28 = .ok (.invokestatic 50, 3) := by decide +kernel
theorem dX7_bound_31 : decode cX7_bound 31 = .ok (.ifCond .ne 6, 3) := by decide +kernel
theorem dX7_bound_34 : decode cX7_bound 34 = .ok (.bipush (-102), 2) := by decide +kernel
theorem dX7_bound_36 : decode cX7_bound 36 = .ok (.ireturn, 1) := by decide +kernel
theorem dX7_bound_37 : decode cX7_bound 37 = .ok (.aload_n 0, 1) := by decide +kernel
theorem dX7_bound_38 : decode cX7_bound 38 = .ok (.getfield 16, 3) := by decide +kernel
theorem dX7_bound_41 : decode cX7_bound 41 = .ok (.iload_n 1, 1) := by decide +kernel
theorem dX7_bound_42 : decode cX7_bound 42 = .ok (.iaload, 1) := by decide +kernel
theorem dX7_bound_43 : decode cX7_bound 43 = .ok (.istore_n 3, 1) := by decide +kernel
theorem dX7_bound_44 : decode cX7_bound 44 = .ok (.aload_n 0, 1) := by decide +kernel
theorem dX7_bound_45 : decode cX7_bound 45 = .ok (.getfield 16, 3) := by decide +kernel
theorem dX7_bound_48 : decode cX7_bound 48 = .ok (.iload_n 1, 1) := by decide +kernel
theorem dX7_bound_49 : decode cX7_bound 49 = .ok (.iload_n 2, 1) := by decide +kernel
theorem dX7_bound_50 : decode cX7_bound 50 = .ok (.iastore, 1) := by decide +kernel
theorem dX7_bound_51 : decode cX7_bound 51 = .ok (.iload_n 3, 1) := by decide +kernel
theorem dX7_bound_52 : decode cX7_bound 52 = .ok (.ireturn, 1) := by decide +kernel
theorem dX7_vouchedBy_0 : decode cX7_vouchedBy 0 = .ok (.iconst 0, 1) := by decide +kernel
theorem dX7_vouchedBy_1 : decode cX7_vouchedBy 1 = .ok (.istore_n 2, 1) := by decide +kernel
theorem dX7_vouchedBy_2 : decode cX7_vouchedBy 2 = .ok (.iconst 0, 1) := by decide +kernel
theorem dX7_vouchedBy_3 : decode cX7_vouchedBy 3 = .ok (.istore_n 3, 1) := by decide +kernel
theorem dX7_vouchedBy_4 : decode cX7_vouchedBy 4 = .ok (.iload_n 3, 1) := by decide +kernel
theorem dX7_vouchedBy_5 : decode cX7_vouchedBy 5 = .ok (.aload_n 0, 1) := by decide +kernel
theorem dX7_vouchedBy_6 : decode cX7_vouchedBy 6 = .ok (.getfield 111, 3) := by decide +kernel
theorem dX7_vouchedBy_9 : decode cX7_vouchedBy 9 = .ok (.if_icmp .ge 30, 3) := by decide +kernel
theorem dX7_vouchedBy_12 : decode cX7_vouchedBy 12 = .ok (.iload_n 2, 1) := by decide +kernel
theorem dX7_vouchedBy_13 : decode cX7_vouchedBy 13 = .ok (.iload_n 1, 1) := by decide +kernel
theorem dX7_vouchedBy_14 : decode cX7_vouchedBy 14 = .ok (.iload_n 3, 1) := by decide +kernel
theorem dX7_vouchedBy_15 : decode cX7_vouchedBy 15 = .ok (.invokestatic 132, 3) := by decide +kernel
theorem dX7_vouchedBy_18 : decode cX7_vouchedBy 18 = .ok (.ifCond .eq 12, 3) := by decide +kernel
theorem dX7_vouchedBy_21 : decode cX7_vouchedBy 21 = .ok (.aload_n 0, 1) := by decide +kernel
theorem dX7_vouchedBy_22 : decode cX7_vouchedBy 22 = .ok (.getfield 13, 3) := by decide +kernel
theorem dX7_vouchedBy_25 : decode cX7_vouchedBy 25 = .ok (.iload_n 3, 1) := by decide +kernel
theorem dX7_vouchedBy_26 : decode cX7_vouchedBy 26 = .ok (.iaload, 1) := by decide +kernel
theorem dX7_vouchedBy_27 : decode cX7_vouchedBy 27 = .ok (.goto 4, 3) := by decide +kernel
theorem dX7_vouchedBy_30 : decode cX7_vouchedBy 30 = .ok (.iconst 0, 1) := by decide +kernel
theorem dX7_vouchedBy_31 : decode cX7_vouchedBy 31 = .ok (.ior, 1) := by decide +kernel
theorem dX7_vouchedBy_32 : decode cX7_vouchedBy 32 = .ok (.istore_n 2, 1) := by decide +kernel
theorem dX7_vouchedBy_33 : decode cX7_vouchedBy 33 = .ok (.iinc 3 1, 3) := by decide +kernel
theorem dX7_vouchedBy_36 : decode cX7_vouchedBy 36 = .ok (.goto (-32), 3) := by decide +kernel
theorem dX7_vouchedBy_39 : decode cX7_vouchedBy 39 = .ok (.iload_n 2, 1) := by decide +kernel
theorem dX7_vouchedBy_40 : decode cX7_vouchedBy 40 = .ok (.ireturn, 1) := by decide +kernel
theorem dX7_wallOf_0 : decode cX7_wallOf 0 = .ok (.aload_n 0, 1) := by decide +kernel
theorem dX7_wallOf_1 : decode cX7_wallOf 1 = .ok (.iconst 1, 1) := by decide +kernel
theorem dX7_wallOf_2 : decode cX7_wallOf 2 = .ok (.invokevirtual 148, 3) := by decide +kernel
theorem dX7_wallOf_5 : decode cX7_wallOf 5 = .ok (.aload_n 0, 1) := by decide +kernel
theorem dX7_wallOf_6 : decode cX7_wallOf 6 = .ok (.iload_n 1, 1) := by decide +kernel
theorem dX7_wallOf_7 : decode cX7_wallOf 7 = .ok (.invokevirtual 160, 3) := by decide +kernel
theorem dX7_wallOf_10 : decode cX7_wallOf 10 = .ok (.ior, 1) := by decide +kernel
theorem dX7_wallOf_11 : decode cX7_wallOf 11 = .ok (.iload_n 1, 1) := by decide +kernel
theorem dX7_wallOf_12 : decode cX7_wallOf 12 = .ok (.iconst (-1), 1) := by decide +kernel
theorem dX7_wallOf_13 : decode cX7_wallOf 13 = .ok (.ixor, 1) := by decide +kernel
theorem dX7_wallOf_14 : decode cX7_wallOf 14 = .ok (.iand, 1) := by decide +kernel
theorem dX7_wallOf_15 : decode cX7_wallOf 15 = .ok (.ireturn, 1) := by decide +kernel
theorem dX7_layLevels_0 : decode cX7_layLevels 0 = .ok (.aload_n 0, 1) := by decide +kernel
theorem dX7_layLevels_1 : decode cX7_layLevels 1 = .ok (.iconst 1, 1) := by decide +kernel
theorem dX7_layLevels_2 : decode cX7_layLevels 2 = .ok (.invokevirtual 148, 3) := by decide +kernel
theorem dX7_layLevels_5 : decode cX7_layLevels 5 = .ok (.istore_n 1, 1) := by decide +kernel
theorem dX7_layLevels_6 : decode cX7_layLevels 6 = .ok (.iconst 0, 1) := by decide +kernel
theorem dX7_layLevels_7 : decode cX7_layLevels 7 = .ok (.istore_n 2, 1) := by decide +kernel
theorem dX7_layLevels_8 : decode cX7_layLevels 8 = .ok (.iload_n 2, 1) := by decide +kernel
theorem dX7_layLevels_9 : decode cX7_layLevels 9 = .ok (.aload_n 0, 1) := by decide +kernel
theorem dX7_layLevels_10 : decode cX7_layLevels 10 = .ok (.getfield 111, 3) := by decide +kernel
theorem dX7_layLevels_13 : decode cX7_layLevels 13 = .ok (.if_icmp .ge 28, 3) := by decide +kernel
theorem dX7_layLevels_16 : decode cX7_layLevels 16 = .ok (.aload_n 0, 1) := by decide +kernel
theorem dX7_layLevels_17 : decode cX7_layLevels 17 = .ok (.getfield 31, 3) := by decide +kernel
theorem dX7_layLevels_20 : decode cX7_layLevels 20 = .ok (.iload_n 2, 1) := by decide +kernel
theorem dX7_layLevels_21 : decode cX7_layLevels 21 = .ok (.iload_n 1, 1) := by decide +kernel
theorem dX7_layLevels_22 : decode cX7_layLevels 22 = .ok (.iload_n 2, 1) := by decide +kernel
theorem dX7_layLevels_23 : decode cX7_layLevels 23 = .ok (.invokestatic 132, 3) := by decide +kernel
theorem dX7_layLevels_26 : decode cX7_layLevels 26 = .ok (.ifCond .eq 7, 3) := by decide +kernel
theorem dX7_layLevels_29 : decode cX7_layLevels 29 = .ok (.iconst 0, 1) := by decide +kernel
theorem dX7_layLevels_30 : decode cX7_layLevels 30 = .ok (.goto 4, 3) := by decide +kernel
theorem dX7_layLevels_33 : decode cX7_layLevels 33 = .ok (.iconst (-1), 1) := by decide +kernel
theorem dX7_layLevels_34 : decode cX7_layLevels 34 = .ok (.iastore, 1) := by decide +kernel
theorem dX7_layLevels_35 : decode cX7_layLevels 35 = .ok (.iinc 2 1, 3) := by decide +kernel
theorem dX7_layLevels_38 : decode cX7_layLevels 38 = .ok (.goto (-30), 3) := by decide +kernel
theorem dX7_layLevels_41 : decode cX7_layLevels 41 = .ok (.iconst 1, 1) := by decide +kernel
theorem dX7_layLevels_42 : decode cX7_layLevels 42 = .ok (.istore_n 2, 1) := by decide +kernel
theorem dX7_layLevels_43 : decode cX7_layLevels 43 = .ok (.iload_n 2, 1) := by decide +kernel
theorem dX7_layLevels_44 : decode cX7_layLevels 44 = .ok (.bipush 9, 2) := by decide +kernel
theorem dX7_layLevels_46 : decode cX7_layLevels 46 = .ok (.if_icmp .ge 68, 3) := by decide +kernel
theorem dX7_layLevels_49 : decode cX7_layLevels 49 = .ok (.aload_n 0, 1) := by decide +kernel
theorem dX7_layLevels_50 : decode cX7_layLevels 50 = .ok (.iload_n 1, 1) := by decide +kernel
theorem dX7_layLevels_51 : decode cX7_layLevels 51 = .ok (.invokevirtual 160, 3) := by decide +kernel
theorem dX7_layLevels_54 : decode cX7_layLevels 54 = .ok (.iload_n 1, 1) := by decide +kernel
theorem dX7_layLevels_55 : decode cX7_layLevels 55 = .ok (.iconst (-1), 1) := by decide +kernel
theorem dX7_layLevels_56 : decode cX7_layLevels 56 = .ok (.ixor, 1) := by decide +kernel
theorem dX7_layLevels_57 : decode cX7_layLevels 57 = .ok (.iand, 1) := by decide +kernel
theorem dX7_layLevels_58 : decode cX7_layLevels 58 = .ok (.istore_n 3, 1) := by decide +kernel
theorem dX7_layLevels_59 : decode cX7_layLevels 59 = .ok (.iconst 0, 1) := by decide +kernel
theorem dX7_layLevels_60 : decode cX7_layLevels 60 = .ok (.istore 4, 2) := by decide +kernel
theorem dX7_layLevels_62 : decode cX7_layLevels 62 = .ok (.iload 4, 2) := by decide +kernel
theorem dX7_layLevels_64 : decode cX7_layLevels 64 = .ok (.aload_n 0, 1) := by decide +kernel
theorem dX7_layLevels_65 : decode cX7_layLevels 65 = .ok (.getfield 111, 3) := by decide +kernel
theorem dX7_layLevels_68 : decode cX7_layLevels 68 = .ok (.if_icmp .ge 36, 3) := by decide +kernel
theorem dX7_layLevels_71 : decode cX7_layLevels 71 = .ok (.aload_n 0, 1) := by decide +kernel
theorem dX7_layLevels_72 : decode cX7_layLevels 72 = .ok (.getfield 31, 3) := by decide +kernel
theorem dX7_layLevels_75 : decode cX7_layLevels 75 = .ok (.iload 4, 2) := by decide +kernel
theorem dX7_layLevels_77 : decode cX7_layLevels 77 = .ok (.iload_n 3, 1) := by decide +kernel
theorem dX7_layLevels_78 : decode cX7_layLevels 78 = .ok (.iload 4, 2) := by decide +kernel
theorem dX7_layLevels_80 : decode cX7_layLevels 80 = .ok (.invokestatic 132, 3) := by decide +kernel
theorem dX7_layLevels_83 : decode cX7_layLevels 83 = .ok (.ifCond .eq 7, 3) := by decide +kernel
theorem dX7_layLevels_86 : decode cX7_layLevels 86 = .ok (.iload_n 2, 1) := by decide +kernel
theorem dX7_layLevels_87 : decode cX7_layLevels 87 = .ok (.goto 10, 3) := by decide +kernel
theorem dX7_layLevels_90 : decode cX7_layLevels 90 = .ok (.aload_n 0, 1) := by decide +kernel
theorem dX7_layLevels_91 : decode cX7_layLevels 91 = .ok (.getfield 31, 3) := by decide +kernel
theorem dX7_layLevels_94 : decode cX7_layLevels 94 = .ok (.iload 4, 2) := by decide +kernel
theorem dX7_layLevels_96 : decode cX7_layLevels 96 = .ok (.iaload, 1) := by decide +kernel
theorem dX7_layLevels_97 : decode cX7_layLevels 97 = .ok (.iastore, 1) := by decide +kernel
theorem dX7_layLevels_98 : decode cX7_layLevels 98 = .ok (.iinc 4 1, 3) := by decide +kernel
theorem dX7_layLevels_101 : decode cX7_layLevels 101 = .ok (.goto (-39), 3) := by decide +kernel
theorem dX7_layLevels_104 : decode cX7_layLevels 104 = .ok (.iload_n 1, 1) := by decide +kernel
theorem dX7_layLevels_105 : decode cX7_layLevels 105 = .ok (.iload_n 3, 1) := by decide +kernel
theorem dX7_layLevels_106 : decode cX7_layLevels 106 = .ok (.ior, 1) := by decide +kernel
theorem dX7_layLevels_107 : decode cX7_layLevels 107 = .ok (.istore_n 1, 1) := by decide +kernel
theorem dX7_layLevels_108 : decode cX7_layLevels 108 = .ok (.iinc 2 1, 3) := by decide +kernel
theorem dX7_layLevels_111 : decode cX7_layLevels 111 = .ok (.goto (-68), 3) := by decide +kernel
theorem dX7_layLevels_114 : decode cX7_layLevels 114 = .ok (.iconst 0, 1) := by decide +kernel
theorem dX7_layLevels_115 : decode cX7_layLevels 115 = .ok (.istore_n 2, 1) := by decide +kernel
theorem dX7_layLevels_116 : decode cX7_layLevels 116 = .ok (.iload_n 2, 1) := by decide +kernel
theorem dX7_layLevels_117 : decode cX7_layLevels 117 = .ok (.aload_n 0, 1) := by decide +kernel
theorem dX7_layLevels_118 : decode cX7_layLevels 118 = .ok (.getfield 111, 3) := by decide +kernel
theorem dX7_layLevels_121 : decode cX7_layLevels 121 = .ok (.if_icmp .ge 49, 3) := by decide +kernel
theorem dX7_layLevels_124 : decode cX7_layLevels 124 = .ok (.aload_n 0, 1) := by decide +kernel
theorem dX7_layLevels_125 : decode cX7_layLevels 125 = .ok (.getfield 34, 3) := by decide +kernel
theorem dX7_layLevels_128 : decode cX7_layLevels 128 = .ok (.iload_n 2, 1) := by decide +kernel
theorem dX7_layLevels_129 : decode cX7_layLevels 129 = .ok (.aload_n 0, 1) := by decide +kernel
theorem dX7_layLevels_130 : decode cX7_layLevels 130 = .ok (.getfield 31, 3) := by decide +kernel
theorem dX7_layLevels_133 : decode cX7_layLevels 133 = .ok (.iload_n 2, 1) := by decide +kernel
theorem dX7_layLevels_134 : decode cX7_layLevels 134 = .ok (.iaload, 1) := by decide +kernel
theorem dX7_layLevels_135 : decode cX7_layLevels 135 = .ok (.iconst 0, 1) := by decide +kernel
theorem dX7_layLevels_136 : decode cX7_layLevels 136 = .ok (.aload_n 0, 1) := by decide +kernel
theorem dX7_layLevels_137 : decode cX7_layLevels 137 = .ok (.getfield 114, 3) := by decide +kernel
theorem dX7_layLevels_140 : decode cX7_layLevels 140 = .ok (.iconst 1, 1) := by decide +kernel
theorem dX7_layLevels_141 : decode cX7_layLevels 141 = .ok (.isub, 1) := by decide +kernel
theorem dX7_layLevels_142 : decode cX7_layLevels 142 = .ok (.invokestatic 50, 3) := by decide +kernel
theorem dX7_layLevels_145 : decode cX7_layLevels 145 = .ok (.ifCond .eq 17, 3) := by decide +kernel
theorem dX7_layLevels_148 : decode cX7_layLevels 148 = .ok (.aload_n 0, 1) := by decide +kernel
theorem dX7_layLevels_149 : decode cX7_layLevels 149 = .ok (.getfield 16, 3) := by decide +kernel
theorem dX7_layLevels_152 : decode cX7_layLevels 152 = .ok (.aload_n 0, 1) := by decide +kernel
theorem dX7_layLevels_153 : decode cX7_layLevels 153 = .ok (.getfield 31, 3) := by decide +kernel
theorem dX7_layLevels_156 : decode cX7_layLevels 156 = .ok (.iload_n 2, 1) := by decide +kernel
theorem dX7_layLevels_157 : decode cX7_layLevels 157 = .ok (.iaload, 1) := by decide +kernel
theorem dX7_layLevels_158 : decode cX7_layLevels 158 = .ok (.iaload, 1) := by decide +kernel
theorem dX7_layLevels_159 : decode cX7_layLevels 159 = .ok (.goto 4, 3) := by decide +kernel
theorem dX7_layLevels_162 : decode cX7_layLevels 162 = .ok (.iconst 0, 1) := by decide +kernel
theorem dX7_layLevels_163 : decode cX7_layLevels 163 = .ok (.iastore, 1) := by decide +kernel
theorem dX7_layLevels_164 : decode cX7_layLevels 164 = .ok (.iinc 2 1, 3) := by decide +kernel
theorem dX7_layLevels_167 : decode cX7_layLevels 167 = .ok (.goto (-51), 3) := by decide +kernel
theorem dX7_layLevels_170 : decode cX7_layLevels 170 = .ok (.return_, 1) := by decide +kernel
theorem dX7_mostOf_0 : decode cX7_mostOf 0 = .ok (.iconst 0, 1) := by decide +kernel
theorem dX7_mostOf_1 : decode cX7_mostOf 1 = .ok (.istore_n 2, 1) := by decide +kernel
theorem dX7_mostOf_2 : decode cX7_mostOf 2 = .ok (.iconst 0, 1) := by decide +kernel
theorem dX7_mostOf_3 : decode cX7_mostOf 3 = .ok (.istore_n 3, 1) := by decide +kernel
theorem dX7_mostOf_4 : decode cX7_mostOf 4 = .ok (.iload_n 3, 1) := by decide +kernel
theorem dX7_mostOf_5 : decode cX7_mostOf 5 = .ok (.aload_n 0, 1) := by decide +kernel
theorem dX7_mostOf_6 : decode cX7_mostOf 6 = .ok (.getfield 111, 3) := by decide +kernel
theorem dX7_mostOf_9 : decode cX7_mostOf 9 = .ok (.if_icmp .ge 30, 3) := by decide +kernel
theorem dX7_mostOf_12 : decode cX7_mostOf 12 = .ok (.iload_n 2, 1) := by decide +kernel
theorem dX7_mostOf_13 : decode cX7_mostOf 13 = .ok (.iload_n 1, 1) := by decide +kernel
theorem dX7_mostOf_14 : decode cX7_mostOf 14 = .ok (.iload_n 3, 1) := by decide +kernel
theorem dX7_mostOf_15 : decode cX7_mostOf 15 = .ok (.invokestatic 132, 3) := by decide +kernel
theorem dX7_mostOf_18 : decode cX7_mostOf 18 = .ok (.ifCond .eq 12, 3) := by decide +kernel
theorem dX7_mostOf_21 : decode cX7_mostOf 21 = .ok (.aload_n 0, 1) := by decide +kernel
theorem dX7_mostOf_22 : decode cX7_mostOf 22 = .ok (.getfield 34, 3) := by decide +kernel
theorem dX7_mostOf_25 : decode cX7_mostOf 25 = .ok (.iload_n 3, 1) := by decide +kernel
theorem dX7_mostOf_26 : decode cX7_mostOf 26 = .ok (.iaload, 1) := by decide +kernel
theorem dX7_mostOf_27 : decode cX7_mostOf 27 = .ok (.goto 4, 3) := by decide +kernel
theorem dX7_mostOf_30 : decode cX7_mostOf 30 = .ok (.iconst 0, 1) := by decide +kernel
theorem dX7_mostOf_31 : decode cX7_mostOf 31 = .ok (.iadd, 1) := by decide +kernel
theorem dX7_mostOf_32 : decode cX7_mostOf 32 = .ok (.istore_n 2, 1) := by decide +kernel
theorem dX7_mostOf_33 : decode cX7_mostOf 33 = .ok (.iinc 3 1, 3) := by decide +kernel
theorem dX7_mostOf_36 : decode cX7_mostOf 36 = .ok (.goto (-32), 3) := by decide +kernel
theorem dX7_mostOf_39 : decode cX7_mostOf 39 = .ok (.iload_n 2, 1) := by decide +kernel
theorem dX7_mostOf_40 : decode cX7_mostOf 40 = .ok (.ireturn, 1) := by decide +kernel
theorem dX7_lay_0 : decode cX7_lay 0 = .ok (.aload_n 0, 1) := by decide +kernel
theorem dX7_lay_1 : decode cX7_lay 1 = .ok (.invokevirtual 163, 3) := by decide +kernel
theorem dX7_lay_4 : decode cX7_lay 4 = .ok (.iconst 0, 1) := by decide +kernel
theorem dX7_lay_5 : decode cX7_lay 5 = .ok (.istore_n 1, 1) := by decide +kernel
theorem dX7_lay_6 : decode cX7_lay 6 = .ok (.iload_n 1, 1) := by decide +kernel
theorem dX7_lay_7 : decode cX7_lay 7 = .ok (.iconst 1, 1) := by decide +kernel
theorem dX7_lay_8 : decode cX7_lay 8 = .ok (.aload_n 0, 1) := by decide +kernel
theorem dX7_lay_9 : decode cX7_lay 9 = .ok (.getfield 111, 3) := by decide +kernel
theorem dX7_lay_12 : decode cX7_lay 12 = .ok (.ishl, 1) := by decide +kernel
theorem dX7_lay_13 : decode cX7_lay 13 = .ok (.if_icmp .ge 24, 3) := by decide +kernel
theorem dX7_lay_16 : decode cX7_lay 16 = .ok (.aload_n 0, 1) := by decide +kernel
theorem dX7_lay_17 : decode cX7_lay 17 = .ok (.getfield 37, 3) := by decide +kernel
theorem dX7_lay_20 : decode cX7_lay 20 = .ok (.iload_n 1, 1) := by decide +kernel
theorem dX7_lay_21 : decode cX7_lay 21 = .ok (.aload_n 0, 1) := by decide +kernel
theorem dX7_lay_22 : decode cX7_lay 22 = .ok (.aload_n 0, 1) := by decide +kernel
theorem dX7_lay_23 : decode cX7_lay 23 = .ok (.iload_n 1, 1) := by decide +kernel
theorem dX7_lay_24 : decode cX7_lay 24 = .ok (.invokevirtual 166, 3) := by decide +kernel
theorem dX7_lay_27 : decode cX7_lay 27 = .ok (.invokevirtual 169, 3) := by decide +kernel
theorem dX7_lay_30 : decode cX7_lay 30 = .ok (.iastore, 1) := by decide +kernel
theorem dX7_lay_31 : decode cX7_lay 31 = .ok (.iinc 1 1, 3) := by decide +kernel
theorem dX7_lay_34 : decode cX7_lay 34 = .ok (.goto (-28), 3) := by decide +kernel
theorem dX7_lay_37 : decode cX7_lay 37 = .ok (.return_, 1) := by decide +kernel
theorem dX7_canBe_0 : decode cX7_canBe 0 = .ok (.iconst 1, 1) := by decide +kernel
theorem dX7_canBe_1 : decode cX7_canBe 1 = .ok (.istore_n 2, 1) := by decide +kernel
theorem dX7_canBe_2 : decode cX7_canBe 2 = .ok (.iconst 0, 1) := by decide +kernel
theorem dX7_canBe_3 : decode cX7_canBe 3 = .ok (.istore_n 3, 1) := by decide +kernel
theorem dX7_canBe_4 : decode cX7_canBe 4 = .ok (.iload_n 3, 1) := by decide +kernel
theorem dX7_canBe_5 : decode cX7_canBe 5 = .ok (.iconst 1, 1) := by decide +kernel
theorem dX7_canBe_6 : decode cX7_canBe 6 = .ok (.aload_n 0, 1) := by decide +kernel
theorem dX7_canBe_7 : decode cX7_canBe 7 = .ok (.getfield 111, 3) := by decide +kernel
theorem dX7_canBe_10 : decode cX7_canBe 10 = .ok (.ishl, 1) := by decide +kernel
theorem dX7_canBe_11 : decode cX7_canBe 11 = .ok (.if_icmp .ge 36, 3) := by decide +kernel
theorem dX7_canBe_14 : decode cX7_canBe 14 = .ok (.iload_n 2, 1) := by decide +kernel
theorem dX7_canBe_15 : decode cX7_canBe 15 = .ok (.ifCond .eq 32, 3) := by decide +kernel
theorem dX7_canBe_18 : decode cX7_canBe 18 = .ok (.aload_n 0, 1) := by decide +kernel
theorem dX7_canBe_19 : decode cX7_canBe 19 = .ok (.getfield 37, 3) := by decide +kernel
theorem dX7_canBe_22 : decode cX7_canBe 22 = .ok (.iload_n 3, 1) := by decide +kernel
theorem dX7_canBe_23 : decode cX7_canBe 23 = .ok (.iaload, 1) := by decide +kernel
theorem dX7_canBe_24 : decode cX7_canBe 24 = .ok (.iload_n 1, 1) := by decide +kernel
theorem dX7_canBe_25 : decode cX7_canBe 25 = .ok (.iload_n 3, 1) := by decide +kernel
theorem dX7_canBe_26 : decode cX7_canBe 26 = .ok (.iconst (-1), 1) := by decide +kernel
theorem dX7_canBe_27 : decode cX7_canBe 27 = .ok (.ixor, 1) := by decide +kernel
theorem dX7_canBe_28 : decode cX7_canBe 28 = .ok (.iand, 1) := by decide +kernel
theorem dX7_canBe_29 : decode cX7_canBe 29 = .ok (.invokestatic 71, 3) := by decide +kernel
theorem dX7_canBe_32 : decode cX7_canBe 32 = .ok (.if_icmp .lt 7, 3) := by decide +kernel
theorem dX7_canBe_35 : decode cX7_canBe 35 = .ok (.iconst 1, 1) := by decide +kernel
theorem dX7_canBe_36 : decode cX7_canBe 36 = .ok (.goto 4, 3) := by decide +kernel
theorem dX7_canBe_39 : decode cX7_canBe 39 = .ok (.iconst 0, 1) := by decide +kernel
theorem dX7_canBe_40 : decode cX7_canBe 40 = .ok (.istore_n 2, 1) := by decide +kernel
theorem dX7_canBe_41 : decode cX7_canBe 41 = .ok (.iinc 3 1, 3) := by decide +kernel
theorem dX7_canBe_44 : decode cX7_canBe 44 = .ok (.goto (-40), 3) := by decide +kernel
theorem dX7_canBe_47 : decode cX7_canBe 47 = .ok (.iload_n 2, 1) := by decide +kernel
theorem dX7_canBe_48 : decode cX7_canBe 48 = .ok (.ireturn, 1) := by decide +kernel
theorem dX7_allIn_0 : decode cX7_allIn 0 = .ok (.iconst 0, 1) := by decide +kernel
theorem dX7_allIn_1 : decode cX7_allIn 1 = .ok (.istore_n 1, 1) := by decide +kernel
theorem dX7_allIn_2 : decode cX7_allIn 2 = .ok (.iconst 0, 1) := by decide +kernel
theorem dX7_allIn_3 : decode cX7_allIn 3 = .ok (.istore_n 2, 1) := by decide +kernel
theorem dX7_allIn_4 : decode cX7_allIn 4 = .ok (.iload_n 2, 1) := by decide +kernel
theorem dX7_allIn_5 : decode cX7_allIn 5 = .ok (.aload_n 0, 1) := by decide +kernel
theorem dX7_allIn_6 : decode cX7_allIn 6 = .ok (.getfield 111, 3) := by decide +kernel
theorem dX7_allIn_9 : decode cX7_allIn 9 = .ok (.if_icmp .ge 31, 3) := by decide +kernel
theorem dX7_allIn_12 : decode cX7_allIn 12 = .ok (.iload_n 1, 1) := by decide +kernel
theorem dX7_allIn_13 : decode cX7_allIn 13 = .ok (.aload_n 0, 1) := by decide +kernel
theorem dX7_allIn_14 : decode cX7_allIn 14 = .ok (.iload_n 1, 1) := by decide +kernel
theorem dX7_allIn_15 : decode cX7_allIn 15 = .ok (.iconst 1, 1) := by decide +kernel
theorem dX7_allIn_16 : decode cX7_allIn 16 = .ok (.iload_n 2, 1) := by decide +kernel
theorem dX7_allIn_17 : decode cX7_allIn 17 = .ok (.ishl, 1) := by decide +kernel
theorem dX7_allIn_18 : decode cX7_allIn 18 = .ok (.ior, 1) := by decide +kernel
theorem dX7_allIn_19 : decode cX7_allIn 19 = .ok (.invokevirtual 172, 3) := by decide +kernel
theorem dX7_allIn_22 : decode cX7_allIn 22 = .ok (.ifCond .eq 9, 3) := by decide +kernel
theorem dX7_allIn_25 : decode cX7_allIn 25 = .ok (.iconst 1, 1) := by decide +kernel
theorem dX7_allIn_26 : decode cX7_allIn 26 = .ok (.iload_n 2, 1) := by decide +kernel
theorem dX7_allIn_27 : decode cX7_allIn 27 = .ok (.ishl, 1) := by decide +kernel
theorem dX7_allIn_28 : decode cX7_allIn 28 = .ok (.goto 4, 3) := by decide +kernel
theorem dX7_allIn_31 : decode cX7_allIn 31 = .ok (.iconst 0, 1) := by decide +kernel
theorem dX7_allIn_32 : decode cX7_allIn 32 = .ok (.ior, 1) := by decide +kernel
theorem dX7_allIn_33 : decode cX7_allIn 33 = .ok (.istore_n 1, 1) := by decide +kernel
theorem dX7_allIn_34 : decode cX7_allIn 34 = .ok (.iinc 2 1, 3) := by decide +kernel
theorem dX7_allIn_37 : decode cX7_allIn 37 = .ok (.goto (-33), 3) := by decide +kernel
theorem dX7_allIn_40 : decode cX7_allIn 40 = .ok (.iload_n 1, 1) := by decide +kernel
theorem dX7_allIn_41 : decode cX7_allIn 41 = .ok (.ireturn, 1) := by decide +kernel
theorem dX7_flood_0 : decode cX7_flood 0 = .ok (.aload_n 0, 1) := by decide +kernel
theorem dX7_flood_1 : decode cX7_flood 1 = .ok (.iconst 2, 1) := by decide +kernel
theorem dX7_flood_2 : decode cX7_flood 2 = .ok (.invokevirtual 148, 3) := by decide +kernel
theorem dX7_flood_5 : decode cX7_flood 5 = .ok (.istore_n 1, 1) := by decide +kernel
theorem dX7_flood_6 : decode cX7_flood 6 = .ok (.iconst 0, 1) := by decide +kernel
theorem dX7_flood_7 : decode cX7_flood 7 = .ok (.istore_n 2, 1) := by decide +kernel
theorem dX7_flood_8 : decode cX7_flood 8 = .ok (.iconst 0, 1) := by decide +kernel
theorem dX7_flood_9 : decode cX7_flood 9 = .ok (.istore_n 3, 1) := by decide +kernel
theorem dX7_flood_10 : decode cX7_flood 10 = .ok (.iload_n 3, 1) := by decide +kernel
theorem dX7_flood_11 : decode cX7_flood 11 = .ok (.iconst 1, 1) := by decide +kernel
theorem dX7_flood_12 : decode cX7_flood 12 = .ok (.aload_n 0, 1) := by decide +kernel
theorem dX7_flood_13 : decode cX7_flood 13 = .ok (.getfield 111, 3) := by decide +kernel
theorem dX7_flood_16 : decode cX7_flood 16 = .ok (.ishl, 1) := by decide +kernel
theorem dX7_flood_17 : decode cX7_flood 17 = .ok (.if_icmp .ge 54, 3) := by decide +kernel
theorem dX7_flood_20 : decode cX7_flood 20 = .ok (.iload_n 3, 1) := by decide +kernel
theorem dX7_flood_21 : decode cX7_flood 21 = .ok (.iload_n 1, 1) := by decide +kernel
theorem dX7_flood_22 : decode cX7_flood 22 = .ok (.iconst (-1), 1) := by decide +kernel
theorem dX7_flood_23 : decode cX7_flood 23 = .ok (.ixor, 1) := by decide +kernel
theorem dX7_flood_24 : decode cX7_flood 24 = .ok (.iand, 1) := by decide +kernel
theorem dX7_flood_25 : decode cX7_flood 25 = .ok (.ifCond .ne 15, 3) := by decide +kernel
theorem dX7_flood_28 : decode cX7_flood 28 = .ok (.iload_n 3, 1) := by decide +kernel
theorem dX7_flood_29 : decode cX7_flood 29 = .ok (.invokestatic 71, 3) := by decide +kernel
theorem dX7_flood_32 : decode cX7_flood 32 = .ok (.iload_n 2, 1) := by decide +kernel
theorem dX7_flood_33 : decode cX7_flood 33 = .ok (.if_icmp .le 7, 3) := by decide +kernel
theorem dX7_flood_36 : decode cX7_flood 36 = .ok (.iconst 1, 1) := by decide +kernel
theorem dX7_flood_37 : decode cX7_flood 37 = .ok (.goto 4, 3) := by decide +kernel
theorem dX7_flood_40 : decode cX7_flood 40 = .ok (.iconst 0, 1) := by decide +kernel
theorem dX7_flood_41 : decode cX7_flood 41 = .ok (.istore 4, 2) := by decide +kernel
theorem dX7_flood_43 : decode cX7_flood 43 = .ok (.iload 4, 2) := by decide +kernel
theorem dX7_flood_45 : decode cX7_flood 45 = .ok (.ifCond .eq 18, 3) := by decide +kernel
theorem dX7_flood_48 : decode cX7_flood 48 = .ok (.aload_n 0, 1) := by decide +kernel
theorem dX7_flood_49 : decode cX7_flood 49 = .ok (.iload_n 3, 1) := by decide +kernel
theorem dX7_flood_50 : decode cX7_flood 50 = .ok (.invokevirtual 172, 3) := by decide +kernel
theorem dX7_flood_53 : decode cX7_flood 53 = .ok (.ifCond .eq 10, 3) := by decide +kernel
theorem dX7_flood_56 : decode cX7_flood 56 = .ok (.iload_n 3, 1) := by decide +kernel
theorem dX7_flood_57 : decode cX7_flood 57 = .ok (.invokestatic 71, 3) := by decide +kernel
theorem dX7_flood_60 : decode cX7_flood 60 = .ok (.goto 4, 3) := by decide +kernel
theorem dX7_flood_63 : decode cX7_flood 63 = .ok (.iload_n 2, 1) := by decide +kernel
theorem dX7_flood_64 : decode cX7_flood 64 = .ok (.istore_n 2, 1) := by decide +kernel
theorem dX7_flood_65 : decode cX7_flood 65 = .ok (.iinc 3 1, 3) := by decide +kernel
theorem dX7_flood_68 : decode cX7_flood 68 = .ok (.goto (-58), 3) := by decide +kernel
theorem dX7_flood_71 : decode cX7_flood 71 = .ok (.iload_n 2, 1) := by decide +kernel
theorem dX7_flood_72 : decode cX7_flood 72 = .ok (.ireturn, 1) := by decide +kernel
theorem dX7_takenIn_0 : decode cX7_takenIn 0 = .ok (.iconst 0, 1) := by decide +kernel
theorem dX7_takenIn_1 : decode cX7_takenIn 1 = .ok (.istore_n 1, 1) := by decide +kernel
theorem dX7_takenIn_2 : decode cX7_takenIn 2 = .ok (.iconst 0, 1) := by decide +kernel
theorem dX7_takenIn_3 : decode cX7_takenIn 3 = .ok (.istore_n 2, 1) := by decide +kernel
theorem dX7_takenIn_4 : decode cX7_takenIn 4 = .ok (.iload_n 2, 1) := by decide +kernel
theorem dX7_takenIn_5 : decode cX7_takenIn 5 = .ok (.aload_n 0, 1) := by decide +kernel
theorem dX7_takenIn_6 : decode cX7_takenIn 6 = .ok (.getfield 111, 3) := by decide +kernel
theorem dX7_takenIn_9 : decode cX7_takenIn 9 = .ok (.if_icmp .ge 63, 3) := by decide +kernel
theorem dX7_takenIn_12 : decode cX7_takenIn 12 = .ok (.aload_n 0, 1) := by decide +kernel
theorem dX7_takenIn_13 : decode cX7_takenIn 13 = .ok (.getfield 7, 3) := by decide +kernel
theorem dX7_takenIn_16 : decode cX7_takenIn 16 = .ok (.iload_n 2, 1) := by decide +kernel
theorem dX7_takenIn_17 : decode cX7_takenIn 17 = .ok (.iaload, 1) := by decide +kernel
theorem dX7_takenIn_18 : decode cX7_takenIn 18 = .ok (.iconst 2, 1) := by decide +kernel
theorem dX7_takenIn_19 : decode cX7_takenIn 19 = .ok (.if_icmp .eq 31, 3) := by decide +kernel
theorem dX7_takenIn_22 : decode cX7_takenIn 22 = .ok (.aload_n 0, 1) := by decide +kernel
theorem dX7_takenIn_23 : decode cX7_takenIn 23 = .ok (.getfield 34, 3) := by decide +kernel
theorem dX7_takenIn_26 : decode cX7_takenIn 26 = .ok (.iload_n 2, 1) := by decide +kernel
theorem dX7_takenIn_27 : decode cX7_takenIn 27 = .ok (.iaload, 1) := by decide +kernel
theorem dX7_takenIn_28 : decode cX7_takenIn 28 = .ok (.ifCond .le 22, 3) := by decide +kernel
theorem dX7_takenIn_31 : decode cX7_takenIn 31 = .ok (.aload_n 0, 1) := by decide +kernel
theorem dX7_takenIn_32 : decode cX7_takenIn 32 = .ok (.getfield 13, 3) := by decide +kernel
theorem dX7_takenIn_35 : decode cX7_takenIn 35 = .ok (.iload_n 2, 1) := by decide +kernel
theorem dX7_takenIn_36 : decode cX7_takenIn 36 = .ok (.iaload, 1) := by decide +kernel
theorem dX7_takenIn_37 : decode cX7_takenIn 37 = .ok (.aload_n 0, 1) := by decide +kernel
theorem dX7_takenIn_38 : decode cX7_takenIn 38 = .ok (.iconst 2, 1) := by decide +kernel
theorem dX7_takenIn_39 : decode cX7_takenIn 39 = .ok (.invokevirtual 148, 3) := by decide +kernel
theorem dX7_takenIn_42 : decode cX7_takenIn 42 = .ok (.iand, 1) := by decide +kernel
theorem dX7_takenIn_43 : decode cX7_takenIn 43 = .ok (.ifCond .eq 7, 3) := by decide +kernel
theorem dX7_takenIn_46 : decode cX7_takenIn 46 = .ok (.iconst 1, 1) := by decide +kernel
theorem dX7_takenIn_47 : decode cX7_takenIn 47 = .ok (.goto 4, 3) := by decide +kernel
theorem dX7_takenIn_50 : decode cX7_takenIn 50 = .ok (.iconst 0, 1) := by decide +kernel
theorem dX7_takenIn_51 : decode cX7_takenIn 51 = .ok (.istore_n 3, 1) := by decide +kernel
theorem dX7_takenIn_52 : decode cX7_takenIn 52 = .ok (.iload_n 1, 1) := by decide +kernel
theorem dX7_takenIn_53 : decode cX7_takenIn 53 = .ok (.iload_n 3, 1) := by decide +kernel
theorem dX7_takenIn_54 : decode cX7_takenIn 54 = .ok (.ifCond .eq 9, 3) := by decide +kernel
theorem dX7_takenIn_57 : decode cX7_takenIn 57 = .ok (.iconst 1, 1) := by decide +kernel
theorem dX7_takenIn_58 : decode cX7_takenIn 58 = .ok (.iload_n 2, 1) := by decide +kernel
theorem dX7_takenIn_59 : decode cX7_takenIn 59 = .ok (.ishl, 1) := by decide +kernel
theorem dX7_takenIn_60 : decode cX7_takenIn 60 = .ok (.goto 4, 3) := by decide +kernel
theorem dX7_takenIn_63 : decode cX7_takenIn 63 = .ok (.iconst 0, 1) := by decide +kernel
theorem dX7_takenIn_64 : decode cX7_takenIn 64 = .ok (.ior, 1) := by decide +kernel
theorem dX7_takenIn_65 : decode cX7_takenIn 65 = .ok (.istore_n 1, 1) := by decide +kernel
theorem dX7_takenIn_66 : decode cX7_takenIn 66 = .ok (.iinc 2 1, 3) := by decide +kernel
theorem dX7_takenIn_69 : decode cX7_takenIn 69 = .ok (.goto (-65), 3) := by decide +kernel
theorem dX7_takenIn_72 : decode cX7_takenIn 72 = .ok (.iload_n 1, 1) := by decide +kernel
theorem dX7_takenIn_73 : decode cX7_takenIn 73 = .ok (.ireturn, 1) := by decide +kernel
theorem dX7_vouchesAll_0 : decode cX7_vouchesAll 0 = .ok (.iconst 0, 1) := by decide +kernel
theorem dX7_vouchesAll_1 : decode cX7_vouchesAll 1 = .ok (.istore_n 1, 1) := by decide +kernel
theorem dX7_vouchesAll_2 : decode cX7_vouchesAll 2 = .ok (.iconst 0, 1) := by decide +kernel
theorem dX7_vouchesAll_3 : decode cX7_vouchesAll 3 = .ok (.istore_n 2, 1) := by decide +kernel
theorem dX7_vouchesAll_4 : decode cX7_vouchesAll 4 = .ok (.iload_n 2, 1) := by decide +kernel
theorem dX7_vouchesAll_5 : decode cX7_vouchesAll 5 = .ok (.aload_n 0, 1) := by decide +kernel
theorem dX7_vouchesAll_6 : decode cX7_vouchesAll 6 = .ok (.getfield 111, 3) := by decide +kernel
theorem dX7_vouchesAll_9 : decode cX7_vouchesAll 9 = .ok (.if_icmp .ge 21, 3) := by decide +kernel
theorem dX7_vouchesAll_12 : decode cX7_vouchesAll 12 = .ok (.iload_n 1, 1) := by decide +kernel
theorem dX7_vouchesAll_13 : decode cX7_vouchesAll 13 = .ok (.aload_n 0, 1) := by decide +kernel
theorem dX7_vouchesAll_14 : decode cX7_vouchesAll 14 = .ok (.getfield 13, 3) := by decide +kernel
theorem dX7_vouchesAll_17 : decode cX7_vouchesAll 17 = .ok (.iload_n 2, 1) := by decide +kernel
theorem dX7_vouchesAll_18 : decode cX7_vouchesAll 18 = .ok (.iaload, 1) := by decide +kernel
theorem dX7_vouchesAll_19 : decode cX7_vouchesAll 19 = .ok (.invokestatic 71, 3) := by decide +kernel
theorem dX7_vouchesAll_22 : decode cX7_vouchesAll 22 = .ok (.iadd, 1) := by decide +kernel
theorem dX7_vouchesAll_23 : decode cX7_vouchesAll 23 = .ok (.istore_n 1, 1) := by decide +kernel
theorem dX7_vouchesAll_24 : decode cX7_vouchesAll 24 = .ok (.iinc 2 1, 3) := by decide +kernel
theorem dX7_vouchesAll_27 : decode cX7_vouchesAll 27 = .ok (.goto (-23), 3) := by decide +kernel
theorem dX7_vouchesAll_30 : decode cX7_vouchesAll 30 = .ok (.iload_n 1, 1) := by decide +kernel
theorem dX7_vouchesAll_31 : decode cX7_vouchesAll 31 = .ok (.ireturn, 1) := by decide +kernel
theorem dX7_levelsMany_0 : decode cX7_levelsMany 0 = .ok (.iconst 0, 1) := by decide +kernel
theorem dX7_levelsMany_1 : decode cX7_levelsMany 1 = .ok (.istore_n 1, 1) := by decide +kernel
theorem dX7_levelsMany_2 : decode cX7_levelsMany 2 = .ok (.iconst 0, 1) := by decide +kernel
theorem dX7_levelsMany_3 : decode cX7_levelsMany 3 = .ok (.istore_n 2, 1) := by decide +kernel
theorem dX7_levelsMany_4 : decode cX7_levelsMany 4 = .ok (.iload_n 2, 1) := by decide +kernel
theorem dX7_levelsMany_5 : decode cX7_levelsMany 5 = .ok (.aload_n 0, 1) := by decide +kernel
theorem dX7_levelsMany_6 : decode cX7_levelsMany 6 = .ok (.getfield 111, 3) := by decide +kernel
theorem dX7_levelsMany_9 : decode cX7_levelsMany 9 = .ok (.if_icmp .ge 27, 3) := by decide +kernel
theorem dX7_levelsMany_12 : decode cX7_levelsMany 12 = .ok (.iload_n 1, 1) := by decide +kernel
theorem dX7_levelsMany_13 : decode cX7_levelsMany 13 = .ok (.aload_n 0, 1) := by decide +kernel
theorem dX7_levelsMany_14 : decode cX7_levelsMany 14 = .ok (.getfield 31, 3) := by decide +kernel
theorem dX7_levelsMany_17 : decode cX7_levelsMany 17 = .ok (.iload_n 2, 1) := by decide +kernel
theorem dX7_levelsMany_18 : decode cX7_levelsMany 18 = .ok (.iaload, 1) := by decide +kernel
theorem dX7_levelsMany_19 : decode cX7_levelsMany 19 = .ok (.iconst (-1), 1) := by decide +kernel
theorem dX7_levelsMany_20 : decode cX7_levelsMany 20 = .ok (.if_icmp .ne 7, 3) := by decide +kernel
theorem dX7_levelsMany_23 : decode cX7_levelsMany 23 = .ok (.iconst 0, 1) := by decide +kernel
theorem dX7_levelsMany_24 : decode cX7_levelsMany 24 = .ok (.goto 4, 3) := by decide +kernel
theorem dX7_levelsMany_27 : decode cX7_levelsMany 27 = .ok (.iconst 1, 1) := by decide +kernel
theorem dX7_levelsMany_28 : decode cX7_levelsMany 28 = .ok (.iadd, 1) := by decide +kernel
theorem dX7_levelsMany_29 : decode cX7_levelsMany 29 = .ok (.istore_n 1, 1) := by decide +kernel
theorem dX7_levelsMany_30 : decode cX7_levelsMany 30 = .ok (.iinc 2 1, 3) := by decide +kernel
theorem dX7_levelsMany_33 : decode cX7_levelsMany 33 = .ok (.goto (-29), 3) := by decide +kernel
theorem dX7_levelsMany_36 : decode cX7_levelsMany 36 = .ok (.iload_n 1, 1) := by decide +kernel
theorem dX7_levelsMany_37 : decode cX7_levelsMany 37 = .ok (.ireturn, 1) := by decide +kernel
theorem dX7_greatestLevel_0 : decode cX7_greatestLevel 0 = .ok (.iconst (-1), 1) := by decide +kernel
theorem dX7_greatestLevel_1 : decode cX7_greatestLevel 1 = .ok (.istore_n 1, 1) := by decide +kernel
theorem dX7_greatestLevel_2 : decode cX7_greatestLevel 2 = .ok (.iconst 0, 1) := by decide +kernel
theorem dX7_greatestLevel_3 : decode cX7_greatestLevel 3 = .ok (.istore_n 2, 1) := by decide +kernel
theorem dX7_greatestLevel_4 : decode cX7_greatestLevel 4 = .ok (.iload_n 2, 1) := by decide +kernel
theorem dX7_greatestLevel_5 : decode cX7_greatestLevel 5 = .ok (.aload_n 0, 1) := by decide +kernel
theorem dX7_greatestLevel_6 : decode cX7_greatestLevel 6 = .ok (.getfield 111, 3) := by decide +kernel
theorem dX7_greatestLevel_9 : decode cX7_greatestLevel 9 = .ok (.if_icmp .ge 30, 3) := by decide +kernel
theorem dX7_greatestLevel_12 : decode cX7_greatestLevel 12 = .ok (.aload_n 0, 1) := by decide +kernel
theorem dX7_greatestLevel_13 : decode cX7_greatestLevel 13 = .ok (.getfield 31, 3) := by decide +kernel
theorem dX7_greatestLevel_16 : decode cX7_greatestLevel 16 = .ok (.iload_n 2, 1) := by decide +kernel
theorem dX7_greatestLevel_17 : decode cX7_greatestLevel 17 = .ok (.iaload, 1) := by decide +kernel
theorem dX7_greatestLevel_18 : decode cX7_greatestLevel 18 = .ok (.iload_n 1, 1) := by decide +kernel
theorem dX7_greatestLevel_19 : decode cX7_greatestLevel 19 = .ok (.if_icmp .le 12, 3) := by decide +kernel
theorem dX7_greatestLevel_22 : decode cX7_greatestLevel 22 = .ok (.aload_n 0, 1) := by decide +kernel
theorem dX7_greatestLevel_23 : decode cX7_greatestLevel 23 = .ok (.getfield 31, 3) := by decide +kernel
theorem dX7_greatestLevel_26 : decode cX7_greatestLevel 26 = .ok (.iload_n 2, 1) := by decide +kernel
theorem dX7_greatestLevel_27 : decode cX7_greatestLevel 27 = .ok (.iaload, 1) := by decide +kernel
theorem dX7_greatestLevel_28 : decode cX7_greatestLevel 28 = .ok (.goto 4, 3) := by decide +kernel
theorem dX7_greatestLevel_31 : decode cX7_greatestLevel 31 = .ok (.iload_n 1, 1) := by decide +kernel
theorem dX7_greatestLevel_32 : decode cX7_greatestLevel 32 = .ok (.istore_n 1, 1) := by decide +kernel
theorem dX7_greatestLevel_33 : decode cX7_greatestLevel 33 = .ok (.iinc 2 1, 3) := by decide +kernel
theorem dX7_greatestLevel_36 : decode cX7_greatestLevel 36 = .ok (.goto (-32), 3) := by decide +kernel
theorem dX7_greatestLevel_39 : decode cX7_greatestLevel 39 = .ok (.iload_n 1, 1) := by decide +kernel
theorem dX7_greatestLevel_40 : decode cX7_greatestLevel 40 = .ok (.ireturn, 1) := by decide +kernel
theorem dX7_aboutNow_0 : decode cX7_aboutNow 0 = .ok (.aload_n 0, 1) := by decide +kernel
theorem dX7_aboutNow_1 : decode cX7_aboutNow 1 = .ok (.invokevirtual 163, 3) := by decide +kernel
theorem dX7_aboutNow_4 : decode cX7_aboutNow 4 = .ok (.iload_n 1, 1) := by decide +kernel
theorem dX7_aboutNow_5 : decode cX7_aboutNow 5 = .ok (.tableswitch 86 0 6 #[43, 48, 57, 66, 71, 76, 81], 43) := by decide +kernel
theorem dX7_aboutNow_48 : decode cX7_aboutNow 48 = .ok (.aload_n 0, 1) := by decide +kernel
theorem dX7_aboutNow_49 : decode cX7_aboutNow 49 = .ok (.getfield 111, 3) := by decide +kernel
theorem dX7_aboutNow_52 : decode cX7_aboutNow 52 = .ok (.ireturn, 1) := by decide +kernel
theorem dX7_aboutNow_53 : decode cX7_aboutNow 53 = .ok (.aload_n 0, 1) := by decide +kernel
theorem dX7_aboutNow_54 : decode cX7_aboutNow 54 = .ok (.iconst 1, 1) := by decide +kernel
theorem dX7_aboutNow_55 : decode cX7_aboutNow 55 = .ok (.invokevirtual 148, 3) := by decide +kernel
theorem dX7_aboutNow_58 : decode cX7_aboutNow 58 = .ok (.invokestatic 71, 3) := by decide +kernel
theorem dX7_aboutNow_61 : decode cX7_aboutNow 61 = .ok (.ireturn, 1) := by decide +kernel
theorem dX7_aboutNow_62 : decode cX7_aboutNow 62 = .ok (.aload_n 0, 1) := by decide +kernel
theorem dX7_aboutNow_63 : decode cX7_aboutNow 63 = .ok (.iconst 2, 1) := by decide +kernel
theorem dX7_aboutNow_64 : decode cX7_aboutNow 64 = .ok (.invokevirtual 148, 3) := by decide +kernel
theorem dX7_aboutNow_67 : decode cX7_aboutNow 67 = .ok (.invokestatic 71, 3) := by decide +kernel
theorem dX7_aboutNow_70 : decode cX7_aboutNow 70 = .ok (.ireturn, 1) := by decide +kernel
theorem dX7_aboutNow_71 : decode cX7_aboutNow 71 = .ok (.aload_n 0, 1) := by decide +kernel
theorem dX7_aboutNow_72 : decode cX7_aboutNow 72 = .ok (.invokevirtual 175, 3) := by decide +kernel
theorem dX7_aboutNow_75 : decode cX7_aboutNow 75 = .ok (.ireturn, 1) := by decide +kernel
theorem dX7_aboutNow_76 : decode cX7_aboutNow 76 = .ok (.aload_n 0, 1) := by decide +kernel
theorem dX7_aboutNow_77 : decode cX7_aboutNow 77 = .ok (.getfield 114, 3) := by decide +kernel
theorem dX7_aboutNow_80 : decode cX7_aboutNow 80 = .ok (.ireturn, 1) := by decide +kernel
theorem dX7_aboutNow_81 : decode cX7_aboutNow 81 = .ok (.aload_n 0, 1) := by decide +kernel
theorem dX7_aboutNow_82 : decode cX7_aboutNow 82 = .ok (.invokevirtual 178, 3) := by decide +kernel
theorem dX7_aboutNow_85 : decode cX7_aboutNow 85 = .ok (.ireturn, 1) := by decide +kernel
theorem dX7_aboutNow_86 : decode cX7_aboutNow 86 = .ok (.aload_n 0, 1) := by decide +kernel
theorem dX7_aboutNow_87 : decode cX7_aboutNow 87 = .ok (.invokevirtual 181, 3) := by decide +kernel
theorem dX7_aboutNow_90 : decode cX7_aboutNow 90 = .ok (.ireturn, 1) := by decide +kernel
theorem dX7_aboutNow_91 : decode cX7_aboutNow 91 = .ok (.aload_n 0, 1) := by decide +kernel
theorem dX7_aboutNow_92 : decode cX7_aboutNow 92 = .ok (.iconst 1, 1) := by decide +kernel
theorem dX7_aboutNow_93 : decode cX7_aboutNow 93 = .ok (.aload_n 0, 1) := by decide +kernel
theorem dX7_aboutNow_94 : decode cX7_aboutNow 94 = .ok (.getfield 111, 3) := by decide +kernel
theorem dX7_aboutNow_97 : decode cX7_aboutNow 97 = .ok (.ishl, 1) := by decide +kernel
theorem dX7_aboutNow_98 : decode cX7_aboutNow 98 = .ok (.iconst 1, 1) := by decide +kernel
theorem dX7_aboutNow_99 : decode cX7_aboutNow 99 = .ok (.isub, 1) := by decide +kernel
theorem dX7_aboutNow_100 : decode cX7_aboutNow 100 = .ok (.invokevirtual 169, 3) := by decide +kernel
theorem dX7_aboutNow_103 : decode cX7_aboutNow 103 = .ok (.ireturn, 1) := by decide +kernel
theorem dX7_about_0 : decode cX7_about 0 = .ok (.iload_n 1, 1) := by decide +kernel
theorem dX7_about_1 : decode cX7_about 1 = .ok (.iconst 0, 1) := by decide +kernel
theorem dX7_about_2 : decode cX7_about 2 = .ok (.bipush 7, 2) := by decide +kernel
theorem dX7_about_4 : decode cX7_about 4 = .ok (.invokestatic 50, 3) := by decide +kernel
theorem dX7_about_7 : decode cX7_about 7 = .ok (.ifCond .ne 6, 3) := by decide +kernel
theorem dX7_about_10 : decode cX7_about 10 = .ok (.bipush (-102), 2) := by decide +kernel
theorem dX7_about_12 : decode cX7_about 12 = .ok (.ireturn, 1) := by decide +kernel
theorem dX7_about_13 : decode cX7_about 13 = .ok (.aload_n 0, 1) := by decide +kernel
theorem dX7_about_14 : decode cX7_about 14 = .ok (.invokevirtual 139, 3) := by decide +kernel
theorem dX7_about_17 : decode cX7_about 17 = .ok (.ifCond .eq 11, 3) := by decide +kernel
theorem dX7_about_20 : decode cX7_about 20 = .ok (.aload_n 0, 1) := by decide +kernel
theorem dX7_about_21 : decode cX7_about 21 = .ok (.iload_n 1, 1) := by decide +kernel
theorem dX7_about_22 : decode cX7_about 22 = .ok (.invokevirtual 184, 3) := by decide +kernel
theorem dX7_about_25 : decode cX7_about 25 = .ok (.goto 5, 3) := by decide +kernel
theorem dX7_about_28 : decode cX7_about 28 = .ok (.bipush (-103), 2) := by decide +kernel
theorem dX7_about_30 : decode cX7_about 30 = .ok (.ireturn, 1) := by decide +kernel
theorem dX7_vouchersOf_0 : decode cX7_vouchersOf 0 = .ok (.iconst 0, 1) := by decide +kernel
theorem dX7_vouchersOf_1 : decode cX7_vouchersOf 1 = .ok (.istore_n 2, 1) := by decide +kernel
theorem dX7_vouchersOf_2 : decode cX7_vouchersOf 2 = .ok (.iconst 0, 1) := by decide +kernel
theorem dX7_vouchersOf_3 : decode cX7_vouchersOf 3 = .ok (.istore_n 3, 1) := by decide +kernel
theorem dX7_vouchersOf_4 : decode cX7_vouchersOf 4 = .ok (.iload_n 3, 1) := by decide +kernel
theorem dX7_vouchersOf_5 : decode cX7_vouchersOf 5 = .ok (.aload_n 0, 1) := by decide +kernel
theorem dX7_vouchersOf_6 : decode cX7_vouchersOf 6 = .ok (.getfield 111, 3) := by decide +kernel
theorem dX7_vouchersOf_9 : decode cX7_vouchersOf 9 = .ok (.if_icmp .ge 30, 3) := by decide +kernel
theorem dX7_vouchersOf_12 : decode cX7_vouchersOf 12 = .ok (.iload_n 2, 1) := by decide +kernel
theorem dX7_vouchersOf_13 : decode cX7_vouchersOf 13 = .ok (.aload_n 0, 1) := by decide +kernel
theorem dX7_vouchersOf_14 : decode cX7_vouchersOf 14 = .ok (.getfield 13, 3) := by decide +kernel
theorem dX7_vouchersOf_17 : decode cX7_vouchersOf 17 = .ok (.iload_n 3, 1) := by decide +kernel
theorem dX7_vouchersOf_18 : decode cX7_vouchersOf 18 = .ok (.iaload, 1) := by decide +kernel
theorem dX7_vouchersOf_19 : decode cX7_vouchersOf 19 = .ok (.iload_n 1, 1) := by decide +kernel
theorem dX7_vouchersOf_20 : decode cX7_vouchersOf 20 = .ok (.invokestatic 132, 3) := by decide +kernel
theorem dX7_vouchersOf_23 : decode cX7_vouchersOf 23 = .ok (.ifCond .eq 7, 3) := by decide +kernel
theorem dX7_vouchersOf_26 : decode cX7_vouchersOf 26 = .ok (.iconst 1, 1) := by decide +kernel
theorem dX7_vouchersOf_27 : decode cX7_vouchersOf 27 = .ok (.goto 4, 3) := by decide +kernel
theorem dX7_vouchersOf_30 : decode cX7_vouchersOf 30 = .ok (.iconst 0, 1) := by decide +kernel
theorem dX7_vouchersOf_31 : decode cX7_vouchersOf 31 = .ok (.iadd, 1) := by decide +kernel
theorem dX7_vouchersOf_32 : decode cX7_vouchersOf 32 = .ok (.istore_n 2, 1) := by decide +kernel
theorem dX7_vouchersOf_33 : decode cX7_vouchersOf 33 = .ok (.iinc 3 1, 3) := by decide +kernel
theorem dX7_vouchersOf_36 : decode cX7_vouchersOf 36 = .ok (.goto (-32), 3) := by decide +kernel
theorem dX7_vouchersOf_39 : decode cX7_vouchersOf 39 = .ok (.iload_n 2, 1) := by decide +kernel
theorem dX7_vouchersOf_40 : decode cX7_vouchersOf 40 = .ok (.ireturn, 1) := by decide +kernel
theorem dX7_personNow_0 : decode cX7_personNow 0 = .ok (.aload_n 0, 1) := by decide +kernel
theorem dX7_personNow_1 : decode cX7_personNow 1 = .ok (.invokevirtual 187, 3) := by decide +kernel
theorem dX7_personNow_4 : decode cX7_personNow 4 = .ok (.iload_n 2, 1) := by decide +kernel
theorem dX7_personNow_5 : decode cX7_personNow 5 = .ok (.tableswitch 114 0 6 #[43, 50, 57, 64, 74, 80, 97], 43) := by decide +kernel
theorem dX7_personNow_48 : decode cX7_personNow 48 = .ok (.aload_n 0, 1) := by decide +kernel
theorem dX7_personNow_49 : decode cX7_personNow 49 = .ok (.getfield 7, 3) := by decide +kernel
theorem dX7_personNow_52 : decode cX7_personNow 52 = .ok (.iload_n 1, 1) := by decide +kernel
theorem dX7_personNow_53 : decode cX7_personNow 53 = .ok (.iaload, 1) := by decide +kernel
theorem dX7_personNow_54 : decode cX7_personNow 54 = .ok (.ireturn, 1) := by decide +kernel
theorem dX7_personNow_55 : decode cX7_personNow 55 = .ok (.aload_n 0, 1) := by decide +kernel
theorem dX7_personNow_56 : decode cX7_personNow 56 = .ok (.getfield 31, 3) := by decide +kernel
theorem dX7_personNow_59 : decode cX7_personNow 59 = .ok (.iload_n 1, 1) := by decide +kernel
theorem dX7_personNow_60 : decode cX7_personNow 60 = .ok (.iaload, 1) := by decide +kernel
theorem dX7_personNow_61 : decode cX7_personNow 61 = .ok (.ireturn, 1) := by decide +kernel
theorem dX7_personNow_62 : decode cX7_personNow 62 = .ok (.aload_n 0, 1) := by decide +kernel
theorem dX7_personNow_63 : decode cX7_personNow 63 = .ok (.getfield 34, 3) := by decide +kernel
theorem dX7_personNow_66 : decode cX7_personNow 66 = .ok (.iload_n 1, 1) := by decide +kernel
theorem dX7_personNow_67 : decode cX7_personNow 67 = .ok (.iaload, 1) := by decide +kernel
theorem dX7_personNow_68 : decode cX7_personNow 68 = .ok (.ireturn, 1) := by decide +kernel
theorem dX7_personNow_69 : decode cX7_personNow 69 = .ok (.aload_n 0, 1) := by decide +kernel
theorem dX7_personNow_70 : decode cX7_personNow 70 = .ok (.getfield 13, 3) := by decide +kernel
theorem dX7_personNow_73 : decode cX7_personNow 73 = .ok (.iload_n 1, 1) := by decide +kernel
theorem dX7_personNow_74 : decode cX7_personNow 74 = .ok (.iaload, 1) := by decide +kernel
theorem dX7_personNow_75 : decode cX7_personNow 75 = .ok (.invokestatic 71, 3) := by decide +kernel
theorem dX7_personNow_78 : decode cX7_personNow 78 = .ok (.ireturn, 1) := by decide +kernel
theorem dX7_personNow_79 : decode cX7_personNow 79 = .ok (.aload_n 0, 1) := by decide +kernel
theorem dX7_personNow_80 : decode cX7_personNow 80 = .ok (.iload_n 1, 1) := by decide +kernel
theorem dX7_personNow_81 : decode cX7_personNow 81 = .ok (.invokevirtual 190, 3) := by decide +kernel
theorem dX7_personNow_84 : decode cX7_personNow 84 = .ok (.ireturn, 1) := by decide +kernel
theorem dX7_personNow_85 : decode cX7_personNow 85 = .ok (.aload_n 0, 1) := by decide +kernel
theorem dX7_personNow_86 : decode cX7_personNow 86 = .ok (.invokevirtual 193, 3) := by decide +kernel
theorem dX7_personNow_89 : decode cX7_personNow 89 = .ok (.iload_n 1, 1) := by decide +kernel
theorem dX7_personNow_90 : decode cX7_personNow 90 = .ok (.invokestatic 132, 3) := by decide +kernel
theorem dX7_personNow_93 : decode cX7_personNow 93 = .ok (.ifCond .eq 7, 3) := by decide +kernel
theorem dX7_personNow_96 : decode cX7_personNow 96 = .ok (.iconst 1, 1) := by decide +kernel
theorem dX7_personNow_97 : decode cX7_personNow 97 = .ok (.goto 4, 3) := by decide +kernel
theorem dX7_personNow_100 : decode cX7_personNow 100 = .ok (.iconst 0, 1) := by decide +kernel
theorem dX7_personNow_101 : decode cX7_personNow 101 = .ok (.ireturn, 1) := by decide +kernel
theorem dX7_personNow_102 : decode cX7_personNow 102 = .ok (.aload_n 0, 1) := by decide +kernel
theorem dX7_personNow_103 : decode cX7_personNow 103 = .ok (.invokevirtual 196, 3) := by decide +kernel
theorem dX7_personNow_106 : decode cX7_personNow 106 = .ok (.iload_n 1, 1) := by decide +kernel
theorem dX7_personNow_107 : decode cX7_personNow 107 = .ok (.invokestatic 132, 3) := by decide +kernel
theorem dX7_personNow_110 : decode cX7_personNow 110 = .ok (.ifCond .eq 7, 3) := by decide +kernel
theorem dX7_personNow_113 : decode cX7_personNow 113 = .ok (.iconst 1, 1) := by decide +kernel
theorem dX7_personNow_114 : decode cX7_personNow 114 = .ok (.goto 4, 3) := by decide +kernel
theorem dX7_personNow_117 : decode cX7_personNow 117 = .ok (.iconst 0, 1) := by decide +kernel
theorem dX7_personNow_118 : decode cX7_personNow 118 = .ok (.ireturn, 1) := by decide +kernel
theorem dX7_personNow_119 : decode cX7_personNow 119 = .ok (.aload_n 0, 1) := by decide +kernel
theorem dX7_personNow_120 : decode cX7_personNow 120 = .ok (.getfield 7, 3) := by decide +kernel
theorem dX7_personNow_123 : decode cX7_personNow 123 = .ok (.iload_n 1, 1) := by decide +kernel
theorem dX7_personNow_124 : decode cX7_personNow 124 = .ok (.iaload, 1) := by decide +kernel
theorem dX7_personNow_125 : decode cX7_personNow 125 = .ok (.iconst 1, 1) := by decide +kernel
theorem dX7_personNow_126 : decode cX7_personNow 126 = .ok (.if_icmp .ne 7, 3) := by decide +kernel
theorem dX7_personNow_129 : decode cX7_personNow 129 = .ok (.iconst (-1), 1) := by decide +kernel
theorem dX7_personNow_130 : decode cX7_personNow 130 = .ok (.goto 11, 3) := by decide +kernel
theorem dX7_personNow_133 : decode cX7_personNow 133 = .ok (.aload_n 0, 1) := by decide +kernel
theorem dX7_personNow_134 : decode cX7_personNow 134 = .ok (.iload_n 1, 1) := by decide +kernel
theorem dX7_personNow_135 : decode cX7_personNow 135 = .ok (.invokevirtual 199, 3) := by decide +kernel
theorem dX7_personNow_138 : decode cX7_personNow 138 = .ok (.invokestatic 71, 3) := by decide +kernel
theorem dX7_personNow_141 : decode cX7_personNow 141 = .ok (.ireturn, 1) := by decide +kernel
theorem dX7_person_0 : decode cX7_person 0 = .ok (.aload_n 0, 1) := by decide +kernel
theorem dX7_person_1 : decode cX7_person 1 = .ok (.iload_n 1, 1) := by decide +kernel
theorem dX7_person_2 : decode cX7_person 2 = .ok (.invokevirtual 145, 3) := by decide +kernel
theorem dX7_person_5 : decode cX7_person 5 = .ok (.ifCond .ne 8, 3) := by decide +kernel
theorem dX7_person_8 : decode cX7_person 8 = .ok (.bipush (-101), 2) := by decide +kernel
theorem dX7_person_10 : decode cX7_person 10 = .ok (.goto 24, 3) := by decide +kernel
theorem dX7_person_13 : decode cX7_person 13 = .ok (.iload_n 2, 1) := by decide +kernel
theorem dX7_person_14 : decode cX7_person 14 = .ok (.iconst 0, 1) := by decide +kernel
theorem dX7_person_15 : decode cX7_person 15 = .ok (.bipush 7, 2) := by decide +kernel
theorem dX7_person_17 : decode cX7_person 17 = .ok (.invokestatic 50, 3) := by decide +kernel
theorem dX7_person_20 : decode cX7_person 20 = .ok (.ifCond .eq 12, 3) := by decide +kernel
theorem dX7_person_23 : decode cX7_person 23 = .ok (.aload_n 0, 1) := by decide +kernel
theorem dX7_person_24 : decode cX7_person 24 = .ok (.iload_n 1, 1) := by decide +kernel
theorem dX7_person_25 : decode cX7_person 25 = .ok (.iload_n 2, 1) := by decide +kernel
theorem dX7_person_26 : decode cX7_person 26 = .ok (.invokevirtual 202, 3) := by decide +kernel
theorem dX7_person_29 : decode cX7_person 29 = .ok (.goto 5, 3) := by decide +kernel
theorem dX7_person_32 : decode cX7_person 32 = .ok (.bipush (-102), 2) := by decide +kernel
theorem dX7_person_34 : decode cX7_person 34 = .ok (.ireturn, 1) := by decide +kernel
theorem dX7_vouches_0 : decode cX7_vouches 0 = .ok (.aload_n 0, 1) := by decide +kernel
theorem dX7_vouches_1 : decode cX7_vouches 1 = .ok (.iload_n 1, 1) := by decide +kernel
theorem dX7_vouches_2 : decode cX7_vouches 2 = .ok (.iload_n 2, 1) := by decide +kernel
theorem dX7_vouches_3 : decode cX7_vouches 3 = .ok (.invokevirtual 151, 3) := by decide +kernel
theorem dX7_vouches_6 : decode cX7_vouches 6 = .ok (.ifCond .ne 8, 3) := by decide +kernel
theorem dX7_vouches_9 : decode cX7_vouches 9 = .ok (.bipush (-101), 2) := by decide +kernel
theorem dX7_vouches_11 : decode cX7_vouches 11 = .ok (.goto 21, 3) := by decide +kernel
theorem dX7_vouches_14 : decode cX7_vouches 14 = .ok (.aload_n 0, 1) := by decide +kernel
theorem dX7_vouches_15 : decode cX7_vouches 15 = .ok (.getfield 13, 3) := by decide +kernel
theorem dX7_vouches_18 : decode cX7_vouches 18 = .ok (.iload_n 1, 1) := by decide +kernel
theorem dX7_vouches_19 : decode cX7_vouches 19 = .ok (.iaload, 1) := by decide +kernel
theorem dX7_vouches_20 : decode cX7_vouches 20 = .ok (.iload_n 2, 1) := by decide +kernel
theorem dX7_vouches_21 : decode cX7_vouches 21 = .ok (.invokestatic 132, 3) := by decide +kernel
theorem dX7_vouches_24 : decode cX7_vouches 24 = .ok (.ifCond .eq 7, 3) := by decide +kernel
theorem dX7_vouches_27 : decode cX7_vouches 27 = .ok (.iconst 1, 1) := by decide +kernel
theorem dX7_vouches_28 : decode cX7_vouches 28 = .ok (.goto 4, 3) := by decide +kernel
theorem dX7_vouches_31 : decode cX7_vouches 31 = .ok (.iconst 0, 1) := by decide +kernel
theorem dX7_vouches_32 : decode cX7_vouches 32 = .ok (.ireturn, 1) := by decide +kernel
theorem dX7_generousNow_0 : decode cX7_generousNow 0 = .ok (.iconst (-1), 1) := by decide +kernel
theorem dX7_generousNow_1 : decode cX7_generousNow 1 = .ok (.istore_n 1, 1) := by decide +kernel
theorem dX7_generousNow_2 : decode cX7_generousNow 2 = .ok (.iconst 0, 1) := by decide +kernel
theorem dX7_generousNow_3 : decode cX7_generousNow 3 = .ok (.istore_n 2, 1) := by decide +kernel
theorem dX7_generousNow_4 : decode cX7_generousNow 4 = .ok (.iload_n 2, 1) := by decide +kernel
theorem dX7_generousNow_5 : decode cX7_generousNow 5 = .ok (.aload_n 0, 1) := by decide +kernel
theorem dX7_generousNow_6 : decode cX7_generousNow 6 = .ok (.getfield 111, 3) := by decide +kernel
theorem dX7_generousNow_9 : decode cX7_generousNow 9 = .ok (.if_icmp .ge 67, 3) := by decide +kernel
theorem dX7_generousNow_12 : decode cX7_generousNow 12 = .ok (.aload_n 0, 1) := by decide +kernel
theorem dX7_generousNow_13 : decode cX7_generousNow 13 = .ok (.iload_n 2, 1) := by decide +kernel
theorem dX7_generousNow_14 : decode cX7_generousNow 14 = .ok (.invokevirtual 190, 3) := by decide +kernel
theorem dX7_generousNow_17 : decode cX7_generousNow 17 = .ok (.ifCond .le 7, 3) := by decide +kernel
theorem dX7_generousNow_20 : decode cX7_generousNow 20 = .ok (.iconst 1, 1) := by decide +kernel
theorem dX7_generousNow_21 : decode cX7_generousNow 21 = .ok (.goto 4, 3) := by decide +kernel
theorem dX7_generousNow_24 : decode cX7_generousNow 24 = .ok (.iconst 0, 1) := by decide +kernel
theorem dX7_generousNow_25 : decode cX7_generousNow 25 = .ok (.istore_n 3, 1) := by decide +kernel
theorem dX7_generousNow_26 : decode cX7_generousNow 26 = .ok (.iload_n 3, 1) := by decide +kernel
theorem dX7_generousNow_27 : decode cX7_generousNow 27 = .ok (.ifCond .eq 43, 3) := by decide +kernel
theorem dX7_generousNow_30 : decode cX7_generousNow 30 = .ok (.iload_n 1, 1) := by decide +kernel
theorem dX7_generousNow_31 : decode cX7_generousNow 31 = .ok (.iconst (-1), 1) := by decide +kernel
theorem dX7_generousNow_32 : decode cX7_generousNow 32 = .ok (.if_icmp .eq 36, 3) := by decide +kernel
theorem dX7_generousNow_35 : decode cX7_generousNow 35 = .ok (.aload_n 0, 1) := by decide +kernel
theorem dX7_generousNow_36 : decode cX7_generousNow 36 = .ok (.getfield 13, 3) := by decide +kernel
theorem dX7_generousNow_39 : decode cX7_generousNow 39 = .ok (.iload_n 2, 1) := by decide +kernel
theorem dX7_generousNow_40 : decode cX7_generousNow 40 = .ok (.iaload, 1) := by decide +kernel
theorem dX7_generousNow_41 : decode cX7_generousNow 41 = .ok (.invokestatic 71, 3) := by decide +kernel
theorem dX7_generousNow_44 : decode cX7_generousNow 44 = .ok (.aload_n 0, 1) := by decide +kernel
theorem dX7_generousNow_45 : decode cX7_generousNow 45 = .ok (.iload_n 1, 1) := by decide +kernel
theorem dX7_generousNow_46 : decode cX7_generousNow 46 = .ok (.invokevirtual 190, 3) := by decide +kernel
theorem dX7_generousNow_49 : decode cX7_generousNow 49 = .ok (.imul, 1) := by decide +kernel
theorem dX7_generousNow_50 : decode cX7_generousNow 50 = .ok (.aload_n 0, 1) := by decide +kernel
theorem dX7_generousNow_51 : decode cX7_generousNow 51 = .ok (.getfield 13, 3) := by decide +kernel
theorem dX7_generousNow_54 : decode cX7_generousNow 54 = .ok (.iload_n 1, 1) := by decide +kernel
theorem dX7_generousNow_55 : decode cX7_generousNow 55 = .ok (.iaload, 1) := by decide +kernel
theorem dX7_generousNow_56 : decode cX7_generousNow 56 = .ok (.invokestatic 71, 3) := by decide +kernel
theorem dX7_generousNow_59 : decode cX7_generousNow 59 = .ok (.aload_n 0, 1) := by decide +kernel
theorem dX7_generousNow_60 : decode cX7_generousNow 60 = .ok (.iload_n 2, 1) := by decide +kernel
theorem dX7_generousNow_61 : decode cX7_generousNow 61 = .ok (.invokevirtual 190, 3) := by decide +kernel
theorem dX7_generousNow_64 : decode cX7_generousNow 64 = .ok (.imul, 1) := by decide +kernel
theorem dX7_generousNow_65 : decode cX7_generousNow 65 = .ok (.if_icmp .le 5, 3) := by decide +kernel
theorem dX7_generousNow_68 : decode cX7_generousNow 68 = .ok (.iload_n 2, 1) := by decide +kernel
theorem dX7_generousNow_69 : decode cX7_generousNow 69 = .ok (.istore_n 1, 1) := by decide +kernel
theorem dX7_generousNow_70 : decode cX7_generousNow 70 = .ok (.iinc 2 1, 3) := by decide +kernel
theorem dX7_generousNow_73 : decode cX7_generousNow 73 = .ok (.goto (-69), 3) := by decide +kernel
theorem dX7_generousNow_76 : decode cX7_generousNow 76 = .ok (.iload_n 1, 1) := by decide +kernel
theorem dX7_generousNow_77 : decode cX7_generousNow 77 = .ok (.ireturn, 1) := by decide +kernel
theorem dX7_generous_0 : decode cX7_generous 0 = .ok (.aload_n 0, 1) := by decide +kernel
theorem dX7_generous_1 : decode cX7_generous 1 = .ok (.invokevirtual 139, 3) := by decide +kernel
theorem dX7_generous_4 : decode cX7_generous 4 = .ok (.ifCond .eq 10, 3) := by decide +kernel
theorem dX7_generous_7 : decode cX7_generous 7 = .ok (.aload_n 0, 1) := by decide +kernel
theorem dX7_generous_8 : decode cX7_generous 8 = .ok (.invokevirtual 206, 3) := by decide +kernel
theorem dX7_generous_11 : decode cX7_generous 11 = .ok (.goto 5, 3) := by decide +kernel
theorem dX7_generous_14 : decode cX7_generous 14 = .ok (.bipush (-103), 2) := by decide +kernel
theorem dX7_generous_16 : decode cX7_generous 16 = .ok (.ireturn, 1) := by decide +kernel
theorem dX7_withoutFalse_0 : decode cX7_withoutFalse 0 = .ok (.iconst 0, 1) := by decide +kernel
theorem dX7_withoutFalse_1 : decode cX7_withoutFalse 1 = .ok (.istore_n 1, 1) := by decide +kernel
theorem dX7_withoutFalse_2 : decode cX7_withoutFalse 2 = .ok (.iconst 0, 1) := by decide +kernel
theorem dX7_withoutFalse_3 : decode cX7_withoutFalse 3 = .ok (.istore_n 2, 1) := by decide +kernel
theorem dX7_withoutFalse_4 : decode cX7_withoutFalse 4 = .ok (.iload_n 2, 1) := by decide +kernel
theorem dX7_withoutFalse_5 : decode cX7_withoutFalse 5 = .ok (.aload_n 0, 1) := by decide +kernel
theorem dX7_withoutFalse_6 : decode cX7_withoutFalse 6 = .ok (.getfield 111, 3) := by decide +kernel
theorem dX7_withoutFalse_9 : decode cX7_withoutFalse 9 = .ok (.if_icmp .ge 47, 3) := by decide +kernel
theorem dX7_withoutFalse_12 : decode cX7_withoutFalse 12 = .ok (.aload_n 0, 1) := by decide +kernel
theorem dX7_withoutFalse_13 : decode cX7_withoutFalse 13 = .ok (.getfield 40, 3) := by decide +kernel
theorem dX7_withoutFalse_16 : decode cX7_withoutFalse 16 = .ok (.iload_n 2, 1) := by decide +kernel
theorem dX7_withoutFalse_17 : decode cX7_withoutFalse 17 = .ok (.aload_n 0, 1) := by decide +kernel
theorem dX7_withoutFalse_18 : decode cX7_withoutFalse 18 = .ok (.getfield 13, 3) := by decide +kernel
theorem dX7_withoutFalse_21 : decode cX7_withoutFalse 21 = .ok (.iload_n 2, 1) := by decide +kernel
theorem dX7_withoutFalse_22 : decode cX7_withoutFalse 22 = .ok (.iaload, 1) := by decide +kernel
theorem dX7_withoutFalse_23 : decode cX7_withoutFalse 23 = .ok (.iastore, 1) := by decide +kernel
theorem dX7_withoutFalse_24 : decode cX7_withoutFalse 24 = .ok (.aload_n 0, 1) := by decide +kernel
theorem dX7_withoutFalse_25 : decode cX7_withoutFalse 25 = .ok (.getfield 13, 3) := by decide +kernel
theorem dX7_withoutFalse_28 : decode cX7_withoutFalse 28 = .ok (.iload_n 2, 1) := by decide +kernel
theorem dX7_withoutFalse_29 : decode cX7_withoutFalse 29 = .ok (.aload_n 0, 1) := by decide +kernel
theorem dX7_withoutFalse_30 : decode cX7_withoutFalse 30 = .ok (.getfield 7, 3) := by decide +kernel
theorem dX7_withoutFalse_33 : decode cX7_withoutFalse 33 = .ok (.iload_n 2, 1) := by decide +kernel
theorem dX7_withoutFalse_34 : decode cX7_withoutFalse 34 = .ok (.iaload, 1) := by decide +kernel
theorem dX7_withoutFalse_35 : decode cX7_withoutFalse 35 = .ok (.iconst 2, 1) := by decide +kernel
theorem dX7_withoutFalse_36 : decode cX7_withoutFalse 36 = .ok (.if_icmp .ne 7, 3) := by decide +kernel
theorem dX7_withoutFalse_39 : decode cX7_withoutFalse 39 = .ok (.iconst 0, 1) := by decide +kernel
theorem dX7_withoutFalse_40 : decode cX7_withoutFalse 40 = .ok (.goto 9, 3) := by decide +kernel
theorem dX7_withoutFalse_43 : decode cX7_withoutFalse 43 = .ok (.aload_n 0, 1) := by decide +kernel
theorem dX7_withoutFalse_44 : decode cX7_withoutFalse 44 = .ok (.getfield 13, 3) := by decide +kernel
theorem dX7_withoutFalse_47 : decode cX7_withoutFalse 47 = .ok (.iload_n 2, 1) := by decide +kernel
theorem dX7_withoutFalse_48 : decode cX7_withoutFalse 48 = .ok (.iaload, 1) := by decide +kernel
theorem dX7_withoutFalse_49 : decode cX7_withoutFalse 49 = .ok (.iastore, 1) := by decide +kernel
theorem dX7_withoutFalse_50 : decode cX7_withoutFalse 50 = .ok (.iinc 2 1, 3) := by decide +kernel
theorem dX7_withoutFalse_53 : decode cX7_withoutFalse 53 = .ok (.goto (-49), 3) := by decide +kernel
theorem dX7_withoutFalse_56 : decode cX7_withoutFalse 56 = .ok (.aload_n 0, 1) := by decide +kernel
theorem dX7_withoutFalse_57 : decode cX7_withoutFalse 57 = .ok (.invokevirtual 187, 3) := by decide +kernel
theorem dX7_withoutFalse_60 : decode cX7_withoutFalse 60 = .ok (.aload_n 0, 1) := by decide +kernel
theorem dX7_withoutFalse_61 : decode cX7_withoutFalse 61 = .ok (.invokevirtual 193, 3) := by decide +kernel
theorem dX7_withoutFalse_64 : decode cX7_withoutFalse 64 = .ok (.invokestatic 71, 3) := by decide +kernel
theorem dX7_withoutFalse_67 : decode cX7_withoutFalse 67 = .ok (.istore_n 1, 1) := by decide +kernel
theorem dX7_withoutFalse_68 : decode cX7_withoutFalse 68 = .ok (.iconst 0, 1) := by decide +kernel
theorem dX7_withoutFalse_69 : decode cX7_withoutFalse 69 = .ok (.istore_n 2, 1) := by decide +kernel
theorem dX7_withoutFalse_70 : decode cX7_withoutFalse 70 = .ok (.iload_n 2, 1) := by decide +kernel
theorem dX7_withoutFalse_71 : decode cX7_withoutFalse 71 = .ok (.aload_n 0, 1) := by decide +kernel
theorem dX7_withoutFalse_72 : decode cX7_withoutFalse 72 = .ok (.getfield 111, 3) := by decide +kernel
theorem dX7_withoutFalse_75 : decode cX7_withoutFalse 75 = .ok (.if_icmp .ge 21, 3) := by decide +kernel
theorem dX7_withoutFalse_78 : decode cX7_withoutFalse 78 = .ok (.aload_n 0, 1) := by decide +kernel
theorem dX7_withoutFalse_79 : decode cX7_withoutFalse 79 = .ok (.getfield 13, 3) := by decide +kernel
theorem dX7_withoutFalse_82 : decode cX7_withoutFalse 82 = .ok (.iload_n 2, 1) := by decide +kernel
theorem dX7_withoutFalse_83 : decode cX7_withoutFalse 83 = .ok (.aload_n 0, 1) := by decide +kernel
theorem dX7_withoutFalse_84 : decode cX7_withoutFalse 84 = .ok (.getfield 40, 3) := by decide +kernel
theorem dX7_withoutFalse_87 : decode cX7_withoutFalse 87 = .ok (.iload_n 2, 1) := by decide +kernel
theorem dX7_withoutFalse_88 : decode cX7_withoutFalse 88 = .ok (.iaload, 1) := by decide +kernel
theorem dX7_withoutFalse_89 : decode cX7_withoutFalse 89 = .ok (.iastore, 1) := by decide +kernel
theorem dX7_withoutFalse_90 : decode cX7_withoutFalse 90 = .ok (.iinc 2 1, 3) := by decide +kernel
theorem dX7_withoutFalse_93 : decode cX7_withoutFalse 93 = .ok (.goto (-23), 3) := by decide +kernel
theorem dX7_withoutFalse_96 : decode cX7_withoutFalse 96 = .ok (.iload_n 1, 1) := by decide +kernel
theorem dX7_withoutFalse_97 : decode cX7_withoutFalse 97 = .ok (.ireturn, 1) := by decide +kernel
theorem dX7_trustNow_0 : decode cX7_trustNow 0 = .ok (.aload_n 0, 1) := by decide +kernel
theorem dX7_trustNow_1 : decode cX7_trustNow 1 = .ok (.invokevirtual 187, 3) := by decide +kernel
theorem dX7_trustNow_4 : decode cX7_trustNow 4 = .ok (.iload_n 1, 1) := by decide +kernel
theorem dX7_trustNow_5 : decode cX7_trustNow 5 = .ok (.tableswitch 67 0 3 #[31, 39, 53, 58], 31) := by decide +kernel
theorem dX7_trustNow_36 : decode cX7_trustNow 36 = .ok (.aload_n 0, 1) := by decide +kernel
theorem dX7_trustNow_37 : decode cX7_trustNow 37 = .ok (.invokevirtual 193, 3) := by decide +kernel
theorem dX7_trustNow_40 : decode cX7_trustNow 40 = .ok (.invokestatic 71, 3) := by decide +kernel
theorem dX7_trustNow_43 : decode cX7_trustNow 43 = .ok (.ireturn, 1) := by decide +kernel
theorem dX7_trustNow_44 : decode cX7_trustNow 44 = .ok (.aload_n 0, 1) := by decide +kernel
theorem dX7_trustNow_45 : decode cX7_trustNow 45 = .ok (.invokevirtual 193, 3) := by decide +kernel
theorem dX7_trustNow_48 : decode cX7_trustNow 48 = .ok (.aload_n 0, 1) := by decide +kernel
theorem dX7_trustNow_49 : decode cX7_trustNow 49 = .ok (.iconst 2, 1) := by decide +kernel
theorem dX7_trustNow_50 : decode cX7_trustNow 50 = .ok (.invokevirtual 148, 3) := by decide +kernel
theorem dX7_trustNow_53 : decode cX7_trustNow 53 = .ok (.iand, 1) := by decide +kernel
theorem dX7_trustNow_54 : decode cX7_trustNow 54 = .ok (.invokestatic 71, 3) := by decide +kernel
theorem dX7_trustNow_57 : decode cX7_trustNow 57 = .ok (.ireturn, 1) := by decide +kernel
theorem dX7_trustNow_58 : decode cX7_trustNow 58 = .ok (.aload_n 0, 1) := by decide +kernel
theorem dX7_trustNow_59 : decode cX7_trustNow 59 = .ok (.invokevirtual 209, 3) := by decide +kernel
theorem dX7_trustNow_62 : decode cX7_trustNow 62 = .ok (.ireturn, 1) := by decide +kernel
theorem dX7_trustNow_63 : decode cX7_trustNow 63 = .ok (.aload_n 0, 1) := by decide +kernel
theorem dX7_trustNow_64 : decode cX7_trustNow 64 = .ok (.aload_n 0, 1) := by decide +kernel
theorem dX7_trustNow_65 : decode cX7_trustNow 65 = .ok (.invokevirtual 196, 3) := by decide +kernel
theorem dX7_trustNow_68 : decode cX7_trustNow 68 = .ok (.invokevirtual 169, 3) := by decide +kernel
theorem dX7_trustNow_71 : decode cX7_trustNow 71 = .ok (.ireturn, 1) := by decide +kernel
theorem dX7_trustNow_72 : decode cX7_trustNow 72 = .ok (.aload_n 0, 1) := by decide +kernel
theorem dX7_trustNow_73 : decode cX7_trustNow 73 = .ok (.invokevirtual 212, 3) := by decide +kernel
theorem dX7_trustNow_76 : decode cX7_trustNow 76 = .ok (.ireturn, 1) := by decide +kernel
theorem dX7_trust_0 : decode cX7_trust 0 = .ok (.iload_n 1, 1) := by decide +kernel
theorem dX7_trust_1 : decode cX7_trust 1 = .ok (.iconst 0, 1) := by decide +kernel
theorem dX7_trust_2 : decode cX7_trust 2 = .ok (.iconst 4, 1) := by decide +kernel
theorem dX7_trust_3 : decode cX7_trust 3 = .ok (.invokestatic 50, 3) := by decide +kernel
theorem dX7_trust_6 : decode cX7_trust 6 = .ok (.ifCond .ne 6, 3) := by decide +kernel
theorem dX7_trust_9 : decode cX7_trust 9 = .ok (.bipush (-102), 2) := by decide +kernel
theorem dX7_trust_11 : decode cX7_trust 11 = .ok (.ireturn, 1) := by decide +kernel
theorem dX7_trust_12 : decode cX7_trust 12 = .ok (.aload_n 0, 1) := by decide +kernel
theorem dX7_trust_13 : decode cX7_trust 13 = .ok (.invokevirtual 139, 3) := by decide +kernel
theorem dX7_trust_16 : decode cX7_trust 16 = .ok (.ifCond .eq 11, 3) := by decide +kernel
theorem dX7_trust_19 : decode cX7_trust 19 = .ok (.aload_n 0, 1) := by decide +kernel
theorem dX7_trust_20 : decode cX7_trust 20 = .ok (.iload_n 1, 1) := by decide +kernel
theorem dX7_trust_21 : decode cX7_trust 21 = .ok (.invokevirtual 215, 3) := by decide +kernel
theorem dX7_trust_24 : decode cX7_trust 24 = .ok (.goto 5, 3) := by decide +kernel
theorem dX7_trust_27 : decode cX7_trust 27 = .ok (.bipush (-103), 2) := by decide +kernel
theorem dX7_trust_29 : decode cX7_trust 29 = .ok (.ireturn, 1) := by decide +kernel
theorem dX7_togetherNow_0 : decode cX7_togetherNow 0 = .ok (.aload_n 0, 1) := by decide +kernel
theorem dX7_togetherNow_1 : decode cX7_togetherNow 1 = .ok (.invokevirtual 187, 3) := by decide +kernel
theorem dX7_togetherNow_4 : decode cX7_togetherNow 4 = .ok (.aload_n 0, 1) := by decide +kernel
theorem dX7_togetherNow_5 : decode cX7_togetherNow 5 = .ok (.iload_n 1, 1) := by decide +kernel
theorem dX7_togetherNow_6 : decode cX7_togetherNow 6 = .ok (.invokevirtual 172, 3) := by decide +kernel
theorem dX7_togetherNow_9 : decode cX7_togetherNow 9 = .ok (.ifCond .eq 7, 3) := by decide +kernel
theorem dX7_togetherNow_12 : decode cX7_togetherNow 12 = .ok (.iconst 1, 1) := by decide +kernel
theorem dX7_togetherNow_13 : decode cX7_togetherNow 13 = .ok (.goto 4, 3) := by decide +kernel
theorem dX7_togetherNow_16 : decode cX7_togetherNow 16 = .ok (.iconst 0, 1) := by decide +kernel
theorem dX7_togetherNow_17 : decode cX7_togetherNow 17 = .ok (.ireturn, 1) := by decide +kernel
theorem dX7_together_0 : decode cX7_together 0 = .ok (.aload_n 0, 1) := by decide +kernel
theorem dX7_together_1 : decode cX7_together 1 = .ok (.invokevirtual 139, 3) := by decide +kernel
theorem dX7_together_4 : decode cX7_together 4 = .ok (.ifCond .ne 6, 3) := by decide +kernel
theorem dX7_together_7 : decode cX7_together 7 = .ok (.bipush (-103), 2) := by decide +kernel
theorem dX7_together_9 : decode cX7_together 9 = .ok (.ireturn, 1) := by decide +kernel
theorem dX7_together_10 : decode cX7_together 10 = .ok (.iload_n 1, 1) := by decide +kernel
theorem dX7_together_11 : decode cX7_together 11 = .ok (.ifCond .lt 13, 3) := by decide +kernel
theorem dX7_together_14 : decode cX7_together 14 = .ok (.iload_n 1, 1) := by decide +kernel
theorem dX7_together_15 : decode cX7_together 15 = .ok (.iconst 1, 1) := by decide +kernel
theorem dX7_together_16 : decode cX7_together 16 = .ok (.aload_n 0, 1) := by decide +kernel
theorem dX7_together_17 : decode cX7_together 17 = .ok (.getfield 111, 3) := by decide +kernel
theorem dX7_together_20 : decode cX7_together 20 = .ok (.ishl, 1) := by decide +kernel
theorem dX7_together_21 : decode cX7_together 21 = .ok (.if_icmp .lt 8, 3) := by decide +kernel
theorem dX7_together_24 : decode cX7_together 24 = .ok (.bipush (-101), 2) := by decide +kernel
theorem dX7_together_26 : decode cX7_together 26 = .ok (.goto 8, 3) := by decide +kernel
theorem dX7_together_29 : decode cX7_together 29 = .ok (.aload_n 0, 1) := by decide +kernel
theorem dX7_together_30 : decode cX7_together 30 = .ok (.iload_n 1, 1) := by decide +kernel
theorem dX7_together_31 : decode cX7_together 31 = .ok (.invokevirtual 218, 3) := by decide +kernel
theorem dX7_together_34 : decode cX7_together 34 = .ok (.ireturn, 1) := by decide +kernel
theorem dX7_costOf_0 : decode cX7_costOf 0 = .ok (.aload_n 0, 1) := by decide +kernel
theorem dX7_costOf_1 : decode cX7_costOf 1 = .ok (.getfield 37, 3) := by decide +kernel
theorem dX7_costOf_4 : decode cX7_costOf 4 = .ok (.iload_n 1, 1) := by decide +kernel
theorem dX7_costOf_5 : decode cX7_costOf 5 = .ok (.iaload, 1) := by decide +kernel
theorem dX7_costOf_6 : decode cX7_costOf 6 = .ok (.iload_n 1, 1) := by decide +kernel
theorem dX7_costOf_7 : decode cX7_costOf 7 = .ok (.aload_n 0, 1) := by decide +kernel
theorem dX7_costOf_8 : decode cX7_costOf 8 = .ok (.iconst 2, 1) := by decide +kernel
theorem dX7_costOf_9 : decode cX7_costOf 9 = .ok (.invokevirtual 148, 3) := by decide +kernel
theorem dX7_costOf_12 : decode cX7_costOf 12 = .ok (.iand, 1) := by decide +kernel
theorem dX7_costOf_13 : decode cX7_costOf 13 = .ok (.invokestatic 71, 3) := by decide +kernel
theorem dX7_costOf_16 : decode cX7_costOf 16 = .ok (.iadd, 1) := by decide +kernel
theorem dX7_costOf_17 : decode cX7_costOf 17 = .ok (.ireturn, 1) := by decide +kernel
theorem dX7_cutSet_0 : decode cX7_cutSet 0 = .ok (.iconst 0, 1) := by decide +kernel
theorem dX7_cutSet_1 : decode cX7_cutSet 1 = .ok (.istore_n 1, 1) := by decide +kernel
theorem dX7_cutSet_2 : decode cX7_cutSet 2 = .ok (.iconst 1, 1) := by decide +kernel
theorem dX7_cutSet_3 : decode cX7_cutSet 3 = .ok (.istore_n 2, 1) := by decide +kernel
theorem dX7_cutSet_4 : decode cX7_cutSet 4 = .ok (.iload_n 2, 1) := by decide +kernel
theorem dX7_cutSet_5 : decode cX7_cutSet 5 = .ok (.iconst 1, 1) := by decide +kernel
theorem dX7_cutSet_6 : decode cX7_cutSet 6 = .ok (.aload_n 0, 1) := by decide +kernel
theorem dX7_cutSet_7 : decode cX7_cutSet 7 = .ok (.getfield 111, 3) := by decide +kernel
theorem dX7_cutSet_10 : decode cX7_cutSet 10 = .ok (.ishl, 1) := by decide +kernel
theorem dX7_cutSet_11 : decode cX7_cutSet 11 = .ok (.if_icmp .ge 46, 3) := by decide +kernel
theorem dX7_cutSet_14 : decode cX7_cutSet 14 = .ok (.aload_n 0, 1) := by decide +kernel
theorem dX7_cutSet_15 : decode cX7_cutSet 15 = .ok (.iload_n 2, 1) := by decide +kernel
theorem dX7_cutSet_16 : decode cX7_cutSet 16 = .ok (.invokevirtual 221, 3) := by decide +kernel
theorem dX7_cutSet_19 : decode cX7_cutSet 19 = .ok (.aload_n 0, 1) := by decide +kernel
theorem dX7_cutSet_20 : decode cX7_cutSet 20 = .ok (.iload_n 1, 1) := by decide +kernel
theorem dX7_cutSet_21 : decode cX7_cutSet 21 = .ok (.invokevirtual 221, 3) := by decide +kernel
theorem dX7_cutSet_24 : decode cX7_cutSet 24 = .ok (.isub, 1) := by decide +kernel
theorem dX7_cutSet_25 : decode cX7_cutSet 25 = .ok (.istore_n 3, 1) := by decide +kernel
theorem dX7_cutSet_26 : decode cX7_cutSet 26 = .ok (.iload_n 3, 1) := by decide +kernel
theorem dX7_cutSet_27 : decode cX7_cutSet 27 = .ok (.ifCond .lt 18, 3) := by decide +kernel
theorem dX7_cutSet_30 : decode cX7_cutSet 30 = .ok (.iload_n 3, 1) := by decide +kernel
theorem dX7_cutSet_31 : decode cX7_cutSet 31 = .ok (.ifCond .ne 18, 3) := by decide +kernel
theorem dX7_cutSet_34 : decode cX7_cutSet 34 = .ok (.iload_n 2, 1) := by decide +kernel
theorem dX7_cutSet_35 : decode cX7_cutSet 35 = .ok (.invokestatic 71, 3) := by decide +kernel
theorem dX7_cutSet_38 : decode cX7_cutSet 38 = .ok (.iload_n 1, 1) := by decide +kernel
theorem dX7_cutSet_39 : decode cX7_cutSet 39 = .ok (.invokestatic 71, 3) := by decide +kernel
theorem dX7_cutSet_42 : decode cX7_cutSet 42 = .ok (.if_icmp .ge 7, 3) := by decide +kernel
theorem dX7_cutSet_45 : decode cX7_cutSet 45 = .ok (.iload_n 2, 1) := by decide +kernel
theorem dX7_cutSet_46 : decode cX7_cutSet 46 = .ok (.goto 4, 3) := by decide +kernel
theorem dX7_cutSet_49 : decode cX7_cutSet 49 = .ok (.iload_n 1, 1) := by decide +kernel
theorem dX7_cutSet_50 : decode cX7_cutSet 50 = .ok (.istore_n 1, 1) := by decide +kernel
theorem dX7_cutSet_51 : decode cX7_cutSet 51 = .ok (.iinc 2 1, 3) := by decide +kernel
theorem dX7_cutSet_54 : decode cX7_cutSet 54 = .ok (.goto (-50), 3) := by decide +kernel
theorem dX7_cutSet_57 : decode cX7_cutSet 57 = .ok (.iload_n 1, 1) := by decide +kernel
theorem dX7_cutSet_58 : decode cX7_cutSet 58 = .ok (.ireturn, 1) := by decide +kernel
theorem dX7_cutNow_0 : decode cX7_cutNow 0 = .ok (.aload_n 0, 1) := by decide +kernel
theorem dX7_cutNow_1 : decode cX7_cutNow 1 = .ok (.invokevirtual 187, 3) := by decide +kernel
theorem dX7_cutNow_4 : decode cX7_cutNow 4 = .ok (.aload_n 0, 1) := by decide +kernel
theorem dX7_cutNow_5 : decode cX7_cutNow 5 = .ok (.invokevirtual 224, 3) := by decide +kernel
theorem dX7_cutNow_8 : decode cX7_cutNow 8 = .ok (.istore_n 2, 1) := by decide +kernel
theorem dX7_cutNow_9 : decode cX7_cutNow 9 = .ok (.iload_n 1, 1) := by decide +kernel
theorem dX7_cutNow_10 : decode cX7_cutNow 10 = .ok (.ifCond .ne 11, 3) := by decide +kernel
theorem dX7_cutNow_13 : decode cX7_cutNow 13 = .ok (.aload_n 0, 1) := by decide +kernel
theorem dX7_cutNow_14 : decode cX7_cutNow 14 = .ok (.iload_n 2, 1) := by decide +kernel
theorem dX7_cutNow_15 : decode cX7_cutNow 15 = .ok (.invokevirtual 221, 3) := by decide +kernel
theorem dX7_cutNow_18 : decode cX7_cutNow 18 = .ok (.goto 17, 3) := by decide +kernel
theorem dX7_cutNow_21 : decode cX7_cutNow 21 = .ok (.iload_n 1, 1) := by decide +kernel
theorem dX7_cutNow_22 : decode cX7_cutNow 22 = .ok (.iconst 1, 1) := by decide +kernel
theorem dX7_cutNow_23 : decode cX7_cutNow 23 = .ok (.if_icmp .ne 11, 3) := by decide +kernel
theorem dX7_cutNow_26 : decode cX7_cutNow 26 = .ok (.aload_n 0, 1) := by decide +kernel
theorem dX7_cutNow_27 : decode cX7_cutNow 27 = .ok (.iload_n 2, 1) := by decide +kernel
theorem dX7_cutNow_28 : decode cX7_cutNow 28 = .ok (.invokevirtual 166, 3) := by decide +kernel
theorem dX7_cutNow_31 : decode cX7_cutNow 31 = .ok (.goto 4, 3) := by decide +kernel
theorem dX7_cutNow_34 : decode cX7_cutNow 34 = .ok (.iload_n 2, 1) := by decide +kernel
theorem dX7_cutNow_35 : decode cX7_cutNow 35 = .ok (.ireturn, 1) := by decide +kernel
theorem dX7_cut_0 : decode cX7_cut 0 = .ok (.iload_n 1, 1) := by decide +kernel
theorem dX7_cut_1 : decode cX7_cut 1 = .ok (.iconst 0, 1) := by decide +kernel
theorem dX7_cut_2 : decode cX7_cut 2 = .ok (.iconst 2, 1) := by decide +kernel
theorem dX7_cut_3 : decode cX7_cut 3 = .ok (.invokestatic 50, 3) := by decide +kernel
theorem dX7_cut_6 : decode cX7_cut 6 = .ok (.ifCond .ne 6, 3) := by decide +kernel
theorem dX7_cut_9 : decode cX7_cut 9 = .ok (.bipush (-102), 2) := by decide +kernel
theorem dX7_cut_11 : decode cX7_cut 11 = .ok (.ireturn, 1) := by decide +kernel
theorem dX7_cut_12 : decode cX7_cut 12 = .ok (.aload_n 0, 1) := by decide +kernel
theorem dX7_cut_13 : decode cX7_cut 13 = .ok (.invokevirtual 139, 3) := by decide +kernel
theorem dX7_cut_16 : decode cX7_cut 16 = .ok (.ifCond .eq 11, 3) := by decide +kernel
theorem dX7_cut_19 : decode cX7_cut 19 = .ok (.aload_n 0, 1) := by decide +kernel
theorem dX7_cut_20 : decode cX7_cut 20 = .ok (.iload_n 1, 1) := by decide +kernel
theorem dX7_cut_21 : decode cX7_cut 21 = .ok (.invokevirtual 227, 3) := by decide +kernel
theorem dX7_cut_24 : decode cX7_cut 24 = .ok (.goto 5, 3) := by decide +kernel
theorem dX7_cut_27 : decode cX7_cut 27 = .ok (.bipush (-103), 2) := by decide +kernel
theorem dX7_cut_29 : decode cX7_cut 29 = .ok (.ireturn, 1) := by decide +kernel
theorem dX7_isLed_0 : decode cX7_isLed 0 = .ok (.aload_n 0, 1) := by decide +kernel
theorem dX7_isLed_1 : decode cX7_isLed 1 = .ok (.iconst 1, 1) := by decide +kernel
theorem dX7_isLed_2 : decode cX7_isLed 2 = .ok (.invokevirtual 148, 3) := by decide +kernel
theorem dX7_isLed_5 : decode cX7_isLed 5 = .ok (.iload_n 2, 1) := by decide +kernel
theorem dX7_isLed_6 : decode cX7_isLed 6 = .ok (.iconst (-1), 1) := by decide +kernel
theorem dX7_isLed_7 : decode cX7_isLed 7 = .ok (.ixor, 1) := by decide +kernel
theorem dX7_isLed_8 : decode cX7_isLed 8 = .ok (.iand, 1) := by decide +kernel
theorem dX7_isLed_9 : decode cX7_isLed 9 = .ok (.istore_n 3, 1) := by decide +kernel
theorem dX7_isLed_10 : decode cX7_isLed 10 = .ok (.iconst 0, 1) := by decide +kernel
theorem dX7_isLed_11 : decode cX7_isLed 11 = .ok (.istore 4, 2) := by decide +kernel
theorem dX7_isLed_13 : decode cX7_isLed 13 = .ok (.iload 4, 2) := by decide +kernel
theorem dX7_isLed_15 : decode cX7_isLed 15 = .ok (.aload_n 0, 1) := by decide +kernel
theorem dX7_isLed_16 : decode cX7_isLed 16 = .ok (.getfield 111, 3) := by decide +kernel
theorem dX7_isLed_19 : decode cX7_isLed 19 = .ok (.if_icmp .ge 21, 3) := by decide +kernel
theorem dX7_isLed_22 : decode cX7_isLed 22 = .ok (.iload_n 3, 1) := by decide +kernel
theorem dX7_isLed_23 : decode cX7_isLed 23 = .ok (.aload_n 0, 1) := by decide +kernel
theorem dX7_isLed_24 : decode cX7_isLed 24 = .ok (.iload_n 3, 1) := by decide +kernel
theorem dX7_isLed_25 : decode cX7_isLed 25 = .ok (.invokevirtual 160, 3) := by decide +kernel
theorem dX7_isLed_28 : decode cX7_isLed 28 = .ok (.iload_n 2, 1) := by decide +kernel
theorem dX7_isLed_29 : decode cX7_isLed 29 = .ok (.iconst (-1), 1) := by decide +kernel
theorem dX7_isLed_30 : decode cX7_isLed 30 = .ok (.ixor, 1) := by decide +kernel
theorem dX7_isLed_31 : decode cX7_isLed 31 = .ok (.iand, 1) := by decide +kernel
theorem dX7_isLed_32 : decode cX7_isLed 32 = .ok (.ior, 1) := by decide +kernel
theorem dX7_isLed_33 : decode cX7_isLed 33 = .ok (.istore_n 3, 1) := by decide +kernel
theorem dX7_isLed_34 : decode cX7_isLed 34 = .ok (.iinc 4 1, 3) := by decide +kernel
theorem dX7_isLed_37 : decode cX7_isLed 37 = .ok (.goto (-24), 3) := by decide +kernel
theorem dX7_isLed_40 : decode cX7_isLed 40 = .ok (.iload_n 3, 1) := by decide +kernel
theorem dX7_isLed_41 : decode cX7_isLed 41 = .ok (.iload_n 1, 1) := by decide +kernel
theorem dX7_isLed_42 : decode cX7_isLed 42 = .ok (.invokestatic 132, 3) := by decide +kernel
theorem dX7_isLed_45 : decode cX7_isLed 45 = .ok (.ireturn, 1) := by decide +kernel
theorem dX7_apartNow_0 : decode cX7_apartNow 0 = .ok (.aload_n 0, 1) := by decide +kernel
theorem dX7_apartNow_1 : decode cX7_apartNow 1 = .ok (.getfield 7, 3) := by decide +kernel
theorem dX7_apartNow_4 : decode cX7_apartNow 4 = .ok (.iload_n 1, 1) := by decide +kernel
theorem dX7_apartNow_5 : decode cX7_apartNow 5 = .ok (.iaload, 1) := by decide +kernel
theorem dX7_apartNow_6 : decode cX7_apartNow 6 = .ok (.iconst 1, 1) := by decide +kernel
theorem dX7_apartNow_7 : decode cX7_apartNow 7 = .ok (.if_icmp .ne 5, 3) := by decide +kernel
theorem dX7_apartNow_10 : decode cX7_apartNow 10 = .ok (.iconst (-1), 1) := by decide +kernel
theorem dX7_apartNow_11 : decode cX7_apartNow 11 = .ok (.ireturn, 1) := by decide +kernel
theorem dX7_apartNow_12 : decode cX7_apartNow 12 = .ok (.iconst (-1), 1) := by decide +kernel
theorem dX7_apartNow_13 : decode cX7_apartNow 13 = .ok (.istore_n 2, 1) := by decide +kernel
theorem dX7_apartNow_14 : decode cX7_apartNow 14 = .ok (.iconst 0, 1) := by decide +kernel
theorem dX7_apartNow_15 : decode cX7_apartNow 15 = .ok (.istore_n 3, 1) := by decide +kernel
theorem dX7_apartNow_16 : decode cX7_apartNow 16 = .ok (.iload_n 3, 1) := by decide +kernel
theorem dX7_apartNow_17 : decode cX7_apartNow 17 = .ok (.iconst 1, 1) := by decide +kernel
theorem dX7_apartNow_18 : decode cX7_apartNow 18 = .ok (.aload_n 0, 1) := by decide +kernel
theorem dX7_apartNow_19 : decode cX7_apartNow 19 = .ok (.getfield 111, 3) := by decide +kernel
theorem dX7_apartNow_22 : decode cX7_apartNow 22 = .ok (.ishl, 1) := by decide +kernel
theorem dX7_apartNow_23 : decode cX7_apartNow 23 = .ok (.if_icmp .ge 60, 3) := by decide +kernel
theorem dX7_apartNow_26 : decode cX7_apartNow 26 = .ok (.iload_n 3, 1) := by decide +kernel
theorem dX7_apartNow_27 : decode cX7_apartNow 27 = .ok (.iload_n 1, 1) := by decide +kernel
theorem dX7_apartNow_28 : decode cX7_apartNow 28 = .ok (.invokestatic 132, 3) := by decide +kernel
theorem dX7_apartNow_31 : decode cX7_apartNow 31 = .ok (.ifCond .ne 23, 3) := by decide +kernel
theorem dX7_apartNow_34 : decode cX7_apartNow 34 = .ok (.iload_n 2, 1) := by decide +kernel
theorem dX7_apartNow_35 : decode cX7_apartNow 35 = .ok (.iconst (-1), 1) := by decide +kernel
theorem dX7_apartNow_36 : decode cX7_apartNow 36 = .ok (.if_icmp .eq 14, 3) := by decide +kernel
theorem dX7_apartNow_39 : decode cX7_apartNow 39 = .ok (.iload_n 3, 1) := by decide +kernel
theorem dX7_apartNow_40 : decode cX7_apartNow 40 = .ok (.invokestatic 71, 3) := by decide +kernel
theorem dX7_apartNow_43 : decode cX7_apartNow 43 = .ok (.iload_n 2, 1) := by decide +kernel
theorem dX7_apartNow_44 : decode cX7_apartNow 44 = .ok (.invokestatic 71, 3) := by decide +kernel
theorem dX7_apartNow_47 : decode cX7_apartNow 47 = .ok (.if_icmp .ge 7, 3) := by decide +kernel
theorem dX7_apartNow_50 : decode cX7_apartNow 50 = .ok (.iconst 1, 1) := by decide +kernel
theorem dX7_apartNow_51 : decode cX7_apartNow 51 = .ok (.goto 4, 3) := by decide +kernel
theorem dX7_apartNow_54 : decode cX7_apartNow 54 = .ok (.iconst 0, 1) := by decide +kernel
theorem dX7_apartNow_55 : decode cX7_apartNow 55 = .ok (.istore 4, 2) := by decide +kernel
theorem dX7_apartNow_57 : decode cX7_apartNow 57 = .ok (.iload 4, 2) := by decide +kernel
theorem dX7_apartNow_59 : decode cX7_apartNow 59 = .ok (.ifCond .eq 16, 3) := by decide +kernel
theorem dX7_apartNow_62 : decode cX7_apartNow 62 = .ok (.aload_n 0, 1) := by decide +kernel
theorem dX7_apartNow_63 : decode cX7_apartNow 63 = .ok (.iload_n 1, 1) := by decide +kernel
theorem dX7_apartNow_64 : decode cX7_apartNow 64 = .ok (.iload_n 3, 1) := by decide +kernel
theorem dX7_apartNow_65 : decode cX7_apartNow 65 = .ok (.invokevirtual 230, 3) := by decide +kernel
theorem dX7_apartNow_68 : decode cX7_apartNow 68 = .ok (.ifCond .ne 7, 3) := by decide +kernel
theorem dX7_apartNow_71 : decode cX7_apartNow 71 = .ok (.iload_n 3, 1) := by decide +kernel
theorem dX7_apartNow_72 : decode cX7_apartNow 72 = .ok (.goto 4, 3) := by decide +kernel
theorem dX7_apartNow_75 : decode cX7_apartNow 75 = .ok (.iload_n 2, 1) := by decide +kernel
theorem dX7_apartNow_76 : decode cX7_apartNow 76 = .ok (.istore_n 2, 1) := by decide +kernel
theorem dX7_apartNow_77 : decode cX7_apartNow 77 = .ok (.iinc 3 1, 3) := by decide +kernel
theorem dX7_apartNow_80 : decode cX7_apartNow 80 = .ok (.goto (-64), 3) := by decide +kernel
theorem dX7_apartNow_83 : decode cX7_apartNow 83 = .ok (.iload_n 2, 1) := by decide +kernel
theorem dX7_apartNow_84 : decode cX7_apartNow 84 = .ok (.ireturn, 1) := by decide +kernel
theorem dX7_apart_0 : decode cX7_apart 0 = .ok (.aload_n 0, 1) := by decide +kernel
theorem dX7_apart_1 : decode cX7_apart 1 = .ok (.iload_n 1, 1) := by decide +kernel
theorem dX7_apart_2 : decode cX7_apart 2 = .ok (.invokevirtual 145, 3) := by decide +kernel
theorem dX7_apart_5 : decode cX7_apart 5 = .ok (.ifCond .eq 11, 3) := by decide +kernel
theorem dX7_apart_8 : decode cX7_apart 8 = .ok (.aload_n 0, 1) := by decide +kernel
theorem dX7_apart_9 : decode cX7_apart 9 = .ok (.iload_n 1, 1) := by decide +kernel
theorem dX7_apart_10 : decode cX7_apart 10 = .ok (.invokevirtual 199, 3) := by decide +kernel
theorem dX7_apart_13 : decode cX7_apart 13 = .ok (.goto 5, 3) := by decide +kernel
theorem dX7_apart_16 : decode cX7_apart 16 = .ok (.bipush (-101), 2) := by decide +kernel
theorem dX7_apart_18 : decode cX7_apart 18 = .ok (.ireturn, 1) := by decide +kernel
theorem dX7_withoutNow_0 : decode cX7_withoutNow 0 = .ok (.aload_n 0, 1) := by decide +kernel
theorem dX7_withoutNow_1 : decode cX7_withoutNow 1 = .ok (.getfield 13, 3) := by decide +kernel
theorem dX7_withoutNow_4 : decode cX7_withoutNow 4 = .ok (.iload_n 1, 1) := by decide +kernel
theorem dX7_withoutNow_5 : decode cX7_withoutNow 5 = .ok (.iaload, 1) := by decide +kernel
theorem dX7_withoutNow_6 : decode cX7_withoutNow 6 = .ok (.istore 4, 2) := by decide +kernel
theorem dX7_withoutNow_8 : decode cX7_withoutNow 8 = .ok (.aload_n 0, 1) := by decide +kernel
theorem dX7_withoutNow_9 : decode cX7_withoutNow 9 = .ok (.getfield 13, 3) := by decide +kernel
theorem dX7_withoutNow_12 : decode cX7_withoutNow 12 = .ok (.iload_n 1, 1) := by decide +kernel
theorem dX7_withoutNow_13 : decode cX7_withoutNow 13 = .ok (.iload 4, 2) := by decide +kernel
theorem dX7_withoutNow_15 : decode cX7_withoutNow 15 = .ok (.iconst 1, 1) := by decide +kernel
theorem dX7_withoutNow_16 : decode cX7_withoutNow 16 = .ok (.iload_n 2, 1) := by decide +kernel
theorem dX7_withoutNow_17 : decode cX7_withoutNow 17 = .ok (.ishl, 1) := by decide +kernel
theorem dX7_withoutNow_18 : decode cX7_withoutNow 18 = .ok (.iconst (-1), 1) := by decide +kernel
theorem dX7_withoutNow_19 : decode cX7_withoutNow 19 = .ok (.ixor, 1) := by decide +kernel
theorem dX7_withoutNow_20 : decode cX7_withoutNow 20 = .ok (.iand, 1) := by decide +kernel
theorem dX7_withoutNow_21 : decode cX7_withoutNow 21 = .ok (.iastore, 1) := by decide +kernel
theorem dX7_withoutNow_22 : decode cX7_withoutNow 22 = .ok (.aload_n 0, 1) := by decide +kernel
theorem dX7_withoutNow_23 : decode cX7_withoutNow 23 = .ok (.invokevirtual 187, 3) := by decide +kernel
theorem dX7_withoutNow_26 : decode cX7_withoutNow 26 = .ok (.aload_n 0, 1) := by decide +kernel
theorem dX7_withoutNow_27 : decode cX7_withoutNow 27 = .ok (.invokevirtual 193, 3) := by decide +kernel
theorem dX7_withoutNow_30 : decode cX7_withoutNow 30 = .ok (.istore 5, 2) := by decide +kernel
theorem dX7_withoutNow_32 : decode cX7_withoutNow 32 = .ok (.aload_n 0, 1) := by decide +kernel
theorem dX7_withoutNow_33 : decode cX7_withoutNow 33 = .ok (.getfield 13, 3) := by decide +kernel
theorem dX7_withoutNow_36 : decode cX7_withoutNow 36 = .ok (.iload_n 1, 1) := by decide +kernel
theorem dX7_withoutNow_37 : decode cX7_withoutNow 37 = .ok (.iload 4, 2) := by decide +kernel
theorem dX7_withoutNow_39 : decode cX7_withoutNow 39 = .ok (.iastore, 1) := by decide +kernel
theorem dX7_withoutNow_40 : decode cX7_withoutNow 40 = .ok (.iload_n 3, 1) := by decide +kernel
theorem dX7_withoutNow_41 : decode cX7_withoutNow 41 = .ok (.ifCond .ne 11, 3) := by decide +kernel
theorem dX7_withoutNow_44 : decode cX7_withoutNow 44 = .ok (.iload 5, 2) := by decide +kernel
theorem dX7_withoutNow_46 : decode cX7_withoutNow 46 = .ok (.invokestatic 71, 3) := by decide +kernel
theorem dX7_withoutNow_49 : decode cX7_withoutNow 49 = .ok (.goto 28, 3) := by decide +kernel
theorem dX7_withoutNow_52 : decode cX7_withoutNow 52 = .ok (.iload_n 3, 1) := by decide +kernel
theorem dX7_withoutNow_53 : decode cX7_withoutNow 53 = .ok (.iconst 1, 1) := by decide +kernel
theorem dX7_withoutNow_54 : decode cX7_withoutNow 54 = .ok (.if_icmp .ne 17, 3) := by decide +kernel
theorem dX7_withoutNow_57 : decode cX7_withoutNow 57 = .ok (.iload 5, 2) := by decide +kernel
theorem dX7_withoutNow_59 : decode cX7_withoutNow 59 = .ok (.aload_n 0, 1) := by decide +kernel
theorem dX7_withoutNow_60 : decode cX7_withoutNow 60 = .ok (.iconst 2, 1) := by decide +kernel
theorem dX7_withoutNow_61 : decode cX7_withoutNow 61 = .ok (.invokevirtual 148, 3) := by decide +kernel
theorem dX7_withoutNow_64 : decode cX7_withoutNow 64 = .ok (.iand, 1) := by decide +kernel
theorem dX7_withoutNow_65 : decode cX7_withoutNow 65 = .ok (.invokestatic 71, 3) := by decide +kernel
theorem dX7_withoutNow_68 : decode cX7_withoutNow 68 = .ok (.goto 9, 3) := by decide +kernel
theorem dX7_withoutNow_71 : decode cX7_withoutNow 71 = .ok (.aload_n 0, 1) := by decide +kernel
theorem dX7_withoutNow_72 : decode cX7_withoutNow 72 = .ok (.getfield 31, 3) := by decide +kernel
theorem dX7_withoutNow_75 : decode cX7_withoutNow 75 = .ok (.iload_n 2, 1) := by decide +kernel
theorem dX7_withoutNow_76 : decode cX7_withoutNow 76 = .ok (.iaload, 1) := by decide +kernel
theorem dX7_withoutNow_77 : decode cX7_withoutNow 77 = .ok (.ireturn, 1) := by decide +kernel
theorem dX7_without_0 : decode cX7_without 0 = .ok (.aload_n 0, 1) := by decide +kernel
theorem dX7_without_1 : decode cX7_without 1 = .ok (.iload_n 1, 1) := by decide +kernel
theorem dX7_without_2 : decode cX7_without 2 = .ok (.iload_n 2, 1) := by decide +kernel
theorem dX7_without_3 : decode cX7_without 3 = .ok (.invokevirtual 151, 3) := by decide +kernel
theorem dX7_without_6 : decode cX7_without 6 = .ok (.ifCond .ne 6, 3) := by decide +kernel
theorem dX7_without_9 : decode cX7_without 9 = .ok (.bipush (-101), 2) := by decide +kernel
theorem dX7_without_11 : decode cX7_without 11 = .ok (.ireturn, 1) := by decide +kernel
theorem dX7_without_12 : decode cX7_without 12 = .ok (.aload_n 0, 1) := by decide +kernel
theorem dX7_without_13 : decode cX7_without 13 = .ok (.getfield 13, 3) := by decide +kernel
theorem dX7_without_16 : decode cX7_without 16 = .ok (.iload_n 1, 1) := by decide +kernel
theorem dX7_without_17 : decode cX7_without 17 = .ok (.iaload, 1) := by decide +kernel
theorem dX7_without_18 : decode cX7_without 18 = .ok (.iload_n 2, 1) := by decide +kernel
theorem dX7_without_19 : decode cX7_without 19 = .ok (.invokestatic 132, 3) := by decide +kernel
theorem dX7_without_22 : decode cX7_without 22 = .ok (.ifCond .ne 6, 3) := by decide +kernel
theorem dX7_without_25 : decode cX7_without 25 = .ok (.bipush (-103), 2) := by decide +kernel
theorem dX7_without_27 : decode cX7_without 27 = .ok (.ireturn, 1) := by decide +kernel
theorem dX7_without_28 : decode cX7_without 28 = .ok (.iload_n 3, 1) := by decide +kernel
theorem dX7_without_29 : decode cX7_without 29 = .ok (.iconst 0, 1) := by decide +kernel
theorem dX7_without_30 : decode cX7_without 30 = .ok (.iconst 2, 1) := by decide +kernel
theorem dX7_without_31 : decode cX7_without 31 = .ok (.invokestatic 50, 3) := by decide +kernel
theorem dX7_without_34 : decode cX7_without 34 = .ok (.ifCond .eq 13, 3) := by decide +kernel
theorem dX7_without_37 : decode cX7_without 37 = .ok (.aload_n 0, 1) := by decide +kernel
theorem dX7_without_38 : decode cX7_without 38 = .ok (.iload_n 1, 1) := by decide +kernel
theorem dX7_without_39 : decode cX7_without 39 = .ok (.iload_n 2, 1) := by decide +kernel
theorem dX7_without_40 : decode cX7_without 40 = .ok (.iload_n 3, 1) := by decide +kernel
theorem dX7_without_41 : decode cX7_without 41 = .ok (.invokevirtual 233, 3) := by decide +kernel
theorem dX7_without_44 : decode cX7_without 44 = .ok (.goto 5, 3) := by decide +kernel
theorem dX7_without_47 : decode cX7_without 47 = .ok (.bipush (-102), 2) := by decide +kernel
theorem dX7_without_49 : decode cX7_without 49 = .ok (.ireturn, 1) := by decide +kernel
theorem dX7_dearestNow_0 : decode cX7_dearestNow 0 = .ok (.iconst (-1), 1) := by decide +kernel
theorem dX7_dearestNow_1 : decode cX7_dearestNow 1 = .ok (.istore_n 1, 1) := by decide +kernel
theorem dX7_dearestNow_2 : decode cX7_dearestNow 2 = .ok (.iconst 0, 1) := by decide +kernel
theorem dX7_dearestNow_3 : decode cX7_dearestNow 3 = .ok (.istore_n 2, 1) := by decide +kernel
theorem dX7_dearestNow_4 : decode cX7_dearestNow 4 = .ok (.iconst 0, 1) := by decide +kernel
theorem dX7_dearestNow_5 : decode cX7_dearestNow 5 = .ok (.istore_n 3, 1) := by decide +kernel
theorem dX7_dearestNow_6 : decode cX7_dearestNow 6 = .ok (.iload_n 3, 1) := by decide +kernel
theorem dX7_dearestNow_7 : decode cX7_dearestNow 7 = .ok (.bipush 100, 2) := by decide +kernel
theorem dX7_dearestNow_9 : decode cX7_dearestNow 9 = .ok (.if_icmp .ge 106, 3) := by decide +kernel
theorem dX7_dearestNow_12 : decode cX7_dearestNow 12 = .ok (.iload_n 3, 1) := by decide +kernel
theorem dX7_dearestNow_13 : decode cX7_dearestNow 13 = .ok (.bipush 10, 2) := by decide +kernel
theorem dX7_dearestNow_15 : decode cX7_dearestNow 15 = .ok (.idiv, 1) := by decide +kernel
theorem dX7_dearestNow_16 : decode cX7_dearestNow 16 = .ok (.istore 4, 2) := by decide +kernel
theorem dX7_dearestNow_18 : decode cX7_dearestNow 18 = .ok (.iload_n 3, 1) := by decide +kernel
theorem dX7_dearestNow_19 : decode cX7_dearestNow 19 = .ok (.bipush 10, 2) := by decide +kernel
theorem dX7_dearestNow_21 : decode cX7_dearestNow 21 = .ok (.irem, 1) := by decide +kernel
theorem dX7_dearestNow_22 : decode cX7_dearestNow 22 = .ok (.istore 5, 2) := by decide +kernel
theorem dX7_dearestNow_24 : decode cX7_dearestNow 24 = .ok (.iload 4, 2) := by decide +kernel
theorem dX7_dearestNow_26 : decode cX7_dearestNow 26 = .ok (.aload_n 0, 1) := by decide +kernel
theorem dX7_dearestNow_27 : decode cX7_dearestNow 27 = .ok (.getfield 111, 3) := by decide +kernel
theorem dX7_dearestNow_30 : decode cX7_dearestNow 30 = .ok (.if_icmp .ge 79, 3) := by decide +kernel
theorem dX7_dearestNow_33 : decode cX7_dearestNow 33 = .ok (.iload 5, 2) := by decide +kernel
theorem dX7_dearestNow_35 : decode cX7_dearestNow 35 = .ok (.aload_n 0, 1) := by decide +kernel
theorem dX7_dearestNow_36 : decode cX7_dearestNow 36 = .ok (.getfield 111, 3) := by decide +kernel
theorem dX7_dearestNow_39 : decode cX7_dearestNow 39 = .ok (.if_icmp .ge 70, 3) := by decide +kernel
theorem dX7_dearestNow_42 : decode cX7_dearestNow 42 = .ok (.aload_n 0, 1) := by decide +kernel
theorem dX7_dearestNow_43 : decode cX7_dearestNow 43 = .ok (.getfield 13, 3) := by decide +kernel
theorem dX7_dearestNow_46 : decode cX7_dearestNow 46 = .ok (.iload 4, 2) := by decide +kernel
theorem dX7_dearestNow_48 : decode cX7_dearestNow 48 = .ok (.iaload, 1) := by decide +kernel
theorem dX7_dearestNow_49 : decode cX7_dearestNow 49 = .ok (.iload 5, 2) := by decide +kernel
theorem dX7_dearestNow_51 : decode cX7_dearestNow 51 = .ok (.invokestatic 132, 3) := by decide +kernel
theorem dX7_dearestNow_54 : decode cX7_dearestNow 54 = .ok (.ifCond .eq 55, 3) := by decide +kernel
theorem dX7_dearestNow_57 : decode cX7_dearestNow 57 = .ok (.aload_n 0, 1) := by decide +kernel
theorem dX7_dearestNow_58 : decode cX7_dearestNow 58 = .ok (.iload 4, 2) := by decide +kernel
theorem dX7_dearestNow_60 : decode cX7_dearestNow 60 = .ok (.iload 5, 2) := by decide +kernel
theorem dX7_dearestNow_62 : decode cX7_dearestNow 62 = .ok (.iconst 0, 1) := by decide +kernel
theorem dX7_dearestNow_63 : decode cX7_dearestNow 63 = .ok (.invokevirtual 233, 3) := by decide +kernel
theorem dX7_dearestNow_66 : decode cX7_dearestNow 66 = .ok (.istore 6, 2) := by decide +kernel
theorem dX7_dearestNow_68 : decode cX7_dearestNow 68 = .ok (.iload_n 1, 1) := by decide +kernel
theorem dX7_dearestNow_69 : decode cX7_dearestNow 69 = .ok (.iconst (-1), 1) := by decide +kernel
theorem dX7_dearestNow_70 : decode cX7_dearestNow 70 = .ok (.if_icmp .eq 9, 3) := by decide +kernel
theorem dX7_dearestNow_73 : decode cX7_dearestNow 73 = .ok (.iload 6, 2) := by decide +kernel
theorem dX7_dearestNow_75 : decode cX7_dearestNow 75 = .ok (.iload_n 2, 1) := by decide +kernel
theorem dX7_dearestNow_76 : decode cX7_dearestNow 76 = .ok (.if_icmp .ge 7, 3) := by decide +kernel
theorem dX7_dearestNow_79 : decode cX7_dearestNow 79 = .ok (.iconst 1, 1) := by decide +kernel
theorem dX7_dearestNow_80 : decode cX7_dearestNow 80 = .ok (.goto 4, 3) := by decide +kernel
theorem dX7_dearestNow_83 : decode cX7_dearestNow 83 = .ok (.iconst 0, 1) := by decide +kernel
theorem dX7_dearestNow_84 : decode cX7_dearestNow 84 = .ok (.istore 7, 2) := by decide +kernel
theorem dX7_dearestNow_86 : decode cX7_dearestNow 86 = .ok (.iload 7, 2) := by decide +kernel
theorem dX7_dearestNow_88 : decode cX7_dearestNow 88 = .ok (.ifCond .eq 7, 3) := by decide +kernel
theorem dX7_dearestNow_91 : decode cX7_dearestNow 91 = .ok (.iload_n 3, 1) := by decide +kernel
theorem dX7_dearestNow_92 : decode cX7_dearestNow 92 = .ok (.goto 4, 3) := by decide +kernel
theorem dX7_dearestNow_95 : decode cX7_dearestNow 95 = .ok (.iload_n 1, 1) := by decide +kernel
theorem dX7_dearestNow_96 : decode cX7_dearestNow 96 = .ok (.istore_n 1, 1) := by decide +kernel
theorem dX7_dearestNow_97 : decode cX7_dearestNow 97 = .ok (.iload 7, 2) := by decide +kernel
theorem dX7_dearestNow_99 : decode cX7_dearestNow 99 = .ok (.ifCond .eq 8, 3) := by decide +kernel
theorem dX7_dearestNow_102 : decode cX7_dearestNow 102 = .ok (.iload 6, 2) := by decide +kernel
theorem dX7_dearestNow_104 : decode cX7_dearestNow 104 = .ok (.goto 4, 3) := by decide +kernel
theorem dX7_dearestNow_107 : decode cX7_dearestNow 107 = .ok (.iload_n 2, 1) := by decide +kernel
theorem dX7_dearestNow_108 : decode cX7_dearestNow 108 = .ok (.istore_n 2, 1) := by decide +kernel
theorem dX7_dearestNow_109 : decode cX7_dearestNow 109 = .ok (.iinc 3 1, 3) := by decide +kernel
theorem dX7_dearestNow_112 : decode cX7_dearestNow 112 = .ok (.goto (-106), 3) := by decide +kernel
theorem dX7_dearestNow_115 : decode cX7_dearestNow 115 = .ok (.iload_n 1, 1) := by decide +kernel
theorem dX7_dearestNow_116 : decode cX7_dearestNow 116 = .ok (.ireturn, 1) := by decide +kernel
theorem dX7_dearest_0 : decode cX7_dearest 0 = .ok (.aload_n 0, 1) := by decide +kernel
theorem dX7_dearest_1 : decode cX7_dearest 1 = .ok (.invokevirtual 139, 3) := by decide +kernel
theorem dX7_dearest_4 : decode cX7_dearest 4 = .ok (.ifCond .eq 10, 3) := by decide +kernel
theorem dX7_dearest_7 : decode cX7_dearest 7 = .ok (.aload_n 0, 1) := by decide +kernel
theorem dX7_dearest_8 : decode cX7_dearest 8 = .ok (.invokevirtual 237, 3) := by decide +kernel
theorem dX7_dearest_11 : decode cX7_dearest 11 = .ok (.goto 5, 3) := by decide +kernel
theorem dX7_dearest_14 : decode cX7_dearest 14 = .ok (.bipush (-103), 2) := by decide +kernel
theorem dX7_dearest_16 : decode cX7_dearest 16 = .ok (.ireturn, 1) := by decide +kernel
theorem dX7_goesTo_0 : decode cX7_goesTo 0 = .ok (.iconst 0, 1) := by decide +kernel
theorem dX7_goesTo_1 : decode cX7_goesTo 1 = .ok (.istore 4, 2) := by decide +kernel
theorem dX7_goesTo_3 : decode cX7_goesTo 3 = .ok (.iload 4, 2) := by decide +kernel
theorem dX7_goesTo_5 : decode cX7_goesTo 5 = .ok (.aload_n 0, 1) := by decide +kernel
theorem dX7_goesTo_6 : decode cX7_goesTo 6 = .ok (.getfield 111, 3) := by decide +kernel
theorem dX7_goesTo_9 : decode cX7_goesTo 9 = .ok (.if_icmp .ge 44, 3) := by decide +kernel
theorem dX7_goesTo_12 : decode cX7_goesTo 12 = .ok (.aload_n 0, 1) := by decide +kernel
theorem dX7_goesTo_13 : decode cX7_goesTo 13 = .ok (.getfield 47, 3) := by decide +kernel
theorem dX7_goesTo_16 : decode cX7_goesTo 16 = .ok (.iload 4, 2) := by decide +kernel
theorem dX7_goesTo_18 : decode cX7_goesTo 18 = .ok (.dup2, 1) := by decide +kernel
theorem dX7_goesTo_19 : decode cX7_goesTo 19 = .ok (.laload, 1) := by decide +kernel
theorem dX7_goesTo_20 : decode cX7_goesTo 20 = .ok (.iload_n 2, 1) := by decide +kernel
theorem dX7_goesTo_21 : decode cX7_goesTo 21 = .ok (.iload 4, 2) := by decide +kernel
theorem dX7_goesTo_23 : decode cX7_goesTo 23 = .ok (.invokestatic 132, 3) := by decide +kernel
theorem dX7_goesTo_26 : decode cX7_goesTo 26 = .ok (.ifCond .eq 18, 3) := by decide +kernel
theorem dX7_goesTo_29 : decode cX7_goesTo 29 = .ok (.aload_n 0, 1) := by decide +kernel
theorem dX7_goesTo_30 : decode cX7_goesTo 30 = .ok (.getfield 43, 3) := by decide +kernel
theorem dX7_goesTo_33 : decode cX7_goesTo 33 = .ok (.iload_n 1, 1) := by decide +kernel
theorem dX7_goesTo_34 : decode cX7_goesTo 34 = .ok (.laload, 1) := by decide +kernel
theorem dX7_goesTo_35 : decode cX7_goesTo 35 = .ok (.bipush 60, 2) := by decide +kernel
theorem dX7_goesTo_37 : decode cX7_goesTo 37 = .ok (.iload_n 3, 1) := by decide +kernel
theorem dX7_goesTo_38 : decode cX7_goesTo 38 = .ok (.idiv, 1) := by decide +kernel
theorem dX7_goesTo_39 : decode cX7_goesTo 39 = .ok (.i2l, 1) := by decide +kernel
theorem dX7_goesTo_40 : decode cX7_goesTo 40 = .ok (.lmul, 1) := by decide +kernel
theorem dX7_goesTo_41 : decode cX7_goesTo 41 = .ok (.goto 4, 3) := by decide +kernel
theorem dX7_goesTo_44 : decode cX7_goesTo 44 = .ok (.lconst 0, 1) := by decide +kernel
theorem dX7_goesTo_45 : decode cX7_goesTo 45 = .ok (.ladd, 1) := by decide +kernel
theorem dX7_goesTo_46 : decode cX7_goesTo 46 = .ok (.lastore, 1) := by decide +kernel
theorem dX7_goesTo_47 : decode cX7_goesTo 47 = .ok (.iinc 4 1, 3) := by decide +kernel
theorem dX7_goesTo_50 : decode cX7_goesTo 50 = .ok (.goto (-47), 3) := by decide +kernel
theorem dX7_goesTo_53 : decode cX7_goesTo 53 = .ok (.return_, 1) := by decide +kernel
theorem dX7_layChances_0 : decode cX7_layChances 0 = .ok (.aload_n 0, 1) := by decide +kernel
theorem dX7_layChances_1 : decode cX7_layChances 1 = .ok (.iconst 1, 1) := by decide +kernel
theorem dX7_layChances_2 : decode cX7_layChances 2 = .ok (.invokevirtual 148, 3) := by decide +kernel
theorem dX7_layChances_5 : decode cX7_layChances 5 = .ok (.istore_n 2, 1) := by decide +kernel
theorem dX7_layChances_6 : decode cX7_layChances 6 = .ok (.aload_n 0, 1) := by decide +kernel
theorem dX7_layChances_7 : decode cX7_layChances 7 = .ok (.iload_n 2, 1) := by decide +kernel
theorem dX7_layChances_8 : decode cX7_layChances 8 = .ok (.invokestatic 71, 3) := by decide +kernel
theorem dX7_layChances_11 : decode cX7_layChances 11 = .ok (.i2l, 1) := by decide +kernel
theorem dX7_layChances_12 : decode cX7_layChances 12 = .ok (.putfield 240, 3) := by decide +kernel
theorem dX7_layChances_15 : decode cX7_layChances 15 = .ok (.iconst 0, 1) := by decide +kernel
theorem dX7_layChances_16 : decode cX7_layChances 16 = .ok (.istore_n 3, 1) := by decide +kernel
theorem dX7_layChances_17 : decode cX7_layChances 17 = .ok (.iload_n 3, 1) := by decide +kernel
theorem dX7_layChances_18 : decode cX7_layChances 18 = .ok (.aload_n 0, 1) := by decide +kernel
theorem dX7_layChances_19 : decode cX7_layChances 19 = .ok (.getfield 111, 3) := by decide +kernel
theorem dX7_layChances_22 : decode cX7_layChances 22 = .ok (.if_icmp .ge 28, 3) := by decide +kernel
theorem dX7_layChances_25 : decode cX7_layChances 25 = .ok (.aload_n 0, 1) := by decide +kernel
theorem dX7_layChances_26 : decode cX7_layChances 26 = .ok (.getfield 43, 3) := by decide +kernel
theorem dX7_layChances_29 : decode cX7_layChances 29 = .ok (.iload_n 3, 1) := by decide +kernel
theorem dX7_layChances_30 : decode cX7_layChances 30 = .ok (.iload_n 2, 1) := by decide +kernel
theorem dX7_layChances_31 : decode cX7_layChances 31 = .ok (.iload_n 3, 1) := by decide +kernel
theorem dX7_layChances_32 : decode cX7_layChances 32 = .ok (.invokestatic 132, 3) := by decide +kernel
theorem dX7_layChances_35 : decode cX7_layChances 35 = .ok (.ifCond .eq 7, 3) := by decide +kernel
theorem dX7_layChances_38 : decode cX7_layChances 38 = .ok (.lconst 1, 1) := by decide +kernel
theorem dX7_layChances_39 : decode cX7_layChances 39 = .ok (.goto 4, 3) := by decide +kernel
theorem dX7_layChances_42 : decode cX7_layChances 42 = .ok (.lconst 0, 1) := by decide +kernel
theorem dX7_layChances_43 : decode cX7_layChances 43 = .ok (.lastore, 1) := by decide +kernel
theorem dX7_layChances_44 : decode cX7_layChances 44 = .ok (.iinc 3 1, 3) := by decide +kernel
theorem dX7_layChances_47 : decode cX7_layChances 47 = .ok (.goto (-30), 3) := by decide +kernel
theorem dX7_layChances_50 : decode cX7_layChances 50 = .ok (.iconst 0, 1) := by decide +kernel
theorem dX7_layChances_51 : decode cX7_layChances 51 = .ok (.istore_n 3, 1) := by decide +kernel
theorem dX7_layChances_52 : decode cX7_layChances 52 = .ok (.iload_n 3, 1) := by decide +kernel
theorem dX7_layChances_53 : decode cX7_layChances 53 = .ok (.iload_n 1, 1) := by decide +kernel
theorem dX7_layChances_54 : decode cX7_layChances 54 = .ok (.if_icmp .ge 133, 3) := by decide +kernel
theorem dX7_layChances_57 : decode cX7_layChances 57 = .ok (.iconst 0, 1) := by decide +kernel
theorem dX7_layChances_58 : decode cX7_layChances 58 = .ok (.istore 4, 2) := by decide +kernel
theorem dX7_layChances_60 : decode cX7_layChances 60 = .ok (.iload 4, 2) := by decide +kernel
theorem dX7_layChances_62 : decode cX7_layChances 62 = .ok (.aload_n 0, 1) := by decide +kernel
theorem dX7_layChances_63 : decode cX7_layChances 63 = .ok (.getfield 111, 3) := by decide +kernel
theorem dX7_layChances_66 : decode cX7_layChances 66 = .ok (.if_icmp .ge 17, 3) := by decide +kernel
theorem dX7_layChances_69 : decode cX7_layChances 69 = .ok (.aload_n 0, 1) := by decide +kernel
theorem dX7_layChances_70 : decode cX7_layChances 70 = .ok (.getfield 47, 3) := by decide +kernel
theorem dX7_layChances_73 : decode cX7_layChances 73 = .ok (.iload 4, 2) := by decide +kernel
theorem dX7_layChances_75 : decode cX7_layChances 75 = .ok (.lconst 0, 1) := by decide +kernel
theorem dX7_layChances_76 : decode cX7_layChances 76 = .ok (.lastore, 1) := by decide +kernel
theorem dX7_layChances_77 : decode cX7_layChances 77 = .ok (.iinc 4 1, 3) := by decide +kernel
theorem dX7_layChances_80 : decode cX7_layChances 80 = .ok (.goto (-20), 3) := by decide +kernel
theorem dX7_layChances_83 : decode cX7_layChances 83 = .ok (.iconst 0, 1) := by decide +kernel
theorem dX7_layChances_84 : decode cX7_layChances 84 = .ok (.istore 4, 2) := by decide +kernel
theorem dX7_layChances_86 : decode cX7_layChances 86 = .ok (.iload 4, 2) := by decide +kernel
theorem dX7_layChances_88 : decode cX7_layChances 88 = .ok (.aload_n 0, 1) := by decide +kernel
theorem dX7_layChances_89 : decode cX7_layChances 89 = .ok (.getfield 111, 3) := by decide +kernel
theorem dX7_layChances_92 : decode cX7_layChances 92 = .ok (.if_icmp .ge 45, 3) := by decide +kernel
theorem dX7_layChances_95 : decode cX7_layChances 95 = .ok (.aload_n 0, 1) := by decide +kernel
theorem dX7_layChances_96 : decode cX7_layChances 96 = .ok (.getfield 13, 3) := by decide +kernel
theorem dX7_layChances_99 : decode cX7_layChances 99 = .ok (.iload 4, 2) := by decide +kernel
theorem dX7_layChances_101 : decode cX7_layChances 101 = .ok (.iaload, 1) := by decide +kernel
theorem dX7_layChances_102 : decode cX7_layChances 102 = .ok (.ifCond .ne 7, 3) := by decide +kernel
theorem dX7_layChances_105 : decode cX7_layChances 105 = .ok (.iload_n 2, 1) := by decide +kernel
theorem dX7_layChances_106 : decode cX7_layChances 106 = .ok (.goto 10, 3) := by decide +kernel
theorem dX7_layChances_109 : decode cX7_layChances 109 = .ok (.aload_n 0, 1) := by decide +kernel
theorem dX7_layChances_110 : decode cX7_layChances 110 = .ok (.getfield 13, 3) := by decide +kernel
theorem dX7_layChances_113 : decode cX7_layChances 113 = .ok (.iload 4, 2) := by decide +kernel
theorem dX7_layChances_115 : decode cX7_layChances 115 = .ok (.iaload, 1) := by decide +kernel
theorem dX7_layChances_116 : decode cX7_layChances 116 = .ok (.istore 5, 2) := by decide +kernel
theorem dX7_layChances_118 : decode cX7_layChances 118 = .ok (.aload_n 0, 1) := by decide +kernel
theorem dX7_layChances_119 : decode cX7_layChances 119 = .ok (.iload 4, 2) := by decide +kernel
theorem dX7_layChances_121 : decode cX7_layChances 121 = .ok (.iload 5, 2) := by decide +kernel
theorem dX7_layChances_123 : decode cX7_layChances 123 = .ok (.iload 5, 2) := by decide +kernel
theorem dX7_layChances_125 : decode cX7_layChances 125 = .ok (.invokestatic 71, 3) := by decide +kernel
theorem dX7_layChances_128 : decode cX7_layChances 128 = .ok (.invokevirtual 244, 3) := by decide +kernel
theorem dX7_layChances_131 : decode cX7_layChances 131 = .ok (.iinc 4 1, 3) := by decide +kernel
theorem dX7_layChances_134 : decode cX7_layChances 134 = .ok (.goto (-48), 3) := by decide +kernel
theorem dX7_layChances_137 : decode cX7_layChances 137 = .ok (.iconst 0, 1) := by decide +kernel
theorem dX7_layChances_138 : decode cX7_layChances 138 = .ok (.istore 4, 2) := by decide +kernel
theorem dX7_layChances_140 : decode cX7_layChances 140 = .ok (.iload 4, 2) := by decide +kernel
theorem dX7_layChances_142 : decode cX7_layChances 142 = .ok (.aload_n 0, 1) := by decide +kernel
theorem dX7_layChances_143 : decode cX7_layChances 143 = .ok (.getfield 111, 3) := by decide +kernel
theorem dX7_layChances_146 : decode cX7_layChances 146 = .ok (.if_icmp .ge 23, 3) := by decide +kernel
theorem dX7_layChances_149 : decode cX7_layChances 149 = .ok (.aload_n 0, 1) := by decide +kernel
theorem dX7_layChances_150 : decode cX7_layChances 150 = .ok (.getfield 43, 3) := by decide +kernel
theorem dX7_layChances_153 : decode cX7_layChances 153 = .ok (.iload 4, 2) := by decide +kernel
theorem dX7_layChances_155 : decode cX7_layChances 155 = .ok (.aload_n 0, 1) := by decide +kernel
theorem dX7_layChances_156 : decode cX7_layChances 156 = .ok (.getfield 47, 3) := by decide +kernel
theorem dX7_layChances_159 : decode cX7_layChances 159 = .ok (.iload 4, 2) := by decide +kernel
theorem dX7_layChances_161 : decode cX7_layChances 161 = .ok (.laload, 1) := by decide +kernel
theorem dX7_layChances_162 : decode cX7_layChances 162 = .ok (.lastore, 1) := by decide +kernel
theorem dX7_layChances_163 : decode cX7_layChances 163 = .ok (.iinc 4 1, 3) := by decide +kernel
theorem dX7_layChances_166 : decode cX7_layChances 166 = .ok (.goto (-26), 3) := by decide +kernel
theorem dX7_layChances_169 : decode cX7_layChances 169 = .ok (.aload_n 0, 1) := by decide +kernel
theorem dX7_layChances_170 : decode cX7_layChances 170 = .ok (.dup, 1) := by decide +kernel
theorem dX7_layChances_171 : decode cX7_layChances 171 = .ok (.getfield 240, 3) := by decide +kernel
theorem dX7_layChances_174 : decode cX7_layChances 174 = .ok (.ldc2_w 248, 3) := by decide +kernel
theorem dX7_layChances_177 : decode cX7_layChances 177 = .ok (.lmul, 1) := by decide +kernel
theorem dX7_layChances_178 : decode cX7_layChances 178 = .ok (.putfield 240, 3) := by decide +kernel
theorem dX7_layChances_181 : decode cX7_layChances 181 = .ok (.iinc 3 1, 3) := by decide +kernel
theorem dX7_layChances_184 : decode cX7_layChances 184 = .ok (.goto (-132), 3) := by decide +kernel
theorem dX7_layChances_187 : decode cX7_layChances 187 = .ok (.return_, 1) := by decide +kernel
theorem dX7_common_0 : decode cX7_common 0 = .ok (.lload_n 0, 1) := by decide +kernel
theorem dX7_common_1 : decode cX7_common 1 = .ok (.lstore 4, 2) := by decide +kernel
theorem dX7_common_3 : decode cX7_common 3 = .ok (.lload_n 2, 1) := by decide +kernel
theorem dX7_common_4 : decode cX7_common 4 = .ok (.lstore 6, 2) := by decide +kernel
theorem dX7_common_6 : decode cX7_common 6 = .ok (.lload 6, 2) := by decide +kernel
theorem dX7_common_8 : decode cX7_common 8 = .ok (.lconst 0, 1) := by decide +kernel
theorem dX7_common_9 : decode cX7_common 9 = .ok (.lcmp, 1) := by decide +kernel
theorem dX7_common_10 : decode cX7_common 10 = .ok (.ifCond .eq 21, 3) := by decide +kernel
theorem dX7_common_13 : decode cX7_common 13 = .ok (.lload 4, 2) := by decide +kernel
theorem dX7_common_15 : decode cX7_common 15 = .ok (.lload 6, 2) := by decide +kernel
theorem dX7_common_17 : decode cX7_common 17 = .ok (.lrem, 1) := by decide +kernel
theorem dX7_common_18 : decode cX7_common 18 = .ok (.lstore 8, 2) := by decide +kernel
theorem dX7_common_20 : decode cX7_common 20 = .ok (.lload 6, 2) := by decide +kernel
theorem dX7_common_22 : decode cX7_common 22 = .ok (.lstore 4, 2) := by decide +kernel
theorem dX7_common_24 : decode cX7_common 24 = .ok (.lload 8, 2) := by decide +kernel
theorem dX7_common_26 : decode cX7_common 26 = .ok (.lstore 6, 2) := by decide +kernel
theorem dX7_common_28 : decode cX7_common 28 = .ok (.goto (-22), 3) := by decide +kernel
theorem dX7_common_31 : decode cX7_common 31 = .ok (.lload 4, 2) := by decide +kernel
theorem dX7_common_33 : decode cX7_common 33 = .ok (.lreturn, 1) := by decide +kernel
theorem dX7_chanceNow_0 : decode cX7_chanceNow 0 = .ok (.aload_n 0, 1) := by decide +kernel
theorem dX7_chanceNow_1 : decode cX7_chanceNow 1 = .ok (.iload_n 2, 1) := by decide +kernel
theorem dX7_chanceNow_2 : decode cX7_chanceNow 2 = .ok (.invokevirtual 250, 3) := by decide +kernel
theorem dX7_chanceNow_5 : decode cX7_chanceNow 5 = .ok (.aload_n 0, 1) := by decide +kernel
theorem dX7_chanceNow_6 : decode cX7_chanceNow 6 = .ok (.getfield 43, 3) := by decide +kernel
theorem dX7_chanceNow_9 : decode cX7_chanceNow 9 = .ok (.iload_n 1, 1) := by decide +kernel
theorem dX7_chanceNow_10 : decode cX7_chanceNow 10 = .ok (.laload, 1) := by decide +kernel
theorem dX7_chanceNow_11 : decode cX7_chanceNow 11 = .ok (.aload_n 0, 1) := by decide +kernel
theorem dX7_chanceNow_12 : decode cX7_chanceNow 12 = .ok (.getfield 240, 3) := by decide +kernel
theorem dX7_chanceNow_15 : decode cX7_chanceNow 15 = .ok (.invokestatic 253, 3) := by decide +kernel
theorem dX7_chanceNow_18 : decode cX7_chanceNow 18 = .ok (.lstore 4, 2) := by decide +kernel
theorem dX7_chanceNow_20 : decode cX7_chanceNow 20 = .ok (.iload_n 3, 1) := by decide +kernel
theorem dX7_chanceNow_21 : decode cX7_chanceNow 21 = .ok (.ifCond .ne 12, 3) := by decide +kernel
theorem dX7_chanceNow_24 : decode cX7_chanceNow 24 = .ok (.aload_n 0, 1) := by decide +kernel
theorem dX7_chanceNow_25 : decode cX7_chanceNow 25 = .ok (.getfield 43, 3) := by decide +kernel
theorem dX7_chanceNow_28 : decode cX7_chanceNow 28 = .ok (.iload_n 1, 1) := by decide +kernel
theorem dX7_chanceNow_29 : decode cX7_chanceNow 29 = .ok (.laload, 1) := by decide +kernel
theorem dX7_chanceNow_30 : decode cX7_chanceNow 30 = .ok (.goto 7, 3) := by decide +kernel
theorem dX7_chanceNow_33 : decode cX7_chanceNow 33 = .ok (.aload_n 0, 1) := by decide +kernel
theorem dX7_chanceNow_34 : decode cX7_chanceNow 34 = .ok (.getfield 240, 3) := by decide +kernel
theorem dX7_chanceNow_37 : decode cX7_chanceNow 37 = .ok (.lload 4, 2) := by decide +kernel
theorem dX7_chanceNow_39 : decode cX7_chanceNow 39 = .ok (.ldiv, 1) := by decide +kernel
theorem dX7_chanceNow_40 : decode cX7_chanceNow 40 = .ok (.l2i, 1) := by decide +kernel
theorem dX7_chanceNow_41 : decode cX7_chanceNow 41 = .ok (.ireturn, 1) := by decide +kernel
theorem dX7_areSeeds_0 : decode cX7_areSeeds 0 = .ok (.aload_n 0, 1) := by decide +kernel
theorem dX7_areSeeds_1 : decode cX7_areSeeds 1 = .ok (.iconst 1, 1) := by decide +kernel
theorem dX7_areSeeds_2 : decode cX7_areSeeds 2 = .ok (.invokevirtual 148, 3) := by decide +kernel
theorem dX7_areSeeds_5 : decode cX7_areSeeds 5 = .ok (.ifCond .eq 7, 3) := by decide +kernel
theorem dX7_areSeeds_8 : decode cX7_areSeeds 8 = .ok (.iconst 1, 1) := by decide +kernel
theorem dX7_areSeeds_9 : decode cX7_areSeeds 9 = .ok (.goto 4, 3) := by decide +kernel
theorem dX7_areSeeds_12 : decode cX7_areSeeds 12 = .ok (.iconst 0, 1) := by decide +kernel
theorem dX7_areSeeds_13 : decode cX7_areSeeds 13 = .ok (.ireturn, 1) := by decide +kernel
theorem dX7_chance_0 : decode cX7_chance 0 = .ok (.aload_n 0, 1) := by decide +kernel
theorem dX7_chance_1 : decode cX7_chance 1 = .ok (.iload_n 1, 1) := by decide +kernel
theorem dX7_chance_2 : decode cX7_chance 2 = .ok (.invokevirtual 145, 3) := by decide +kernel
theorem dX7_chance_5 : decode cX7_chance 5 = .ok (.ifCond .ne 6, 3) := by decide +kernel
theorem dX7_chance_8 : decode cX7_chance 8 = .ok (.bipush (-101), 2) := by decide +kernel
theorem dX7_chance_10 : decode cX7_chance 10 = .ok (.ireturn, 1) := by decide +kernel
theorem dX7_chance_11 : decode cX7_chance 11 = .ok (.iload_n 2, 1) := by decide +kernel
theorem dX7_chance_12 : decode cX7_chance 12 = .ok (.iconst 0, 1) := by decide +kernel
theorem dX7_chance_13 : decode cX7_chance 13 = .ok (.iconst 4, 1) := by decide +kernel
theorem dX7_chance_14 : decode cX7_chance 14 = .ok (.invokestatic 50, 3) := by decide +kernel
theorem dX7_chance_17 : decode cX7_chance 17 = .ok (.ifCond .eq 12, 3) := by decide +kernel
theorem dX7_chance_20 : decode cX7_chance 20 = .ok (.iload_n 3, 1) := by decide +kernel
theorem dX7_chance_21 : decode cX7_chance 21 = .ok (.iconst 0, 1) := by decide +kernel
theorem dX7_chance_22 : decode cX7_chance 22 = .ok (.iconst 1, 1) := by decide +kernel
theorem dX7_chance_23 : decode cX7_chance 23 = .ok (.invokestatic 50, 3) := by decide +kernel
theorem dX7_chance_26 : decode cX7_chance 26 = .ok (.ifCond .ne 6, 3) := by decide +kernel
theorem dX7_chance_29 : decode cX7_chance 29 = .ok (.bipush (-102), 2) := by decide +kernel
theorem dX7_chance_31 : decode cX7_chance 31 = .ok (.ireturn, 1) := by decide +kernel
theorem dX7_chance_32 : decode cX7_chance 32 = .ok (.aload_n 0, 1) := by decide +kernel
theorem dX7_chance_33 : decode cX7_chance 33 = .ok (.invokevirtual 257, 3) := by decide +kernel
theorem dX7_chance_36 : decode cX7_chance 36 = .ok (.ifCond .eq 13, 3) := by decide +kernel
theorem dX7_chance_39 : decode cX7_chance 39 = .ok (.aload_n 0, 1) := by decide +kernel
theorem dX7_chance_40 : decode cX7_chance 40 = .ok (.iload_n 1, 1) := by decide +kernel
theorem dX7_chance_41 : decode cX7_chance 41 = .ok (.iload_n 2, 1) := by decide +kernel
theorem dX7_chance_42 : decode cX7_chance 42 = .ok (.iload_n 3, 1) := by decide +kernel
theorem dX7_chance_43 : decode cX7_chance 43 = .ok (.invokevirtual 260, 3) := by decide +kernel
theorem dX7_chance_46 : decode cX7_chance 46 = .ok (.goto 5, 3) := by decide +kernel
theorem dX7_chance_49 : decode cX7_chance 49 = .ok (.bipush (-103), 2) := by decide +kernel
theorem dX7_chance_51 : decode cX7_chance 51 = .ok (.ireturn, 1) := by decide +kernel
theorem dX7_thousandthsNow_0 : decode cX7_thousandthsNow 0 = .ok (.aload_n 0, 1) := by decide +kernel
theorem dX7_thousandthsNow_1 : decode cX7_thousandthsNow 1 = .ok (.iload_n 2, 1) := by decide +kernel
theorem dX7_thousandthsNow_2 : decode cX7_thousandthsNow 2 = .ok (.invokevirtual 250, 3) := by decide +kernel
theorem dX7_thousandthsNow_5 : decode cX7_thousandthsNow 5 = .ok (.ldc2_w 263, 3) := by decide +kernel
theorem dX7_thousandthsNow_8 : decode cX7_thousandthsNow 8 = .ok (.aload_n 0, 1) := by decide +kernel
theorem dX7_thousandthsNow_9 : decode cX7_thousandthsNow 9 = .ok (.getfield 43, 3) := by decide +kernel
theorem dX7_thousandthsNow_12 : decode cX7_thousandthsNow 12 = .ok (.iload_n 1, 1) := by decide +kernel
theorem dX7_thousandthsNow_13 : decode cX7_thousandthsNow 13 = .ok (.laload, 1) := by decide +kernel
theorem dX7_thousandthsNow_14 : decode cX7_thousandthsNow 14 = .ok (.lmul, 1) := by decide +kernel
theorem dX7_thousandthsNow_15 : decode cX7_thousandthsNow 15 = .ok (.aload_n 0, 1) := by decide +kernel
theorem dX7_thousandthsNow_16 : decode cX7_thousandthsNow 16 = .ok (.getfield 240, 3) := by decide +kernel
theorem dX7_thousandthsNow_19 : decode cX7_thousandthsNow 19 = .ok (.ldiv, 1) := by decide +kernel
theorem dX7_thousandthsNow_20 : decode cX7_thousandthsNow 20 = .ok (.l2i, 1) := by decide +kernel
theorem dX7_thousandthsNow_21 : decode cX7_thousandthsNow 21 = .ok (.ireturn, 1) := by decide +kernel
theorem dX7_thousandths_0 : decode cX7_thousandths 0 = .ok (.aload_n 0, 1) := by decide +kernel
theorem dX7_thousandths_1 : decode cX7_thousandths 1 = .ok (.iload_n 1, 1) := by decide +kernel
theorem dX7_thousandths_2 : decode cX7_thousandths 2 = .ok (.invokevirtual 145, 3) := by decide +kernel
theorem dX7_thousandths_5 : decode cX7_thousandths 5 = .ok (.ifCond .ne 6, 3) := by decide +kernel
theorem dX7_thousandths_8 : decode cX7_thousandths 8 = .ok (.bipush (-101), 2) := by decide +kernel
theorem dX7_thousandths_10 : decode cX7_thousandths 10 = .ok (.ireturn, 1) := by decide +kernel
theorem dX7_thousandths_11 : decode cX7_thousandths 11 = .ok (.iload_n 2, 1) := by decide +kernel
theorem dX7_thousandths_12 : decode cX7_thousandths 12 = .ok (.iconst 0, 1) := by decide +kernel
theorem dX7_thousandths_13 : decode cX7_thousandths 13 = .ok (.iconst 4, 1) := by decide +kernel
theorem dX7_thousandths_14 : decode cX7_thousandths 14 = .ok (.invokestatic 50, 3) := by decide +kernel
theorem dX7_thousandths_17 : decode cX7_thousandths 17 = .ok (.ifCond .ne 6, 3) := by decide +kernel
theorem dX7_thousandths_20 : decode cX7_thousandths 20 = .ok (.bipush (-102), 2) := by decide +kernel
theorem dX7_thousandths_22 : decode cX7_thousandths 22 = .ok (.ireturn, 1) := by decide +kernel
theorem dX7_thousandths_23 : decode cX7_thousandths 23 = .ok (.aload_n 0, 1) := by decide +kernel
theorem dX7_thousandths_24 : decode cX7_thousandths 24 = .ok (.invokevirtual 257, 3) := by decide +kernel
theorem dX7_thousandths_27 : decode cX7_thousandths 27 = .ok (.ifCond .eq 12, 3) := by decide +kernel
theorem dX7_thousandths_30 : decode cX7_thousandths 30 = .ok (.aload_n 0, 1) := by decide +kernel
theorem dX7_thousandths_31 : decode cX7_thousandths 31 = .ok (.iload_n 1, 1) := by decide +kernel
theorem dX7_thousandths_32 : decode cX7_thousandths 32 = .ok (.iload_n 2, 1) := by decide +kernel
theorem dX7_thousandths_33 : decode cX7_thousandths 33 = .ok (.invokevirtual 265, 3) := by decide +kernel
theorem dX7_thousandths_36 : decode cX7_thousandths 36 = .ok (.goto 5, 3) := by decide +kernel
theorem dX7_thousandths_39 : decode cX7_thousandths 39 = .ok (.bipush (-103), 2) := by decide +kernel
theorem dX7_thousandths_41 : decode cX7_thousandths 41 = .ok (.ireturn, 1) := by decide +kernel
theorem dX7_placeOf_0 : decode cX7_placeOf 0 = .ok (.iconst 0, 1) := by decide +kernel
theorem dX7_placeOf_1 : decode cX7_placeOf 1 = .ok (.istore_n 2, 1) := by decide +kernel
theorem dX7_placeOf_2 : decode cX7_placeOf 2 = .ok (.iconst 0, 1) := by decide +kernel
theorem dX7_placeOf_3 : decode cX7_placeOf 3 = .ok (.istore_n 3, 1) := by decide +kernel
theorem dX7_placeOf_4 : decode cX7_placeOf 4 = .ok (.iload_n 3, 1) := by decide +kernel
theorem dX7_placeOf_5 : decode cX7_placeOf 5 = .ok (.aload_n 0, 1) := by decide +kernel
theorem dX7_placeOf_6 : decode cX7_placeOf 6 = .ok (.getfield 111, 3) := by decide +kernel
theorem dX7_placeOf_9 : decode cX7_placeOf 9 = .ok (.if_icmp .ge 66, 3) := by decide +kernel
theorem dX7_placeOf_12 : decode cX7_placeOf 12 = .ok (.aload_n 0, 1) := by decide +kernel
theorem dX7_placeOf_13 : decode cX7_placeOf 13 = .ok (.getfield 43, 3) := by decide +kernel
theorem dX7_placeOf_16 : decode cX7_placeOf 16 = .ok (.iload_n 3, 1) := by decide +kernel
theorem dX7_placeOf_17 : decode cX7_placeOf 17 = .ok (.laload, 1) := by decide +kernel
theorem dX7_placeOf_18 : decode cX7_placeOf 18 = .ok (.aload_n 0, 1) := by decide +kernel
theorem dX7_placeOf_19 : decode cX7_placeOf 19 = .ok (.getfield 43, 3) := by decide +kernel
theorem dX7_placeOf_22 : decode cX7_placeOf 22 = .ok (.iload_n 1, 1) := by decide +kernel
theorem dX7_placeOf_23 : decode cX7_placeOf 23 = .ok (.laload, 1) := by decide +kernel
theorem dX7_placeOf_24 : decode cX7_placeOf 24 = .ok (.lcmp, 1) := by decide +kernel
theorem dX7_placeOf_25 : decode cX7_placeOf 25 = .ok (.ifCond .gt 24, 3) := by decide +kernel
theorem dX7_placeOf_28 : decode cX7_placeOf 28 = .ok (.aload_n 0, 1) := by decide +kernel
theorem dX7_placeOf_29 : decode cX7_placeOf 29 = .ok (.getfield 43, 3) := by decide +kernel
theorem dX7_placeOf_32 : decode cX7_placeOf 32 = .ok (.iload_n 3, 1) := by decide +kernel
theorem dX7_placeOf_33 : decode cX7_placeOf 33 = .ok (.laload, 1) := by decide +kernel
theorem dX7_placeOf_34 : decode cX7_placeOf 34 = .ok (.aload_n 0, 1) := by decide +kernel
theorem dX7_placeOf_35 : decode cX7_placeOf 35 = .ok (.getfield 43, 3) := by decide +kernel
theorem dX7_placeOf_38 : decode cX7_placeOf 38 = .ok (.iload_n 1, 1) := by decide +kernel
theorem dX7_placeOf_39 : decode cX7_placeOf 39 = .ok (.laload, 1) := by decide +kernel
theorem dX7_placeOf_40 : decode cX7_placeOf 40 = .ok (.lcmp, 1) := by decide +kernel
theorem dX7_placeOf_41 : decode cX7_placeOf 41 = .ok (.ifCond .ne 12, 3) := by decide +kernel
theorem dX7_placeOf_44 : decode cX7_placeOf 44 = .ok (.iload_n 3, 1) := by decide +kernel
theorem dX7_placeOf_45 : decode cX7_placeOf 45 = .ok (.iload_n 1, 1) := by decide +kernel
theorem dX7_placeOf_46 : decode cX7_placeOf 46 = .ok (.if_icmp .ge 7, 3) := by decide +kernel
theorem dX7_placeOf_49 : decode cX7_placeOf 49 = .ok (.iconst 1, 1) := by decide +kernel
theorem dX7_placeOf_50 : decode cX7_placeOf 50 = .ok (.goto 4, 3) := by decide +kernel
theorem dX7_placeOf_53 : decode cX7_placeOf 53 = .ok (.iconst 0, 1) := by decide +kernel
theorem dX7_placeOf_54 : decode cX7_placeOf 54 = .ok (.istore 4, 2) := by decide +kernel
theorem dX7_placeOf_56 : decode cX7_placeOf 56 = .ok (.iload_n 2, 1) := by decide +kernel
theorem dX7_placeOf_57 : decode cX7_placeOf 57 = .ok (.iload 4, 2) := by decide +kernel
theorem dX7_placeOf_59 : decode cX7_placeOf 59 = .ok (.ifCond .eq 7, 3) := by decide +kernel
theorem dX7_placeOf_62 : decode cX7_placeOf 62 = .ok (.iconst 1, 1) := by decide +kernel
theorem dX7_placeOf_63 : decode cX7_placeOf 63 = .ok (.goto 4, 3) := by decide +kernel
theorem dX7_placeOf_66 : decode cX7_placeOf 66 = .ok (.iconst 0, 1) := by decide +kernel
theorem dX7_placeOf_67 : decode cX7_placeOf 67 = .ok (.iadd, 1) := by decide +kernel
theorem dX7_placeOf_68 : decode cX7_placeOf 68 = .ok (.istore_n 2, 1) := by decide +kernel
theorem dX7_placeOf_69 : decode cX7_placeOf 69 = .ok (.iinc 3 1, 3) := by decide +kernel
theorem dX7_placeOf_72 : decode cX7_placeOf 72 = .ok (.goto (-68), 3) := by decide +kernel
theorem dX7_placeOf_75 : decode cX7_placeOf 75 = .ok (.iload_n 2, 1) := by decide +kernel
theorem dX7_placeOf_76 : decode cX7_placeOf 76 = .ok (.ireturn, 1) := by decide +kernel
theorem dX7_orderNow_0 : decode cX7_orderNow 0 = .ok (.aload_n 0, 1) := by decide +kernel
theorem dX7_orderNow_1 : decode cX7_orderNow 1 = .ok (.iload_n 1, 1) := by decide +kernel
theorem dX7_orderNow_2 : decode cX7_orderNow 2 = .ok (.invokevirtual 250, 3) := by decide +kernel
theorem dX7_orderNow_5 : decode cX7_orderNow 5 = .ok (.iconst 0, 1) := by decide +kernel
theorem dX7_orderNow_6 : decode cX7_orderNow 6 = .ok (.istore_n 3, 1) := by decide +kernel
theorem dX7_orderNow_7 : decode cX7_orderNow 7 = .ok (.aload_n 0, 1) := by decide +kernel
theorem dX7_orderNow_8 : decode cX7_orderNow 8 = .ok (.iload_n 3, 1) := by decide +kernel
theorem dX7_orderNow_9 : decode cX7_orderNow 9 = .ok (.invokevirtual 268, 3) := by decide +kernel
theorem dX7_orderNow_12 : decode cX7_orderNow 12 = .ok (.iload_n 2, 1) := by decide +kernel
theorem dX7_orderNow_13 : decode cX7_orderNow 13 = .ok (.if_icmp .eq 9, 3) := by decide +kernel
theorem dX7_orderNow_16 : decode cX7_orderNow 16 = .ok (.iinc 3 1, 3) := by decide +kernel
theorem dX7_orderNow_19 : decode cX7_orderNow 19 = .ok (.goto (-12), 3) := by decide +kernel
theorem dX7_orderNow_22 : decode cX7_orderNow 22 = .ok (.iload_n 3, 1) := by decide +kernel
theorem dX7_orderNow_23 : decode cX7_orderNow 23 = .ok (.ireturn, 1) := by decide +kernel
theorem dX7_order_0 : decode cX7_order 0 = .ok (.iload_n 1, 1) := by decide +kernel
theorem dX7_order_1 : decode cX7_order 1 = .ok (.iconst 0, 1) := by decide +kernel
theorem dX7_order_2 : decode cX7_order 2 = .ok (.iconst 4, 1) := by decide +kernel
theorem dX7_order_3 : decode cX7_order 3 = .ok (.invokestatic 50, 3) := by decide +kernel
theorem dX7_order_6 : decode cX7_order 6 = .ok (.ifCond .ne 6, 3) := by decide +kernel
theorem dX7_order_9 : decode cX7_order 9 = .ok (.bipush (-102), 2) := by decide +kernel
theorem dX7_order_11 : decode cX7_order 11 = .ok (.ireturn, 1) := by decide +kernel
theorem dX7_order_12 : decode cX7_order 12 = .ok (.aload_n 0, 1) := by decide +kernel
theorem dX7_order_13 : decode cX7_order 13 = .ok (.invokevirtual 139, 3) := by decide +kernel
theorem dX7_order_16 : decode cX7_order 16 = .ok (.ifCond .eq 10, 3) := by decide +kernel
theorem dX7_order_19 : decode cX7_order 19 = .ok (.aload_n 0, 1) := by decide +kernel
theorem dX7_order_20 : decode cX7_order 20 = .ok (.invokevirtual 257, 3) := by decide +kernel
theorem dX7_order_23 : decode cX7_order 23 = .ok (.ifCond .ne 6, 3) := by decide +kernel
theorem dX7_order_26 : decode cX7_order 26 = .ok (.bipush (-103), 2) := by decide +kernel
theorem dX7_order_28 : decode cX7_order 28 = .ok (.ireturn, 1) := by decide +kernel
theorem dX7_order_29 : decode cX7_order 29 = .ok (.aload_n 0, 1) := by decide +kernel
theorem dX7_order_30 : decode cX7_order 30 = .ok (.iload_n 2, 1) := by decide +kernel
theorem dX7_order_31 : decode cX7_order 31 = .ok (.invokevirtual 145, 3) := by decide +kernel
theorem dX7_order_34 : decode cX7_order 34 = .ok (.ifCond .eq 12, 3) := by decide +kernel
theorem dX7_order_37 : decode cX7_order 37 = .ok (.aload_n 0, 1) := by decide +kernel
theorem dX7_order_38 : decode cX7_order 38 = .ok (.iload_n 1, 1) := by decide +kernel
theorem dX7_order_39 : decode cX7_order 39 = .ok (.iload_n 2, 1) := by decide +kernel
theorem dX7_order_40 : decode cX7_order 40 = .ok (.invokevirtual 271, 3) := by decide +kernel
theorem dX7_order_43 : decode cX7_order 43 = .ok (.goto 5, 3) := by decide +kernel
theorem dX7_order_46 : decode cX7_order 46 = .ok (.bipush (-101), 2) := by decide +kernel
theorem dX7_order_48 : decode cX7_order 48 = .ok (.ireturn, 1) := by decide +kernel
theorem dX7_howMany_0 : decode cX7_howMany 0 = .ok (.iload_n 1, 1) := by decide +kernel
theorem dX7_howMany_1 : decode cX7_howMany 1 = .ok (.tableswitch 60 0 4 #[35, 40, 45, 50, 55], 35) := by decide +kernel
theorem dX7_howMany_36 : decode cX7_howMany 36 = .ok (.aload_n 0, 1) := by decide +kernel
theorem dX7_howMany_37 : decode cX7_howMany 37 = .ok (.getfield 111, 3) := by decide +kernel
theorem dX7_howMany_40 : decode cX7_howMany 40 = .ok (.ireturn, 1) := by decide +kernel
theorem dX7_howMany_41 : decode cX7_howMany 41 = .ok (.aload_n 0, 1) := by decide +kernel
theorem dX7_howMany_42 : decode cX7_howMany 42 = .ok (.getfield 54, 3) := by decide +kernel
theorem dX7_howMany_45 : decode cX7_howMany 45 = .ok (.ireturn, 1) := by decide +kernel
theorem dX7_howMany_46 : decode cX7_howMany 46 = .ok (.aload_n 0, 1) := by decide +kernel
theorem dX7_howMany_47 : decode cX7_howMany 47 = .ok (.getfield 117, 3) := by decide +kernel
theorem dX7_howMany_50 : decode cX7_howMany 50 = .ok (.ireturn, 1) := by decide +kernel
theorem dX7_howMany_51 : decode cX7_howMany 51 = .ok (.aload_n 0, 1) := by decide +kernel
theorem dX7_howMany_52 : decode cX7_howMany 52 = .ok (.getfield 154, 3) := by decide +kernel
theorem dX7_howMany_55 : decode cX7_howMany 55 = .ok (.ireturn, 1) := by decide +kernel
theorem dX7_howMany_56 : decode cX7_howMany 56 = .ok (.aload_n 0, 1) := by decide +kernel
theorem dX7_howMany_57 : decode cX7_howMany 57 = .ok (.getfield 157, 3) := by decide +kernel
theorem dX7_howMany_60 : decode cX7_howMany 60 = .ok (.ireturn, 1) := by decide +kernel
theorem dX7_howMany_61 : decode cX7_howMany 61 = .ok (.bipush (-102), 2) := by decide +kernel
theorem dX7_howMany_63 : decode cX7_howMany 63 = .ok (.ireturn, 1) := by decide +kernel
theorem dX7_count_0 : decode cX7_count 0 = .ok (.aload_n 0, 1) := by decide +kernel
theorem dX7_count_1 : decode cX7_count 1 = .ok (.iload_n 1, 1) := by decide +kernel
theorem dX7_count_2 : decode cX7_count 2 = .ok (.invokevirtual 274, 3) := by decide +kernel
theorem dX7_count_5 : decode cX7_count 5 = .ok (.ireturn, 1) := by decide +kernel
theorem dX7_mix_0 : decode cX7_mix 0 = .ok (.aload_n 0, 1) := by decide +kernel
theorem dX7_mix_1 : decode cX7_mix 1 = .ok (.ldc2_w 277, 3) := by decide +kernel
theorem dX7_mix_4 : decode cX7_mix 4 = .ok (.aload_n 0, 1) := by decide +kernel
theorem dX7_mix_5 : decode cX7_mix 5 = .ok (.getfield 279, 3) := by decide +kernel
theorem dX7_mix_8 : decode cX7_mix 8 = .ok (.lmul, 1) := by decide +kernel
theorem dX7_mix_9 : decode cX7_mix 9 = .ok (.lload_n 1, 1) := by decide +kernel
theorem dX7_mix_10 : decode cX7_mix 10 = .ok (.ladd, 1) := by decide +kernel
theorem dX7_mix_11 : decode cX7_mix 11 = .ok (.putfield 279, 3) := by decide +kernel
theorem dX7_mix_14 : decode cX7_mix 14 = .ok (.return_, 1) := by decide +kernel
theorem dX7_mixInk_0 : decode cX7_mixInk 0 = .ok (.iconst 0, 1) := by decide +kernel
theorem dX7_mixInk_1 : decode cX7_mixInk 1 = .ok (.istore_n 1, 1) := by decide +kernel
theorem dX7_mixInk_2 : decode cX7_mixInk 2 = .ok (.aload_n 0, 1) := by decide +kernel
theorem dX7_mixInk_3 : decode cX7_mixInk 3 = .ok (.iload_n 1, 1) := by decide +kernel
theorem dX7_mixInk_4 : decode cX7_mixInk 4 = .ok (.invokevirtual 142, 3) := by decide +kernel
theorem dX7_mixInk_7 : decode cX7_mixInk 7 = .ok (.iconst (-1), 1) := by decide +kernel
theorem dX7_mixInk_8 : decode cX7_mixInk 8 = .ok (.if_icmp .eq 19, 3) := by decide +kernel
theorem dX7_mixInk_11 : decode cX7_mixInk 11 = .ok (.aload_n 0, 1) := by decide +kernel
theorem dX7_mixInk_12 : decode cX7_mixInk 12 = .ok (.aload_n 0, 1) := by decide +kernel
theorem dX7_mixInk_13 : decode cX7_mixInk 13 = .ok (.iload_n 1, 1) := by decide +kernel
theorem dX7_mixInk_14 : decode cX7_mixInk 14 = .ok (.invokevirtual 142, 3) := by decide +kernel
theorem dX7_mixInk_17 : decode cX7_mixInk 17 = .ok (.i2l, 1) := by decide +kernel
theorem dX7_mixInk_18 : decode cX7_mixInk 18 = .ok (.invokevirtual 282, 3) := by decide +kernel
theorem dX7_mixInk_21 : decode cX7_mixInk 21 = .ok (.iinc 1 1, 3) := by decide +kernel
theorem dX7_mixInk_24 : decode cX7_mixInk 24 = .ok (.goto (-22), 3) := by decide +kernel
theorem dX7_mixInk_27 : decode cX7_mixInk 27 = .ok (.return_, 1) := by decide +kernel
theorem dX7_mixPersons_0 : decode cX7_mixPersons 0 = .ok (.iconst 0, 1) := by decide +kernel
theorem dX7_mixPersons_1 : decode cX7_mixPersons 1 = .ok (.istore_n 1, 1) := by decide +kernel
theorem dX7_mixPersons_2 : decode cX7_mixPersons 2 = .ok (.iload_n 1, 1) := by decide +kernel
theorem dX7_mixPersons_3 : decode cX7_mixPersons 3 = .ok (.bipush 8, 2) := by decide +kernel
theorem dX7_mixPersons_5 : decode cX7_mixPersons 5 = .ok (.if_icmp .ge 19, 3) := by decide +kernel
theorem dX7_mixPersons_8 : decode cX7_mixPersons 8 = .ok (.aload_n 0, 1) := by decide +kernel
theorem dX7_mixPersons_9 : decode cX7_mixPersons 9 = .ok (.aload_n 0, 1) := by decide +kernel
theorem dX7_mixPersons_10 : decode cX7_mixPersons 10 = .ok (.iload_n 1, 1) := by decide +kernel
theorem dX7_mixPersons_11 : decode cX7_mixPersons 11 = .ok (.invokevirtual 184, 3) := by decide +kernel
theorem dX7_mixPersons_14 : decode cX7_mixPersons 14 = .ok (.i2l, 1) := by decide +kernel
theorem dX7_mixPersons_15 : decode cX7_mixPersons 15 = .ok (.invokevirtual 282, 3) := by decide +kernel
theorem dX7_mixPersons_18 : decode cX7_mixPersons 18 = .ok (.iinc 1 1, 3) := by decide +kernel
theorem dX7_mixPersons_21 : decode cX7_mixPersons 21 = .ok (.goto (-19), 3) := by decide +kernel
theorem dX7_mixPersons_24 : decode cX7_mixPersons 24 = .ok (.iconst 0, 1) := by decide +kernel
theorem dX7_mixPersons_25 : decode cX7_mixPersons 25 = .ok (.istore_n 1, 1) := by decide +kernel
theorem dX7_mixPersons_26 : decode cX7_mixPersons 26 = .ok (.iload_n 1, 1) := by decide +kernel
theorem dX7_mixPersons_27 : decode cX7_mixPersons 27 = .ok (.aload_n 0, 1) := by decide +kernel
theorem dX7_mixPersons_28 : decode cX7_mixPersons 28 = .ok (.getfield 111, 3) := by decide +kernel
theorem dX7_mixPersons_31 : decode cX7_mixPersons 31 = .ok (.if_icmp .ge 44, 3) := by decide +kernel
theorem dX7_mixPersons_34 : decode cX7_mixPersons 34 = .ok (.iconst 0, 1) := by decide +kernel
theorem dX7_mixPersons_35 : decode cX7_mixPersons 35 = .ok (.istore_n 2, 1) := by decide +kernel
theorem dX7_mixPersons_36 : decode cX7_mixPersons 36 = .ok (.iload_n 2, 1) := by decide +kernel
theorem dX7_mixPersons_37 : decode cX7_mixPersons 37 = .ok (.bipush 8, 2) := by decide +kernel
theorem dX7_mixPersons_39 : decode cX7_mixPersons 39 = .ok (.if_icmp .ge 20, 3) := by decide +kernel
theorem dX7_mixPersons_42 : decode cX7_mixPersons 42 = .ok (.aload_n 0, 1) := by decide +kernel
theorem dX7_mixPersons_43 : decode cX7_mixPersons 43 = .ok (.aload_n 0, 1) := by decide +kernel
theorem dX7_mixPersons_44 : decode cX7_mixPersons 44 = .ok (.iload_n 1, 1) := by decide +kernel
theorem dX7_mixPersons_45 : decode cX7_mixPersons 45 = .ok (.iload_n 2, 1) := by decide +kernel
theorem dX7_mixPersons_46 : decode cX7_mixPersons 46 = .ok (.invokevirtual 202, 3) := by decide +kernel
theorem dX7_mixPersons_49 : decode cX7_mixPersons 49 = .ok (.i2l, 1) := by decide +kernel
theorem dX7_mixPersons_50 : decode cX7_mixPersons 50 = .ok (.invokevirtual 282, 3) := by decide +kernel
theorem dX7_mixPersons_53 : decode cX7_mixPersons 53 = .ok (.iinc 2 1, 3) := by decide +kernel
theorem dX7_mixPersons_56 : decode cX7_mixPersons 56 = .ok (.goto (-20), 3) := by decide +kernel
theorem dX7_mixPersons_59 : decode cX7_mixPersons 59 = .ok (.aload_n 0, 1) := by decide +kernel
theorem dX7_mixPersons_60 : decode cX7_mixPersons 60 = .ok (.aload_n 0, 1) := by decide +kernel
theorem dX7_mixPersons_61 : decode cX7_mixPersons 61 = .ok (.iload_n 1, 1) := by decide +kernel
theorem dX7_mixPersons_62 : decode cX7_mixPersons 62 = .ok (.invokevirtual 199, 3) := by decide +kernel
theorem dX7_mixPersons_65 : decode cX7_mixPersons 65 = .ok (.i2l, 1) := by decide +kernel
theorem dX7_mixPersons_66 : decode cX7_mixPersons 66 = .ok (.invokevirtual 282, 3) := by decide +kernel
theorem dX7_mixPersons_69 : decode cX7_mixPersons 69 = .ok (.iinc 1 1, 3) := by decide +kernel
theorem dX7_mixPersons_72 : decode cX7_mixPersons 72 = .ok (.goto (-46), 3) := by decide +kernel
theorem dX7_mixPersons_75 : decode cX7_mixPersons 75 = .ok (.aload_n 0, 1) := by decide +kernel
theorem dX7_mixPersons_76 : decode cX7_mixPersons 76 = .ok (.aload_n 0, 1) := by decide +kernel
theorem dX7_mixPersons_77 : decode cX7_mixPersons 77 = .ok (.invokevirtual 206, 3) := by decide +kernel
theorem dX7_mixPersons_80 : decode cX7_mixPersons 80 = .ok (.i2l, 1) := by decide +kernel
theorem dX7_mixPersons_81 : decode cX7_mixPersons 81 = .ok (.invokevirtual 282, 3) := by decide +kernel
theorem dX7_mixPersons_84 : decode cX7_mixPersons 84 = .ok (.return_, 1) := by decide +kernel
theorem dX7_mixTrust_0 : decode cX7_mixTrust 0 = .ok (.iconst 0, 1) := by decide +kernel
theorem dX7_mixTrust_1 : decode cX7_mixTrust 1 = .ok (.istore_n 1, 1) := by decide +kernel
theorem dX7_mixTrust_2 : decode cX7_mixTrust 2 = .ok (.iload_n 1, 1) := by decide +kernel
theorem dX7_mixTrust_3 : decode cX7_mixTrust 3 = .ok (.iconst 5, 1) := by decide +kernel
theorem dX7_mixTrust_4 : decode cX7_mixTrust 4 = .ok (.if_icmp .ge 19, 3) := by decide +kernel
theorem dX7_mixTrust_7 : decode cX7_mixTrust 7 = .ok (.aload_n 0, 1) := by decide +kernel
theorem dX7_mixTrust_8 : decode cX7_mixTrust 8 = .ok (.aload_n 0, 1) := by decide +kernel
theorem dX7_mixTrust_9 : decode cX7_mixTrust 9 = .ok (.iload_n 1, 1) := by decide +kernel
theorem dX7_mixTrust_10 : decode cX7_mixTrust 10 = .ok (.invokevirtual 215, 3) := by decide +kernel
theorem dX7_mixTrust_13 : decode cX7_mixTrust 13 = .ok (.i2l, 1) := by decide +kernel
theorem dX7_mixTrust_14 : decode cX7_mixTrust 14 = .ok (.invokevirtual 282, 3) := by decide +kernel
theorem dX7_mixTrust_17 : decode cX7_mixTrust 17 = .ok (.iinc 1 1, 3) := by decide +kernel
theorem dX7_mixTrust_20 : decode cX7_mixTrust 20 = .ok (.goto (-18), 3) := by decide +kernel
theorem dX7_mixTrust_23 : decode cX7_mixTrust 23 = .ok (.iconst 0, 1) := by decide +kernel
theorem dX7_mixTrust_24 : decode cX7_mixTrust 24 = .ok (.istore_n 1, 1) := by decide +kernel
theorem dX7_mixTrust_25 : decode cX7_mixTrust 25 = .ok (.iload_n 1, 1) := by decide +kernel
theorem dX7_mixTrust_26 : decode cX7_mixTrust 26 = .ok (.iconst 3, 1) := by decide +kernel
theorem dX7_mixTrust_27 : decode cX7_mixTrust 27 = .ok (.if_icmp .ge 19, 3) := by decide +kernel
theorem dX7_mixTrust_30 : decode cX7_mixTrust 30 = .ok (.aload_n 0, 1) := by decide +kernel
theorem dX7_mixTrust_31 : decode cX7_mixTrust 31 = .ok (.aload_n 0, 1) := by decide +kernel
theorem dX7_mixTrust_32 : decode cX7_mixTrust 32 = .ok (.iload_n 1, 1) := by decide +kernel
theorem dX7_mixTrust_33 : decode cX7_mixTrust 33 = .ok (.invokevirtual 227, 3) := by decide +kernel
theorem dX7_mixTrust_36 : decode cX7_mixTrust 36 = .ok (.i2l, 1) := by decide +kernel
theorem dX7_mixTrust_37 : decode cX7_mixTrust 37 = .ok (.invokevirtual 282, 3) := by decide +kernel
theorem dX7_mixTrust_40 : decode cX7_mixTrust 40 = .ok (.iinc 1 1, 3) := by decide +kernel
theorem dX7_mixTrust_43 : decode cX7_mixTrust 43 = .ok (.goto (-18), 3) := by decide +kernel
theorem dX7_mixTrust_46 : decode cX7_mixTrust 46 = .ok (.aload_n 0, 1) := by decide +kernel
theorem dX7_mixTrust_47 : decode cX7_mixTrust 47 = .ok (.invokevirtual 237, 3) := by decide +kernel
theorem dX7_mixTrust_50 : decode cX7_mixTrust 50 = .ok (.istore_n 1, 1) := by decide +kernel
theorem dX7_mixTrust_51 : decode cX7_mixTrust 51 = .ok (.aload_n 0, 1) := by decide +kernel
theorem dX7_mixTrust_52 : decode cX7_mixTrust 52 = .ok (.iload_n 1, 1) := by decide +kernel
theorem dX7_mixTrust_53 : decode cX7_mixTrust 53 = .ok (.i2l, 1) := by decide +kernel
theorem dX7_mixTrust_54 : decode cX7_mixTrust 54 = .ok (.invokevirtual 282, 3) := by decide +kernel
theorem dX7_mixTrust_57 : decode cX7_mixTrust 57 = .ok (.iconst 0, 1) := by decide +kernel
theorem dX7_mixTrust_58 : decode cX7_mixTrust 58 = .ok (.istore_n 2, 1) := by decide +kernel
theorem dX7_mixTrust_59 : decode cX7_mixTrust 59 = .ok (.iload_n 2, 1) := by decide +kernel
theorem dX7_mixTrust_60 : decode cX7_mixTrust 60 = .ok (.iconst 3, 1) := by decide +kernel
theorem dX7_mixTrust_61 : decode cX7_mixTrust 61 = .ok (.if_icmp .ge 32, 3) := by decide +kernel
theorem dX7_mixTrust_64 : decode cX7_mixTrust 64 = .ok (.iload_n 1, 1) := by decide +kernel
theorem dX7_mixTrust_65 : decode cX7_mixTrust 65 = .ok (.iconst (-1), 1) := by decide +kernel
theorem dX7_mixTrust_66 : decode cX7_mixTrust 66 = .ok (.if_icmp .eq 27, 3) := by decide +kernel
theorem dX7_mixTrust_69 : decode cX7_mixTrust 69 = .ok (.aload_n 0, 1) := by decide +kernel
theorem dX7_mixTrust_70 : decode cX7_mixTrust 70 = .ok (.aload_n 0, 1) := by decide +kernel
theorem dX7_mixTrust_71 : decode cX7_mixTrust 71 = .ok (.iload_n 1, 1) := by decide +kernel
theorem dX7_mixTrust_72 : decode cX7_mixTrust 72 = .ok (.bipush 10, 2) := by decide +kernel
theorem dX7_mixTrust_74 : decode cX7_mixTrust 74 = .ok (.idiv, 1) := by decide +kernel
theorem dX7_mixTrust_75 : decode cX7_mixTrust 75 = .ok (.iload_n 1, 1) := by decide +kernel
theorem dX7_mixTrust_76 : decode cX7_mixTrust 76 = .ok (.bipush 10, 2) := by decide +kernel
theorem dX7_mixTrust_78 : decode cX7_mixTrust 78 = .ok (.irem, 1) := by decide +kernel
theorem dX7_mixTrust_79 : decode cX7_mixTrust 79 = .ok (.iload_n 2, 1) := by decide +kernel
theorem dX7_mixTrust_80 : decode cX7_mixTrust 80 = .ok (.invokevirtual 233, 3) := by decide +kernel
theorem dX7_mixTrust_83 : decode cX7_mixTrust 83 = .ok (.i2l, 1) := by decide +kernel
theorem dX7_mixTrust_84 : decode cX7_mixTrust 84 = .ok (.invokevirtual 282, 3) := by decide +kernel
theorem dX7_mixTrust_87 : decode cX7_mixTrust 87 = .ok (.iinc 2 1, 3) := by decide +kernel
theorem dX7_mixTrust_90 : decode cX7_mixTrust 90 = .ok (.goto (-31), 3) := by decide +kernel
theorem dX7_mixTrust_93 : decode cX7_mixTrust 93 = .ok (.return_, 1) := by decide +kernel
theorem dX7_mixWalk_0 : decode cX7_mixWalk 0 = .ok (.iconst 0, 1) := by decide +kernel
theorem dX7_mixWalk_1 : decode cX7_mixWalk 1 = .ok (.istore_n 2, 1) := by decide +kernel
theorem dX7_mixWalk_2 : decode cX7_mixWalk 2 = .ok (.iload_n 2, 1) := by decide +kernel
theorem dX7_mixWalk_3 : decode cX7_mixWalk 3 = .ok (.aload_n 0, 1) := by decide +kernel
theorem dX7_mixWalk_4 : decode cX7_mixWalk 4 = .ok (.getfield 111, 3) := by decide +kernel
theorem dX7_mixWalk_7 : decode cX7_mixWalk 7 = .ok (.if_icmp .ge 44, 3) := by decide +kernel
theorem dX7_mixWalk_10 : decode cX7_mixWalk 10 = .ok (.aload_n 0, 1) := by decide +kernel
theorem dX7_mixWalk_11 : decode cX7_mixWalk 11 = .ok (.aload_n 0, 1) := by decide +kernel
theorem dX7_mixWalk_12 : decode cX7_mixWalk 12 = .ok (.iload_n 2, 1) := by decide +kernel
theorem dX7_mixWalk_13 : decode cX7_mixWalk 13 = .ok (.iload_n 1, 1) := by decide +kernel
theorem dX7_mixWalk_14 : decode cX7_mixWalk 14 = .ok (.iconst 0, 1) := by decide +kernel
theorem dX7_mixWalk_15 : decode cX7_mixWalk 15 = .ok (.invokevirtual 260, 3) := by decide +kernel
theorem dX7_mixWalk_18 : decode cX7_mixWalk 18 = .ok (.i2l, 1) := by decide +kernel
theorem dX7_mixWalk_19 : decode cX7_mixWalk 19 = .ok (.invokevirtual 282, 3) := by decide +kernel
theorem dX7_mixWalk_22 : decode cX7_mixWalk 22 = .ok (.aload_n 0, 1) := by decide +kernel
theorem dX7_mixWalk_23 : decode cX7_mixWalk 23 = .ok (.aload_n 0, 1) := by decide +kernel
theorem dX7_mixWalk_24 : decode cX7_mixWalk 24 = .ok (.iload_n 2, 1) := by decide +kernel
theorem dX7_mixWalk_25 : decode cX7_mixWalk 25 = .ok (.iload_n 1, 1) := by decide +kernel
theorem dX7_mixWalk_26 : decode cX7_mixWalk 26 = .ok (.iconst 1, 1) := by decide +kernel
theorem dX7_mixWalk_27 : decode cX7_mixWalk 27 = .ok (.invokevirtual 260, 3) := by decide +kernel
theorem dX7_mixWalk_30 : decode cX7_mixWalk 30 = .ok (.i2l, 1) := by decide +kernel
theorem dX7_mixWalk_31 : decode cX7_mixWalk 31 = .ok (.invokevirtual 282, 3) := by decide +kernel
theorem dX7_mixWalk_34 : decode cX7_mixWalk 34 = .ok (.aload_n 0, 1) := by decide +kernel
theorem dX7_mixWalk_35 : decode cX7_mixWalk 35 = .ok (.aload_n 0, 1) := by decide +kernel
theorem dX7_mixWalk_36 : decode cX7_mixWalk 36 = .ok (.iload_n 2, 1) := by decide +kernel
theorem dX7_mixWalk_37 : decode cX7_mixWalk 37 = .ok (.iload_n 1, 1) := by decide +kernel
theorem dX7_mixWalk_38 : decode cX7_mixWalk 38 = .ok (.invokevirtual 265, 3) := by decide +kernel
theorem dX7_mixWalk_41 : decode cX7_mixWalk 41 = .ok (.i2l, 1) := by decide +kernel
theorem dX7_mixWalk_42 : decode cX7_mixWalk 42 = .ok (.invokevirtual 282, 3) := by decide +kernel
theorem dX7_mixWalk_45 : decode cX7_mixWalk 45 = .ok (.iinc 2 1, 3) := by decide +kernel
theorem dX7_mixWalk_48 : decode cX7_mixWalk 48 = .ok (.goto (-46), 3) := by decide +kernel
theorem dX7_mixWalk_51 : decode cX7_mixWalk 51 = .ok (.iconst 0, 1) := by decide +kernel
theorem dX7_mixWalk_52 : decode cX7_mixWalk 52 = .ok (.istore_n 2, 1) := by decide +kernel
theorem dX7_mixWalk_53 : decode cX7_mixWalk 53 = .ok (.iload_n 2, 1) := by decide +kernel
theorem dX7_mixWalk_54 : decode cX7_mixWalk 54 = .ok (.aload_n 0, 1) := by decide +kernel
theorem dX7_mixWalk_55 : decode cX7_mixWalk 55 = .ok (.getfield 111, 3) := by decide +kernel
theorem dX7_mixWalk_58 : decode cX7_mixWalk 58 = .ok (.if_icmp .ge 20, 3) := by decide +kernel
theorem dX7_mixWalk_61 : decode cX7_mixWalk 61 = .ok (.aload_n 0, 1) := by decide +kernel
theorem dX7_mixWalk_62 : decode cX7_mixWalk 62 = .ok (.aload_n 0, 1) := by decide +kernel
theorem dX7_mixWalk_63 : decode cX7_mixWalk 63 = .ok (.iload_n 1, 1) := by decide +kernel
theorem dX7_mixWalk_64 : decode cX7_mixWalk 64 = .ok (.iload_n 2, 1) := by decide +kernel
theorem dX7_mixWalk_65 : decode cX7_mixWalk 65 = .ok (.invokevirtual 271, 3) := by decide +kernel
theorem dX7_mixWalk_68 : decode cX7_mixWalk 68 = .ok (.i2l, 1) := by decide +kernel
theorem dX7_mixWalk_69 : decode cX7_mixWalk 69 = .ok (.invokevirtual 282, 3) := by decide +kernel
theorem dX7_mixWalk_72 : decode cX7_mixWalk 72 = .ok (.iinc 2 1, 3) := by decide +kernel
theorem dX7_mixWalk_75 : decode cX7_mixWalk 75 = .ok (.goto (-22), 3) := by decide +kernel
theorem dX7_mixWalk_78 : decode cX7_mixWalk 78 = .ok (.return_, 1) := by decide +kernel
theorem dX7_digest_0 : decode cX7_digest 0 = .ok (.aload_n 0, 1) := by decide +kernel
theorem dX7_digest_1 : decode cX7_digest 1 = .ok (.ldc2_w 286, 3) := by decide +kernel
theorem dX7_digest_4 : decode cX7_digest 4 = .ok (.putfield 279, 3) := by decide +kernel
theorem dX7_digest_7 : decode cX7_digest 7 = .ok (.aload_n 0, 1) := by decide +kernel
theorem dX7_digest_8 : decode cX7_digest 8 = .ok (.invokevirtual 139, 3) := by decide +kernel
theorem dX7_digest_11 : decode cX7_digest 11 = .ok (.ifCond .eq 15, 3) := by decide +kernel
theorem dX7_digest_14 : decode cX7_digest 14 = .ok (.aload_n 0, 1) := by decide +kernel
theorem dX7_digest_15 : decode cX7_digest 15 = .ok (.invokevirtual 288, 3) := by decide +kernel
theorem dX7_digest_18 : decode cX7_digest 18 = .ok (.aload_n 0, 1) := by decide +kernel
theorem dX7_digest_19 : decode cX7_digest 19 = .ok (.invokevirtual 291, 3) := by decide +kernel
theorem dX7_digest_22 : decode cX7_digest 22 = .ok (.aload_n 0, 1) := by decide +kernel
theorem dX7_digest_23 : decode cX7_digest 23 = .ok (.invokevirtual 294, 3) := by decide +kernel
theorem dX7_digest_26 : decode cX7_digest 26 = .ok (.iconst 0, 1) := by decide +kernel
theorem dX7_digest_27 : decode cX7_digest 27 = .ok (.istore_n 1, 1) := by decide +kernel
theorem dX7_digest_28 : decode cX7_digest 28 = .ok (.iload_n 1, 1) := by decide +kernel
theorem dX7_digest_29 : decode cX7_digest 29 = .ok (.iconst 4, 1) := by decide +kernel
theorem dX7_digest_30 : decode cX7_digest 30 = .ok (.if_icmp .gt 21, 3) := by decide +kernel
theorem dX7_digest_33 : decode cX7_digest 33 = .ok (.aload_n 0, 1) := by decide +kernel
theorem dX7_digest_34 : decode cX7_digest 34 = .ok (.invokevirtual 257, 3) := by decide +kernel
theorem dX7_digest_37 : decode cX7_digest 37 = .ok (.ifCond .eq 14, 3) := by decide +kernel
theorem dX7_digest_40 : decode cX7_digest 40 = .ok (.aload_n 0, 1) := by decide +kernel
theorem dX7_digest_41 : decode cX7_digest 41 = .ok (.iload_n 1, 1) := by decide +kernel
theorem dX7_digest_42 : decode cX7_digest 42 = .ok (.invokevirtual 297, 3) := by decide +kernel
theorem dX7_digest_45 : decode cX7_digest 45 = .ok (.iinc 1 1, 3) := by decide +kernel
theorem dX7_digest_48 : decode cX7_digest 48 = .ok (.goto (-20), 3) := by decide +kernel
theorem dX7_digest_51 : decode cX7_digest 51 = .ok (.iconst 0, 1) := by decide +kernel
theorem dX7_digest_52 : decode cX7_digest 52 = .ok (.istore_n 1, 1) := by decide +kernel
theorem dX7_digest_53 : decode cX7_digest 53 = .ok (.iload_n 1, 1) := by decide +kernel
theorem dX7_digest_54 : decode cX7_digest 54 = .ok (.aload_n 0, 1) := by decide +kernel
theorem dX7_digest_55 : decode cX7_digest 55 = .ok (.getfield 54, 3) := by decide +kernel
theorem dX7_digest_58 : decode cX7_digest 58 = .ok (.if_icmp .ge 20, 3) := by decide +kernel
theorem dX7_digest_61 : decode cX7_digest 61 = .ok (.aload_n 0, 1) := by decide +kernel
theorem dX7_digest_62 : decode cX7_digest 62 = .ok (.aload_n 0, 1) := by decide +kernel
theorem dX7_digest_63 : decode cX7_digest 63 = .ok (.getfield 19, 3) := by decide +kernel
theorem dX7_digest_66 : decode cX7_digest 66 = .ok (.iload_n 1, 1) := by decide +kernel
theorem dX7_digest_67 : decode cX7_digest 67 = .ok (.iaload, 1) := by decide +kernel
theorem dX7_digest_68 : decode cX7_digest 68 = .ok (.i2l, 1) := by decide +kernel
theorem dX7_digest_69 : decode cX7_digest 69 = .ok (.invokevirtual 282, 3) := by decide +kernel
theorem dX7_digest_72 : decode cX7_digest 72 = .ok (.iinc 1 1, 3) := by decide +kernel
theorem dX7_digest_75 : decode cX7_digest 75 = .ok (.goto (-22), 3) := by decide +kernel
theorem dX7_digest_78 : decode cX7_digest 78 = .ok (.iconst 0, 1) := by decide +kernel
theorem dX7_digest_79 : decode cX7_digest 79 = .ok (.istore_n 1, 1) := by decide +kernel
theorem dX7_digest_80 : decode cX7_digest 80 = .ok (.iload_n 1, 1) := by decide +kernel
theorem dX7_digest_81 : decode cX7_digest 81 = .ok (.iconst 5, 1) := by decide +kernel
theorem dX7_digest_82 : decode cX7_digest 82 = .ok (.if_icmp .ge 19, 3) := by decide +kernel
theorem dX7_digest_85 : decode cX7_digest 85 = .ok (.aload_n 0, 1) := by decide +kernel
theorem dX7_digest_86 : decode cX7_digest 86 = .ok (.aload_n 0, 1) := by decide +kernel
theorem dX7_digest_87 : decode cX7_digest 87 = .ok (.iload_n 1, 1) := by decide +kernel
theorem dX7_digest_88 : decode cX7_digest 88 = .ok (.invokevirtual 274, 3) := by decide +kernel
theorem dX7_digest_91 : decode cX7_digest 91 = .ok (.i2l, 1) := by decide +kernel
theorem dX7_digest_92 : decode cX7_digest 92 = .ok (.invokevirtual 282, 3) := by decide +kernel
theorem dX7_digest_95 : decode cX7_digest 95 = .ok (.iinc 1 1, 3) := by decide +kernel
theorem dX7_digest_98 : decode cX7_digest 98 = .ok (.goto (-18), 3) := by decide +kernel
theorem dX7_digest_101 : decode cX7_digest 101 = .ok (.aload_n 0, 1) := by decide +kernel
theorem dX7_digest_102 : decode cX7_digest 102 = .ok (.getfield 279, 3) := by decide +kernel
theorem dX7_digest_105 : decode cX7_digest 105 = .ok (.lreturn, 1) := by decide +kernel
end
section
theorem dL_law_0 : decode cL_law 0 = .ok (.new 7, 3) := by decide +kernel
theorem dL_law_3 : decode cL_law 3 = .ok (.dup, 1) := by decide +kernel
theorem dL_law_4 : decode cL_law 4 = .ok (.invokespecial 9, 3) := by decide +kernel
theorem dL_law_7 : decode cL_law 7 = .ok (.astore_n 1, 1) := by decide +kernel
theorem dL_law_8 : decode cL_law 8 = .ok (.new 10, 3) := by decide +kernel
theorem dL_law_11 : decode cL_law 11 = .ok (.dup, 1) := by decide +kernel
theorem dL_law_12 : decode cL_law 12 = .ok (.invokespecial 12, 3) := by decide +kernel
theorem dL_law_15 : decode cL_law 15 = .ok (.astore_n 2, 1) := by decide +kernel
theorem dL_law_16 : decode cL_law 16 = .ok (.iconst 0, 1) := by decide +kernel
theorem dL_law_17 : decode cL_law 17 = .ok (.istore_n 3, 1) := by decide +kernel
theorem dL_law_18 : decode cL_law 18 = .ok (.iload_n 3, 1) := by decide +kernel
theorem dL_law_19 : decode cL_law 19 = .ok (.aload_n 0, 1) := by decide +kernel
theorem dL_law_20 : decode cL_law 20 = .ok (.arraylength, 1) := by decide +kernel
theorem dL_law_21 : decode cL_law 21 = .ok (.iconst 4, 1) := by decide +kernel
theorem dL_law_22 : decode cL_law 22 = .ok (.isub, 1) := by decide +kernel
theorem dL_law_23 : decode cL_law 23 = .ok (.if_icmp .gt 777, 3) := by decide +kernel
theorem dL_law_26 : decode cL_law 26 = .ok (.aload_n 0, 1) := by decide +kernel
theorem dL_law_27 : decode cL_law 27 = .ok (.iload_n 3, 1) := by decide +kernel
theorem dL_law_28 : decode cL_law 28 = .ok (.iaload, 1) := by decide +kernel
theorem dL_law_29 : decode cL_law 29 = .ok (.bipush 31, 2) := by decide +kernel
theorem dL_law_31 : decode cL_law 31 = .ok (.iand, 1) := by decide +kernel
theorem dL_law_32 : decode cL_law 32 = .ok (.tableswitch 762 0 24 #[116, 139, 152, 165, 178, 201, 234, 267, 300, 333, 366, 389, 422, 455, 468, 491, 514, 537, 560, 603, 616, 659, 692, 725, 748], 116) := by decide +kernel
theorem dL_law_148 : decode cL_law 148 = .ok (.aload_n 1, 1) := by decide +kernel
theorem dL_law_149 : decode cL_law 149 = .ok (.aload_n 0, 1) := by decide +kernel
theorem dL_law_150 : decode cL_law 150 = .ok (.iload_n 3, 1) := by decide +kernel
theorem dL_law_151 : decode cL_law 151 = .ok (.iconst 1, 1) := by decide +kernel
theorem dL_law_152 : decode cL_law 152 = .ok (.iadd, 1) := by decide +kernel
theorem dL_law_153 : decode cL_law 153 = .ok (.iaload, 1) := by decide +kernel
theorem dL_law_154 : decode cL_law 154 = .ok (.invokevirtual 13, 3) := by decide +kernel
theorem dL_law_157 : decode cL_law 157 = .ok (.aload_n 2, 1) := by decide +kernel
theorem dL_law_158 : decode cL_law 158 = .ok (.aload_n 0, 1) := by decide +kernel
theorem dL_law_159 : decode cL_law 159 = .ok (.iload_n 3, 1) := by decide +kernel
theorem dL_law_160 : decode cL_law 160 = .ok (.iconst 1, 1) := by decide +kernel
theorem dL_law_161 : decode cL_law 161 = .ok (.iadd, 1) := by decide +kernel
theorem dL_law_162 : decode cL_law 162 = .ok (.iaload, 1) := by decide +kernel
theorem dL_law_163 : decode cL_law 163 = .ok (.invokevirtual 17, 3) := by decide +kernel
theorem dL_law_166 : decode cL_law 166 = .ok (.if_icmp .eq 628, 3) := by decide +kernel
theorem dL_law_169 : decode cL_law 169 = .ok (.iconst 0, 1) := by decide +kernel
theorem dL_law_170 : decode cL_law 170 = .ok (.ireturn, 1) := by decide +kernel
theorem dL_law_171 : decode cL_law 171 = .ok (.aload_n 1, 1) := by decide +kernel
theorem dL_law_172 : decode cL_law 172 = .ok (.invokevirtual 18, 3) := by decide +kernel
theorem dL_law_175 : decode cL_law 175 = .ok (.aload_n 2, 1) := by decide +kernel
theorem dL_law_176 : decode cL_law 176 = .ok (.invokevirtual 22, 3) := by decide +kernel
theorem dL_law_179 : decode cL_law 179 = .ok (.if_icmp .eq 615, 3) := by decide +kernel
theorem dL_law_182 : decode cL_law 182 = .ok (.iconst 0, 1) := by decide +kernel
theorem dL_law_183 : decode cL_law 183 = .ok (.ireturn, 1) := by decide +kernel
theorem dL_law_184 : decode cL_law 184 = .ok (.aload_n 1, 1) := by decide +kernel
theorem dL_law_185 : decode cL_law 185 = .ok (.invokevirtual 23, 3) := by decide +kernel
theorem dL_law_188 : decode cL_law 188 = .ok (.aload_n 2, 1) := by decide +kernel
theorem dL_law_189 : decode cL_law 189 = .ok (.invokevirtual 26, 3) := by decide +kernel
theorem dL_law_192 : decode cL_law 192 = .ok (.if_icmp .eq 602, 3) := by decide +kernel
theorem dL_law_195 : decode cL_law 195 = .ok (.iconst 0, 1) := by decide +kernel
theorem dL_law_196 : decode cL_law 196 = .ok (.ireturn, 1) := by decide +kernel
theorem dL_law_197 : decode cL_law 197 = .ok (.aload_n 1, 1) := by decide +kernel
theorem dL_law_198 : decode cL_law 198 = .ok (.invokevirtual 27, 3) := by decide +kernel
theorem dL_law_201 : decode cL_law 201 = .ok (.aload_n 2, 1) := by decide +kernel
theorem dL_law_202 : decode cL_law 202 = .ok (.invokevirtual 30, 3) := by decide +kernel
theorem dL_law_205 : decode cL_law 205 = .ok (.if_icmp .eq 589, 3) := by decide +kernel
theorem dL_law_208 : decode cL_law 208 = .ok (.iconst 0, 1) := by decide +kernel
theorem dL_law_209 : decode cL_law 209 = .ok (.ireturn, 1) := by decide +kernel
theorem dL_law_210 : decode cL_law 210 = .ok (.aload_n 1, 1) := by decide +kernel
theorem dL_law_211 : decode cL_law 211 = .ok (.aload_n 0, 1) := by decide +kernel
theorem dL_law_212 : decode cL_law 212 = .ok (.iload_n 3, 1) := by decide +kernel
theorem dL_law_213 : decode cL_law 213 = .ok (.iconst 1, 1) := by decide +kernel
theorem dL_law_214 : decode cL_law 214 = .ok (.iadd, 1) := by decide +kernel
theorem dL_law_215 : decode cL_law 215 = .ok (.iaload, 1) := by decide +kernel
theorem dL_law_216 : decode cL_law 216 = .ok (.invokevirtual 31, 3) := by decide +kernel
theorem dL_law_219 : decode cL_law 219 = .ok (.aload_n 2, 1) := by decide +kernel
theorem dL_law_220 : decode cL_law 220 = .ok (.aload_n 0, 1) := by decide +kernel
theorem dL_law_221 : decode cL_law 221 = .ok (.iload_n 3, 1) := by decide +kernel
theorem dL_law_222 : decode cL_law 222 = .ok (.iconst 1, 1) := by decide +kernel
theorem dL_law_223 : decode cL_law 223 = .ok (.iadd, 1) := by decide +kernel
theorem dL_law_224 : decode cL_law 224 = .ok (.iaload, 1) := by decide +kernel
theorem dL_law_225 : decode cL_law 225 = .ok (.invokevirtual 34, 3) := by decide +kernel
theorem dL_law_228 : decode cL_law 228 = .ok (.if_icmp .eq 566, 3) := by decide +kernel
theorem dL_law_231 : decode cL_law 231 = .ok (.iconst 0, 1) := by decide +kernel
theorem dL_law_232 : decode cL_law 232 = .ok (.ireturn, 1) := by decide +kernel
theorem dL_law_233 : decode cL_law 233 = .ok (.aload_n 1, 1) := by decide +kernel
theorem dL_law_234 : decode cL_law 234 = .ok (.aload_n 0, 1) := by decide +kernel
theorem dL_law_235 : decode cL_law 235 = .ok (.iload_n 3, 1) := by decide +kernel
theorem dL_law_236 : decode cL_law 236 = .ok (.iconst 1, 1) := by decide +kernel
theorem dL_law_237 : decode cL_law 237 = .ok (.iadd, 1) := by decide +kernel
theorem dL_law_238 : decode cL_law 238 = .ok (.iaload, 1) := by decide +kernel
theorem dL_law_239 : decode cL_law 239 = .ok (.aload_n 0, 1) := by decide +kernel
theorem dL_law_240 : decode cL_law 240 = .ok (.iload_n 3, 1) := by decide +kernel
theorem dL_law_241 : decode cL_law 241 = .ok (.iconst 2, 1) := by decide +kernel
theorem dL_law_242 : decode cL_law 242 = .ok (.iadd, 1) := by decide +kernel
theorem dL_law_243 : decode cL_law 243 = .ok (.iaload, 1) := by decide +kernel
theorem dL_law_244 : decode cL_law 244 = .ok (.invokevirtual 35, 3) := by decide +kernel
theorem dL_law_247 : decode cL_law 247 = .ok (.aload_n 2, 1) := by decide +kernel
theorem dL_law_248 : decode cL_law 248 = .ok (.aload_n 0, 1) := by decide +kernel
theorem dL_law_249 : decode cL_law 249 = .ok (.iload_n 3, 1) := by decide +kernel
theorem dL_law_250 : decode cL_law 250 = .ok (.iconst 1, 1) := by decide +kernel
theorem dL_law_251 : decode cL_law 251 = .ok (.iadd, 1) := by decide +kernel
theorem dL_law_252 : decode cL_law 252 = .ok (.iaload, 1) := by decide +kernel
theorem dL_law_253 : decode cL_law 253 = .ok (.aload_n 0, 1) := by decide +kernel
theorem dL_law_254 : decode cL_law 254 = .ok (.iload_n 3, 1) := by decide +kernel
theorem dL_law_255 : decode cL_law 255 = .ok (.iconst 2, 1) := by decide +kernel
theorem dL_law_256 : decode cL_law 256 = .ok (.iadd, 1) := by decide +kernel
theorem dL_law_257 : decode cL_law 257 = .ok (.iaload, 1) := by decide +kernel
theorem dL_law_258 : decode cL_law 258 = .ok (.invokevirtual 39, 3) := by decide +kernel
theorem dL_law_261 : decode cL_law 261 = .ok (.if_icmp .eq 533, 3) := by decide +kernel
theorem dL_law_264 : decode cL_law 264 = .ok (.iconst 0, 1) := by decide +kernel
theorem dL_law_265 : decode cL_law 265 = .ok (.ireturn, 1) := by decide +kernel
theorem dL_law_266 : decode cL_law 266 = .ok (.aload_n 1, 1) := by decide +kernel
theorem dL_law_267 : decode cL_law 267 = .ok (.aload_n 0, 1) := by decide +kernel
theorem dL_law_268 : decode cL_law 268 = .ok (.iload_n 3, 1) := by decide +kernel
theorem dL_law_269 : decode cL_law 269 = .ok (.iconst 1, 1) := by decide +kernel
theorem dL_law_270 : decode cL_law 270 = .ok (.iadd, 1) := by decide +kernel
theorem dL_law_271 : decode cL_law 271 = .ok (.iaload, 1) := by decide +kernel
theorem dL_law_272 : decode cL_law 272 = .ok (.aload_n 0, 1) := by decide +kernel
theorem dL_law_273 : decode cL_law 273 = .ok (.iload_n 3, 1) := by decide +kernel
theorem dL_law_274 : decode cL_law 274 = .ok (.iconst 2, 1) := by decide +kernel
theorem dL_law_275 : decode cL_law 275 = .ok (.iadd, 1) := by decide +kernel
theorem dL_law_276 : decode cL_law 276 = .ok (.iaload, 1) := by decide +kernel
theorem dL_law_277 : decode cL_law 277 = .ok (.invokevirtual 40, 3) := by decide +kernel
theorem dL_law_280 : decode cL_law 280 = .ok (.aload_n 2, 1) := by decide +kernel
theorem dL_law_281 : decode cL_law 281 = .ok (.aload_n 0, 1) := by decide +kernel
theorem dL_law_282 : decode cL_law 282 = .ok (.iload_n 3, 1) := by decide +kernel
theorem dL_law_283 : decode cL_law 283 = .ok (.iconst 1, 1) := by decide +kernel
theorem dL_law_284 : decode cL_law 284 = .ok (.iadd, 1) := by decide +kernel
theorem dL_law_285 : decode cL_law 285 = .ok (.iaload, 1) := by decide +kernel
theorem dL_law_286 : decode cL_law 286 = .ok (.aload_n 0, 1) := by decide +kernel
theorem dL_law_287 : decode cL_law 287 = .ok (.iload_n 3, 1) := by decide +kernel
theorem dL_law_288 : decode cL_law 288 = .ok (.iconst 2, 1) := by decide +kernel
theorem dL_law_289 : decode cL_law 289 = .ok (.iadd, 1) := by decide +kernel
theorem dL_law_290 : decode cL_law 290 = .ok (.iaload, 1) := by decide +kernel
theorem dL_law_291 : decode cL_law 291 = .ok (.invokevirtual 43, 3) := by decide +kernel
theorem dL_law_294 : decode cL_law 294 = .ok (.if_icmp .eq 500, 3) := by decide +kernel
theorem dL_law_297 : decode cL_law 297 = .ok (.iconst 0, 1) := by decide +kernel
theorem dL_law_298 : decode cL_law 298 = .ok (.ireturn, 1) := by decide +kernel
theorem dL_law_299 : decode cL_law 299 = .ok (.aload_n 1, 1) := by decide +kernel
theorem dL_law_300 : decode cL_law 300 = .ok (.aload_n 0, 1) := by decide +kernel
theorem dL_law_301 : decode cL_law 301 = .ok (.iload_n 3, 1) := by decide +kernel
theorem dL_law_302 : decode cL_law 302 = .ok (.iconst 1, 1) := by decide +kernel
theorem dL_law_303 : decode cL_law 303 = .ok (.iadd, 1) := by decide +kernel
theorem dL_law_304 : decode cL_law 304 = .ok (.iaload, 1) := by decide +kernel
theorem dL_law_305 : decode cL_law 305 = .ok (.aload_n 0, 1) := by decide +kernel
theorem dL_law_306 : decode cL_law 306 = .ok (.iload_n 3, 1) := by decide +kernel
theorem dL_law_307 : decode cL_law 307 = .ok (.iconst 2, 1) := by decide +kernel
theorem dL_law_308 : decode cL_law 308 = .ok (.iadd, 1) := by decide +kernel
theorem dL_law_309 : decode cL_law 309 = .ok (.iaload, 1) := by decide +kernel
theorem dL_law_310 : decode cL_law 310 = .ok (.invokevirtual 44, 3) := by decide +kernel
theorem dL_law_313 : decode cL_law 313 = .ok (.aload_n 2, 1) := by decide +kernel
theorem dL_law_314 : decode cL_law 314 = .ok (.aload_n 0, 1) := by decide +kernel
theorem dL_law_315 : decode cL_law 315 = .ok (.iload_n 3, 1) := by decide +kernel
theorem dL_law_316 : decode cL_law 316 = .ok (.iconst 1, 1) := by decide +kernel
theorem dL_law_317 : decode cL_law 317 = .ok (.iadd, 1) := by decide +kernel
theorem dL_law_318 : decode cL_law 318 = .ok (.iaload, 1) := by decide +kernel
theorem dL_law_319 : decode cL_law 319 = .ok (.aload_n 0, 1) := by decide +kernel
theorem dL_law_320 : decode cL_law 320 = .ok (.iload_n 3, 1) := by decide +kernel
theorem dL_law_321 : decode cL_law 321 = .ok (.iconst 2, 1) := by decide +kernel
theorem dL_law_322 : decode cL_law 322 = .ok (.iadd, 1) := by decide +kernel
theorem dL_law_323 : decode cL_law 323 = .ok (.iaload, 1) := by decide +kernel
theorem dL_law_324 : decode cL_law 324 = .ok (.invokevirtual 47, 3) := by decide +kernel
theorem dL_law_327 : decode cL_law 327 = .ok (.if_icmp .eq 467, 3) := by decide +kernel
theorem dL_law_330 : decode cL_law 330 = .ok (.iconst 0, 1) := by decide +kernel
theorem dL_law_331 : decode cL_law 331 = .ok (.ireturn, 1) := by decide +kernel
theorem dL_law_332 : decode cL_law 332 = .ok (.aload_n 1, 1) := by decide +kernel
theorem dL_law_333 : decode cL_law 333 = .ok (.aload_n 0, 1) := by decide +kernel
theorem dL_law_334 : decode cL_law 334 = .ok (.iload_n 3, 1) := by decide +kernel
theorem dL_law_335 : decode cL_law 335 = .ok (.iconst 1, 1) := by decide +kernel
theorem dL_law_336 : decode cL_law 336 = .ok (.iadd, 1) := by decide +kernel
theorem dL_law_337 : decode cL_law 337 = .ok (.iaload, 1) := by decide +kernel
theorem dL_law_338 : decode cL_law 338 = .ok (.aload_n 0, 1) := by decide +kernel
theorem dL_law_339 : decode cL_law 339 = .ok (.iload_n 3, 1) := by decide +kernel
theorem dL_law_340 : decode cL_law 340 = .ok (.iconst 2, 1) := by decide +kernel
theorem dL_law_341 : decode cL_law 341 = .ok (.iadd, 1) := by decide +kernel
theorem dL_law_342 : decode cL_law 342 = .ok (.iaload, 1) := by decide +kernel
theorem dL_law_343 : decode cL_law 343 = .ok (.invokevirtual 48, 3) := by decide +kernel
theorem dL_law_346 : decode cL_law 346 = .ok (.aload_n 2, 1) := by decide +kernel
theorem dL_law_347 : decode cL_law 347 = .ok (.aload_n 0, 1) := by decide +kernel
theorem dL_law_348 : decode cL_law 348 = .ok (.iload_n 3, 1) := by decide +kernel
theorem dL_law_349 : decode cL_law 349 = .ok (.iconst 1, 1) := by decide +kernel
theorem dL_law_350 : decode cL_law 350 = .ok (.iadd, 1) := by decide +kernel
theorem dL_law_351 : decode cL_law 351 = .ok (.iaload, 1) := by decide +kernel
theorem dL_law_352 : decode cL_law 352 = .ok (.aload_n 0, 1) := by decide +kernel
theorem dL_law_353 : decode cL_law 353 = .ok (.iload_n 3, 1) := by decide +kernel
theorem dL_law_354 : decode cL_law 354 = .ok (.iconst 2, 1) := by decide +kernel
theorem dL_law_355 : decode cL_law 355 = .ok (.iadd, 1) := by decide +kernel
theorem dL_law_356 : decode cL_law 356 = .ok (.iaload, 1) := by decide +kernel
theorem dL_law_357 : decode cL_law 357 = .ok (.invokevirtual 51, 3) := by decide +kernel
theorem dL_law_360 : decode cL_law 360 = .ok (.if_icmp .eq 434, 3) := by decide +kernel
theorem dL_law_363 : decode cL_law 363 = .ok (.iconst 0, 1) := by decide +kernel
theorem dL_law_364 : decode cL_law 364 = .ok (.ireturn, 1) := by decide +kernel
theorem dL_law_365 : decode cL_law 365 = .ok (.aload_n 1, 1) := by decide +kernel
theorem dL_law_366 : decode cL_law 366 = .ok (.aload_n 0, 1) := by decide +kernel
theorem dL_law_367 : decode cL_law 367 = .ok (.iload_n 3, 1) := by decide +kernel
theorem dL_law_368 : decode cL_law 368 = .ok (.iconst 1, 1) := by decide +kernel
theorem dL_law_369 : decode cL_law 369 = .ok (.iadd, 1) := by decide +kernel
theorem dL_law_370 : decode cL_law 370 = .ok (.iaload, 1) := by decide +kernel
theorem dL_law_371 : decode cL_law 371 = .ok (.aload_n 0, 1) := by decide +kernel
theorem dL_law_372 : decode cL_law 372 = .ok (.iload_n 3, 1) := by decide +kernel
theorem dL_law_373 : decode cL_law 373 = .ok (.iconst 2, 1) := by decide +kernel
theorem dL_law_374 : decode cL_law 374 = .ok (.iadd, 1) := by decide +kernel
theorem dL_law_375 : decode cL_law 375 = .ok (.iaload, 1) := by decide +kernel
theorem dL_law_376 : decode cL_law 376 = .ok (.invokevirtual 52, 3) := by decide +kernel
theorem dL_law_379 : decode cL_law 379 = .ok (.aload_n 2, 1) := by decide +kernel
theorem dL_law_380 : decode cL_law 380 = .ok (.aload_n 0, 1) := by decide +kernel
theorem dL_law_381 : decode cL_law 381 = .ok (.iload_n 3, 1) := by decide +kernel
theorem dL_law_382 : decode cL_law 382 = .ok (.iconst 1, 1) := by decide +kernel
theorem dL_law_383 : decode cL_law 383 = .ok (.iadd, 1) := by decide +kernel
theorem dL_law_384 : decode cL_law 384 = .ok (.iaload, 1) := by decide +kernel
theorem dL_law_385 : decode cL_law 385 = .ok (.aload_n 0, 1) := by decide +kernel
theorem dL_law_386 : decode cL_law 386 = .ok (.iload_n 3, 1) := by decide +kernel
theorem dL_law_387 : decode cL_law 387 = .ok (.iconst 2, 1) := by decide +kernel
theorem dL_law_388 : decode cL_law 388 = .ok (.iadd, 1) := by decide +kernel
theorem dL_law_389 : decode cL_law 389 = .ok (.iaload, 1) := by decide +kernel
theorem dL_law_390 : decode cL_law 390 = .ok (.invokevirtual 55, 3) := by decide +kernel
theorem dL_law_393 : decode cL_law 393 = .ok (.if_icmp .eq 401, 3) := by decide +kernel
theorem dL_law_396 : decode cL_law 396 = .ok (.iconst 0, 1) := by decide +kernel
theorem dL_law_397 : decode cL_law 397 = .ok (.ireturn, 1) := by decide +kernel
theorem dL_law_398 : decode cL_law 398 = .ok (.aload_n 1, 1) := by decide +kernel
theorem dL_law_399 : decode cL_law 399 = .ok (.aload_n 0, 1) := by decide +kernel
theorem dL_law_400 : decode cL_law 400 = .ok (.iload_n 3, 1) := by decide +kernel
theorem dL_law_401 : decode cL_law 401 = .ok (.iconst 1, 1) := by decide +kernel
theorem dL_law_402 : decode cL_law 402 = .ok (.iadd, 1) := by decide +kernel
theorem dL_law_403 : decode cL_law 403 = .ok (.iaload, 1) := by decide +kernel
theorem dL_law_404 : decode cL_law 404 = .ok (.invokevirtual 56, 3) := by decide +kernel
theorem dL_law_407 : decode cL_law 407 = .ok (.aload_n 2, 1) := by decide +kernel
theorem dL_law_408 : decode cL_law 408 = .ok (.aload_n 0, 1) := by decide +kernel
theorem dL_law_409 : decode cL_law 409 = .ok (.iload_n 3, 1) := by decide +kernel
theorem dL_law_410 : decode cL_law 410 = .ok (.iconst 1, 1) := by decide +kernel
theorem dL_law_411 : decode cL_law 411 = .ok (.iadd, 1) := by decide +kernel
theorem dL_law_412 : decode cL_law 412 = .ok (.iaload, 1) := by decide +kernel
theorem dL_law_413 : decode cL_law 413 = .ok (.invokevirtual 59, 3) := by decide +kernel
theorem dL_law_416 : decode cL_law 416 = .ok (.if_icmp .eq 378, 3) := by decide +kernel
theorem dL_law_419 : decode cL_law 419 = .ok (.iconst 0, 1) := by decide +kernel
theorem dL_law_420 : decode cL_law 420 = .ok (.ireturn, 1) := by decide +kernel
theorem dL_law_421 : decode cL_law 421 = .ok (.aload_n 1, 1) := by decide +kernel
theorem dL_law_422 : decode cL_law 422 = .ok (.aload_n 0, 1) := by decide +kernel
theorem dL_law_423 : decode cL_law 423 = .ok (.iload_n 3, 1) := by decide +kernel
theorem dL_law_424 : decode cL_law 424 = .ok (.iconst 1, 1) := by decide +kernel
theorem dL_law_425 : decode cL_law 425 = .ok (.iadd, 1) := by decide +kernel
theorem dL_law_426 : decode cL_law 426 = .ok (.iaload, 1) := by decide +kernel
theorem dL_law_427 : decode cL_law 427 = .ok (.aload_n 0, 1) := by decide +kernel
theorem dL_law_428 : decode cL_law 428 = .ok (.iload_n 3, 1) := by decide +kernel
theorem dL_law_429 : decode cL_law 429 = .ok (.iconst 2, 1) := by decide +kernel
theorem dL_law_430 : decode cL_law 430 = .ok (.iadd, 1) := by decide +kernel
theorem dL_law_431 : decode cL_law 431 = .ok (.iaload, 1) := by decide +kernel
theorem dL_law_432 : decode cL_law 432 = .ok (.invokevirtual 60, 3) := by decide +kernel
theorem dL_law_435 : decode cL_law 435 = .ok (.aload_n 2, 1) := by decide +kernel
theorem dL_law_436 : decode cL_law 436 = .ok (.aload_n 0, 1) := by decide +kernel
theorem dL_law_437 : decode cL_law 437 = .ok (.iload_n 3, 1) := by decide +kernel
theorem dL_law_438 : decode cL_law 438 = .ok (.iconst 1, 1) := by decide +kernel
theorem dL_law_439 : decode cL_law 439 = .ok (.iadd, 1) := by decide +kernel
theorem dL_law_440 : decode cL_law 440 = .ok (.iaload, 1) := by decide +kernel
theorem dL_law_441 : decode cL_law 441 = .ok (.aload_n 0, 1) := by decide +kernel
theorem dL_law_442 : decode cL_law 442 = .ok (.iload_n 3, 1) := by decide +kernel
theorem dL_law_443 : decode cL_law 443 = .ok (.iconst 2, 1) := by decide +kernel
theorem dL_law_444 : decode cL_law 444 = .ok (.iadd, 1) := by decide +kernel
theorem dL_law_445 : decode cL_law 445 = .ok (.iaload, 1) := by decide +kernel
theorem dL_law_446 : decode cL_law 446 = .ok (.invokevirtual 63, 3) := by decide +kernel
theorem dL_law_449 : decode cL_law 449 = .ok (.if_icmp .eq 345, 3) := by decide +kernel
theorem dL_law_452 : decode cL_law 452 = .ok (.iconst 0, 1) := by decide +kernel
theorem dL_law_453 : decode cL_law 453 = .ok (.ireturn, 1) := by decide +kernel
theorem dL_law_454 : decode cL_law 454 = .ok (.aload_n 1, 1) := by decide +kernel
theorem dL_law_455 : decode cL_law 455 = .ok (.aload_n 0, 1) := by decide +kernel
theorem dL_law_456 : decode cL_law 456 = .ok (.iload_n 3, 1) := by decide +kernel
theorem dL_law_457 : decode cL_law 457 = .ok (.iconst 1, 1) := by decide +kernel
theorem dL_law_458 : decode cL_law 458 = .ok (.iadd, 1) := by decide +kernel
theorem dL_law_459 : decode cL_law 459 = .ok (.iaload, 1) := by decide +kernel
theorem dL_law_460 : decode cL_law 460 = .ok (.aload_n 0, 1) := by decide +kernel
theorem dL_law_461 : decode cL_law 461 = .ok (.iload_n 3, 1) := by decide +kernel
theorem dL_law_462 : decode cL_law 462 = .ok (.iconst 2, 1) := by decide +kernel
theorem dL_law_463 : decode cL_law 463 = .ok (.iadd, 1) := by decide +kernel
theorem dL_law_464 : decode cL_law 464 = .ok (.iaload, 1) := by decide +kernel
theorem dL_law_465 : decode cL_law 465 = .ok (.invokevirtual 64, 3) := by decide +kernel
theorem dL_law_468 : decode cL_law 468 = .ok (.aload_n 2, 1) := by decide +kernel
theorem dL_law_469 : decode cL_law 469 = .ok (.aload_n 0, 1) := by decide +kernel
theorem dL_law_470 : decode cL_law 470 = .ok (.iload_n 3, 1) := by decide +kernel
theorem dL_law_471 : decode cL_law 471 = .ok (.iconst 1, 1) := by decide +kernel
theorem dL_law_472 : decode cL_law 472 = .ok (.iadd, 1) := by decide +kernel
theorem dL_law_473 : decode cL_law 473 = .ok (.iaload, 1) := by decide +kernel
theorem dL_law_474 : decode cL_law 474 = .ok (.aload_n 0, 1) := by decide +kernel
theorem dL_law_475 : decode cL_law 475 = .ok (.iload_n 3, 1) := by decide +kernel
theorem dL_law_476 : decode cL_law 476 = .ok (.iconst 2, 1) := by decide +kernel
theorem dL_law_477 : decode cL_law 477 = .ok (.iadd, 1) := by decide +kernel
theorem dL_law_478 : decode cL_law 478 = .ok (.iaload, 1) := by decide +kernel
theorem dL_law_479 : decode cL_law 479 = .ok (.invokevirtual 67, 3) := by decide +kernel
theorem dL_law_482 : decode cL_law 482 = .ok (.if_icmp .eq 312, 3) := by decide +kernel
theorem dL_law_485 : decode cL_law 485 = .ok (.iconst 0, 1) := by decide +kernel
theorem dL_law_486 : decode cL_law 486 = .ok (.ireturn, 1) := by decide +kernel
theorem dL_law_487 : decode cL_law 487 = .ok (.aload_n 1, 1) := by decide +kernel
theorem dL_law_488 : decode cL_law 488 = .ok (.invokevirtual 68, 3) := by decide +kernel
theorem dL_law_491 : decode cL_law 491 = .ok (.aload_n 2, 1) := by decide +kernel
theorem dL_law_492 : decode cL_law 492 = .ok (.invokevirtual 71, 3) := by decide +kernel
theorem dL_law_495 : decode cL_law 495 = .ok (.if_icmp .eq 299, 3) := by decide +kernel
theorem dL_law_498 : decode cL_law 498 = .ok (.iconst 0, 1) := by decide +kernel
theorem dL_law_499 : decode cL_law 499 = .ok (.ireturn, 1) := by decide +kernel
theorem dL_law_500 : decode cL_law 500 = .ok (.aload_n 1, 1) := by decide +kernel
theorem dL_law_501 : decode cL_law 501 = .ok (.aload_n 0, 1) := by decide +kernel
theorem dL_law_502 : decode cL_law 502 = .ok (.iload_n 3, 1) := by decide +kernel
theorem dL_law_503 : decode cL_law 503 = .ok (.iconst 1, 1) := by decide +kernel
theorem dL_law_504 : decode cL_law 504 = .ok (.iadd, 1) := by decide +kernel
theorem dL_law_505 : decode cL_law 505 = .ok (.iaload, 1) := by decide +kernel
theorem dL_law_506 : decode cL_law 506 = .ok (.invokevirtual 72, 3) := by decide +kernel
theorem dL_law_509 : decode cL_law 509 = .ok (.aload_n 2, 1) := by decide +kernel
theorem dL_law_510 : decode cL_law 510 = .ok (.aload_n 0, 1) := by decide +kernel
theorem dL_law_511 : decode cL_law 511 = .ok (.iload_n 3, 1) := by decide +kernel
theorem dL_law_512 : decode cL_law 512 = .ok (.iconst 1, 1) := by decide +kernel
theorem dL_law_513 : decode cL_law 513 = .ok (.iadd, 1) := by decide +kernel
theorem dL_law_514 : decode cL_law 514 = .ok (.iaload, 1) := by decide +kernel
theorem dL_law_515 : decode cL_law 515 = .ok (.invokevirtual 75, 3) := by decide +kernel
theorem dL_law_518 : decode cL_law 518 = .ok (.if_icmp .eq 276, 3) := by decide +kernel
theorem dL_law_521 : decode cL_law 521 = .ok (.iconst 0, 1) := by decide +kernel
theorem dL_law_522 : decode cL_law 522 = .ok (.ireturn, 1) := by decide +kernel
theorem dL_law_523 : decode cL_law 523 = .ok (.aload_n 1, 1) := by decide +kernel
theorem dL_law_524 : decode cL_law 524 = .ok (.aload_n 0, 1) := by decide +kernel
theorem dL_law_525 : decode cL_law 525 = .ok (.iload_n 3, 1) := by decide +kernel
theorem dL_law_526 : decode cL_law 526 = .ok (.iconst 1, 1) := by decide +kernel
theorem dL_law_527 : decode cL_law 527 = .ok (.iadd, 1) := by decide +kernel
theorem dL_law_528 : decode cL_law 528 = .ok (.iaload, 1) := by decide +kernel
theorem dL_law_529 : decode cL_law 529 = .ok (.invokevirtual 76, 3) := by decide +kernel
theorem dL_law_532 : decode cL_law 532 = .ok (.aload_n 2, 1) := by decide +kernel
theorem dL_law_533 : decode cL_law 533 = .ok (.aload_n 0, 1) := by decide +kernel
theorem dL_law_534 : decode cL_law 534 = .ok (.iload_n 3, 1) := by decide +kernel
theorem dL_law_535 : decode cL_law 535 = .ok (.iconst 1, 1) := by decide +kernel
theorem dL_law_536 : decode cL_law 536 = .ok (.iadd, 1) := by decide +kernel
theorem dL_law_537 : decode cL_law 537 = .ok (.iaload, 1) := by decide +kernel
theorem dL_law_538 : decode cL_law 538 = .ok (.invokevirtual 79, 3) := by decide +kernel
theorem dL_law_541 : decode cL_law 541 = .ok (.if_icmp .eq 253, 3) := by decide +kernel
theorem dL_law_544 : decode cL_law 544 = .ok (.iconst 0, 1) := by decide +kernel
theorem dL_law_545 : decode cL_law 545 = .ok (.ireturn, 1) := by decide +kernel
theorem dL_law_546 : decode cL_law 546 = .ok (.aload_n 1, 1) := by decide +kernel
theorem dL_law_547 : decode cL_law 547 = .ok (.aload_n 0, 1) := by decide +kernel
theorem dL_law_548 : decode cL_law 548 = .ok (.iload_n 3, 1) := by decide +kernel
theorem dL_law_549 : decode cL_law 549 = .ok (.iconst 1, 1) := by decide +kernel
theorem dL_law_550 : decode cL_law 550 = .ok (.iadd, 1) := by decide +kernel
theorem dL_law_551 : decode cL_law 551 = .ok (.iaload, 1) := by decide +kernel
theorem dL_law_552 : decode cL_law 552 = .ok (.invokevirtual 80, 3) := by decide +kernel
theorem dL_law_555 : decode cL_law 555 = .ok (.aload_n 2, 1) := by decide +kernel
theorem dL_law_556 : decode cL_law 556 = .ok (.aload_n 0, 1) := by decide +kernel
theorem dL_law_557 : decode cL_law 557 = .ok (.iload_n 3, 1) := by decide +kernel
theorem dL_law_558 : decode cL_law 558 = .ok (.iconst 1, 1) := by decide +kernel
theorem dL_law_559 : decode cL_law 559 = .ok (.iadd, 1) := by decide +kernel
theorem dL_law_560 : decode cL_law 560 = .ok (.iaload, 1) := by decide +kernel
theorem dL_law_561 : decode cL_law 561 = .ok (.invokevirtual 83, 3) := by decide +kernel
theorem dL_law_564 : decode cL_law 564 = .ok (.if_icmp .eq 230, 3) := by decide +kernel
theorem dL_law_567 : decode cL_law 567 = .ok (.iconst 0, 1) := by decide +kernel
theorem dL_law_568 : decode cL_law 568 = .ok (.ireturn, 1) := by decide +kernel
theorem dL_law_569 : decode cL_law 569 = .ok (.aload_n 1, 1) := by decide +kernel
theorem dL_law_570 : decode cL_law 570 = .ok (.aload_n 0, 1) := by decide +kernel
theorem dL_law_571 : decode cL_law 571 = .ok (.iload_n 3, 1) := by decide +kernel
theorem dL_law_572 : decode cL_law 572 = .ok (.iconst 1, 1) := by decide +kernel
theorem dL_law_573 : decode cL_law 573 = .ok (.iadd, 1) := by decide +kernel
theorem dL_law_574 : decode cL_law 574 = .ok (.iaload, 1) := by decide +kernel
theorem dL_law_575 : decode cL_law 575 = .ok (.invokevirtual 84, 3) := by decide +kernel
theorem dL_law_578 : decode cL_law 578 = .ok (.aload_n 2, 1) := by decide +kernel
theorem dL_law_579 : decode cL_law 579 = .ok (.aload_n 0, 1) := by decide +kernel
theorem dL_law_580 : decode cL_law 580 = .ok (.iload_n 3, 1) := by decide +kernel
theorem dL_law_581 : decode cL_law 581 = .ok (.iconst 1, 1) := by decide +kernel
theorem dL_law_582 : decode cL_law 582 = .ok (.iadd, 1) := by decide +kernel
theorem dL_law_583 : decode cL_law 583 = .ok (.iaload, 1) := by decide +kernel
theorem dL_law_584 : decode cL_law 584 = .ok (.invokevirtual 87, 3) := by decide +kernel
theorem dL_law_587 : decode cL_law 587 = .ok (.if_icmp .eq 207, 3) := by decide +kernel
theorem dL_law_590 : decode cL_law 590 = .ok (.iconst 0, 1) := by decide +kernel
theorem dL_law_591 : decode cL_law 591 = .ok (.ireturn, 1) := by decide +kernel
theorem dL_law_592 : decode cL_law 592 = .ok (.aload_n 1, 1) := by decide +kernel
theorem dL_law_593 : decode cL_law 593 = .ok (.aload_n 0, 1) := by decide +kernel
theorem dL_law_594 : decode cL_law 594 = .ok (.iload_n 3, 1) := by decide +kernel
theorem dL_law_595 : decode cL_law 595 = .ok (.iconst 1, 1) := by decide +kernel
theorem dL_law_596 : decode cL_law 596 = .ok (.iadd, 1) := by decide +kernel
theorem dL_law_597 : decode cL_law 597 = .ok (.iaload, 1) := by decide +kernel
theorem dL_law_598 : decode cL_law 598 = .ok (.aload_n 0, 1) := by decide +kernel
theorem dL_law_599 : decode cL_law 599 = .ok (.iload_n 3, 1) := by decide +kernel
theorem dL_law_600 : decode cL_law 600 = .ok (.iconst 2, 1) := by decide +kernel
theorem dL_law_601 : decode cL_law 601 = .ok (.iadd, 1) := by decide +kernel
theorem dL_law_602 : decode cL_law 602 = .ok (.iaload, 1) := by decide +kernel
theorem dL_law_603 : decode cL_law 603 = .ok (.aload_n 0, 1) := by decide +kernel
theorem dL_law_604 : decode cL_law 604 = .ok (.iload_n 3, 1) := by decide +kernel
theorem dL_law_605 : decode cL_law 605 = .ok (.iconst 3, 1) := by decide +kernel
theorem dL_law_606 : decode cL_law 606 = .ok (.iadd, 1) := by decide +kernel
theorem dL_law_607 : decode cL_law 607 = .ok (.iaload, 1) := by decide +kernel
theorem dL_law_608 : decode cL_law 608 = .ok (.invokevirtual 88, 3) := by decide +kernel
theorem dL_law_611 : decode cL_law 611 = .ok (.aload_n 2, 1) := by decide +kernel
theorem dL_law_612 : decode cL_law 612 = .ok (.aload_n 0, 1) := by decide +kernel
theorem dL_law_613 : decode cL_law 613 = .ok (.iload_n 3, 1) := by decide +kernel
theorem dL_law_614 : decode cL_law 614 = .ok (.iconst 1, 1) := by decide +kernel
theorem dL_law_615 : decode cL_law 615 = .ok (.iadd, 1) := by decide +kernel
theorem dL_law_616 : decode cL_law 616 = .ok (.iaload, 1) := by decide +kernel
theorem dL_law_617 : decode cL_law 617 = .ok (.aload_n 0, 1) := by decide +kernel
theorem dL_law_618 : decode cL_law 618 = .ok (.iload_n 3, 1) := by decide +kernel
theorem dL_law_619 : decode cL_law 619 = .ok (.iconst 2, 1) := by decide +kernel
theorem dL_law_620 : decode cL_law 620 = .ok (.iadd, 1) := by decide +kernel
theorem dL_law_621 : decode cL_law 621 = .ok (.iaload, 1) := by decide +kernel
theorem dL_law_622 : decode cL_law 622 = .ok (.aload_n 0, 1) := by decide +kernel
theorem dL_law_623 : decode cL_law 623 = .ok (.iload_n 3, 1) := by decide +kernel
theorem dL_law_624 : decode cL_law 624 = .ok (.iconst 3, 1) := by decide +kernel
theorem dL_law_625 : decode cL_law 625 = .ok (.iadd, 1) := by decide +kernel
theorem dL_law_626 : decode cL_law 626 = .ok (.iaload, 1) := by decide +kernel
theorem dL_law_627 : decode cL_law 627 = .ok (.invokevirtual 92, 3) := by decide +kernel
theorem dL_law_630 : decode cL_law 630 = .ok (.if_icmp .eq 164, 3) := by decide +kernel
theorem dL_law_633 : decode cL_law 633 = .ok (.iconst 0, 1) := by decide +kernel
theorem dL_law_634 : decode cL_law 634 = .ok (.ireturn, 1) := by decide +kernel
theorem dL_law_635 : decode cL_law 635 = .ok (.aload_n 1, 1) := by decide +kernel
theorem dL_law_636 : decode cL_law 636 = .ok (.invokevirtual 93, 3) := by decide +kernel
theorem dL_law_639 : decode cL_law 639 = .ok (.aload_n 2, 1) := by decide +kernel
theorem dL_law_640 : decode cL_law 640 = .ok (.invokevirtual 96, 3) := by decide +kernel
theorem dL_law_643 : decode cL_law 643 = .ok (.if_icmp .eq 151, 3) := by decide +kernel
theorem dL_law_646 : decode cL_law 646 = .ok (.iconst 0, 1) := by decide +kernel
theorem dL_law_647 : decode cL_law 647 = .ok (.ireturn, 1) := by decide +kernel
theorem dL_law_648 : decode cL_law 648 = .ok (.aload_n 1, 1) := by decide +kernel
theorem dL_law_649 : decode cL_law 649 = .ok (.aload_n 0, 1) := by decide +kernel
theorem dL_law_650 : decode cL_law 650 = .ok (.iload_n 3, 1) := by decide +kernel
theorem dL_law_651 : decode cL_law 651 = .ok (.iconst 1, 1) := by decide +kernel
theorem dL_law_652 : decode cL_law 652 = .ok (.iadd, 1) := by decide +kernel
theorem dL_law_653 : decode cL_law 653 = .ok (.iaload, 1) := by decide +kernel
theorem dL_law_654 : decode cL_law 654 = .ok (.aload_n 0, 1) := by decide +kernel
theorem dL_law_655 : decode cL_law 655 = .ok (.iload_n 3, 1) := by decide +kernel
theorem dL_law_656 : decode cL_law 656 = .ok (.iconst 2, 1) := by decide +kernel
theorem dL_law_657 : decode cL_law 657 = .ok (.iadd, 1) := by decide +kernel
theorem dL_law_658 : decode cL_law 658 = .ok (.iaload, 1) := by decide +kernel
theorem dL_law_659 : decode cL_law 659 = .ok (.aload_n 0, 1) := by decide +kernel
theorem dL_law_660 : decode cL_law 660 = .ok (.iload_n 3, 1) := by decide +kernel
theorem dL_law_661 : decode cL_law 661 = .ok (.iconst 3, 1) := by decide +kernel
theorem dL_law_662 : decode cL_law 662 = .ok (.iadd, 1) := by decide +kernel
theorem dL_law_663 : decode cL_law 663 = .ok (.iaload, 1) := by decide +kernel
theorem dL_law_664 : decode cL_law 664 = .ok (.invokevirtual 97, 3) := by decide +kernel
theorem dL_law_667 : decode cL_law 667 = .ok (.aload_n 2, 1) := by decide +kernel
theorem dL_law_668 : decode cL_law 668 = .ok (.aload_n 0, 1) := by decide +kernel
theorem dL_law_669 : decode cL_law 669 = .ok (.iload_n 3, 1) := by decide +kernel
theorem dL_law_670 : decode cL_law 670 = .ok (.iconst 1, 1) := by decide +kernel
theorem dL_law_671 : decode cL_law 671 = .ok (.iadd, 1) := by decide +kernel
theorem dL_law_672 : decode cL_law 672 = .ok (.iaload, 1) := by decide +kernel
theorem dL_law_673 : decode cL_law 673 = .ok (.aload_n 0, 1) := by decide +kernel
theorem dL_law_674 : decode cL_law 674 = .ok (.iload_n 3, 1) := by decide +kernel
theorem dL_law_675 : decode cL_law 675 = .ok (.iconst 2, 1) := by decide +kernel
theorem dL_law_676 : decode cL_law 676 = .ok (.iadd, 1) := by decide +kernel
theorem dL_law_677 : decode cL_law 677 = .ok (.iaload, 1) := by decide +kernel
theorem dL_law_678 : decode cL_law 678 = .ok (.aload_n 0, 1) := by decide +kernel
theorem dL_law_679 : decode cL_law 679 = .ok (.iload_n 3, 1) := by decide +kernel
theorem dL_law_680 : decode cL_law 680 = .ok (.iconst 3, 1) := by decide +kernel
theorem dL_law_681 : decode cL_law 681 = .ok (.iadd, 1) := by decide +kernel
theorem dL_law_682 : decode cL_law 682 = .ok (.iaload, 1) := by decide +kernel
theorem dL_law_683 : decode cL_law 683 = .ok (.invokevirtual 100, 3) := by decide +kernel
theorem dL_law_686 : decode cL_law 686 = .ok (.if_icmp .eq 108, 3) := by decide +kernel
theorem dL_law_689 : decode cL_law 689 = .ok (.iconst 0, 1) := by decide +kernel
theorem dL_law_690 : decode cL_law 690 = .ok (.ireturn, 1) := by decide +kernel
theorem dL_law_691 : decode cL_law 691 = .ok (.aload_n 1, 1) := by decide +kernel
theorem dL_law_692 : decode cL_law 692 = .ok (.aload_n 0, 1) := by decide +kernel
theorem dL_law_693 : decode cL_law 693 = .ok (.iload_n 3, 1) := by decide +kernel
theorem dL_law_694 : decode cL_law 694 = .ok (.iconst 1, 1) := by decide +kernel
theorem dL_law_695 : decode cL_law 695 = .ok (.iadd, 1) := by decide +kernel
theorem dL_law_696 : decode cL_law 696 = .ok (.iaload, 1) := by decide +kernel
theorem dL_law_697 : decode cL_law 697 = .ok (.aload_n 0, 1) := by decide +kernel
theorem dL_law_698 : decode cL_law 698 = .ok (.iload_n 3, 1) := by decide +kernel
theorem dL_law_699 : decode cL_law 699 = .ok (.iconst 2, 1) := by decide +kernel
theorem dL_law_700 : decode cL_law 700 = .ok (.iadd, 1) := by decide +kernel
theorem dL_law_701 : decode cL_law 701 = .ok (.iaload, 1) := by decide +kernel
theorem dL_law_702 : decode cL_law 702 = .ok (.invokevirtual 101, 3) := by decide +kernel
theorem dL_law_705 : decode cL_law 705 = .ok (.aload_n 2, 1) := by decide +kernel
theorem dL_law_706 : decode cL_law 706 = .ok (.aload_n 0, 1) := by decide +kernel
theorem dL_law_707 : decode cL_law 707 = .ok (.iload_n 3, 1) := by decide +kernel
theorem dL_law_708 : decode cL_law 708 = .ok (.iconst 1, 1) := by decide +kernel
theorem dL_law_709 : decode cL_law 709 = .ok (.iadd, 1) := by decide +kernel
theorem dL_law_710 : decode cL_law 710 = .ok (.iaload, 1) := by decide +kernel
theorem dL_law_711 : decode cL_law 711 = .ok (.aload_n 0, 1) := by decide +kernel
theorem dL_law_712 : decode cL_law 712 = .ok (.iload_n 3, 1) := by decide +kernel
theorem dL_law_713 : decode cL_law 713 = .ok (.iconst 2, 1) := by decide +kernel
theorem dL_law_714 : decode cL_law 714 = .ok (.iadd, 1) := by decide +kernel
theorem dL_law_715 : decode cL_law 715 = .ok (.iaload, 1) := by decide +kernel
theorem dL_law_716 : decode cL_law 716 = .ok (.invokevirtual 104, 3) := by decide +kernel
theorem dL_law_719 : decode cL_law 719 = .ok (.if_icmp .eq 75, 3) := by decide +kernel
theorem dL_law_722 : decode cL_law 722 = .ok (.iconst 0, 1) := by decide +kernel
theorem dL_law_723 : decode cL_law 723 = .ok (.ireturn, 1) := by decide +kernel
theorem dL_law_724 : decode cL_law 724 = .ok (.aload_n 1, 1) := by decide +kernel
theorem dL_law_725 : decode cL_law 725 = .ok (.aload_n 0, 1) := by decide +kernel
theorem dL_law_726 : decode cL_law 726 = .ok (.iload_n 3, 1) := by decide +kernel
theorem dL_law_727 : decode cL_law 727 = .ok (.iconst 1, 1) := by decide +kernel
theorem dL_law_728 : decode cL_law 728 = .ok (.iadd, 1) := by decide +kernel
theorem dL_law_729 : decode cL_law 729 = .ok (.iaload, 1) := by decide +kernel
theorem dL_law_730 : decode cL_law 730 = .ok (.aload_n 0, 1) := by decide +kernel
theorem dL_law_731 : decode cL_law 731 = .ok (.iload_n 3, 1) := by decide +kernel
theorem dL_law_732 : decode cL_law 732 = .ok (.iconst 2, 1) := by decide +kernel
theorem dL_law_733 : decode cL_law 733 = .ok (.iadd, 1) := by decide +kernel
theorem dL_law_734 : decode cL_law 734 = .ok (.iaload, 1) := by decide +kernel
theorem dL_law_735 : decode cL_law 735 = .ok (.invokevirtual 105, 3) := by decide +kernel
theorem dL_law_738 : decode cL_law 738 = .ok (.aload_n 2, 1) := by decide +kernel
theorem dL_law_739 : decode cL_law 739 = .ok (.aload_n 0, 1) := by decide +kernel
theorem dL_law_740 : decode cL_law 740 = .ok (.iload_n 3, 1) := by decide +kernel
theorem dL_law_741 : decode cL_law 741 = .ok (.iconst 1, 1) := by decide +kernel
theorem dL_law_742 : decode cL_law 742 = .ok (.iadd, 1) := by decide +kernel
theorem dL_law_743 : decode cL_law 743 = .ok (.iaload, 1) := by decide +kernel
theorem dL_law_744 : decode cL_law 744 = .ok (.aload_n 0, 1) := by decide +kernel
theorem dL_law_745 : decode cL_law 745 = .ok (.iload_n 3, 1) := by decide +kernel
theorem dL_law_746 : decode cL_law 746 = .ok (.iconst 2, 1) := by decide +kernel
theorem dL_law_747 : decode cL_law 747 = .ok (.iadd, 1) := by decide +kernel
theorem dL_law_748 : decode cL_law 748 = .ok (.iaload, 1) := by decide +kernel
theorem dL_law_749 : decode cL_law 749 = .ok (.invokevirtual 108, 3) := by decide +kernel
theorem dL_law_752 : decode cL_law 752 = .ok (.if_icmp .eq 42, 3) := by decide +kernel
theorem dL_law_755 : decode cL_law 755 = .ok (.iconst 0, 1) := by decide +kernel
theorem dL_law_756 : decode cL_law 756 = .ok (.ireturn, 1) := by decide +kernel
theorem dL_law_757 : decode cL_law 757 = .ok (.aload_n 1, 1) := by decide +kernel
theorem dL_law_758 : decode cL_law 758 = .ok (.aload_n 0, 1) := by decide +kernel
theorem dL_law_759 : decode cL_law 759 = .ok (.iload_n 3, 1) := by decide +kernel
theorem dL_law_760 : decode cL_law 760 = .ok (.iconst 1, 1) := by decide +kernel
theorem dL_law_761 : decode cL_law 761 = .ok (.iadd, 1) := by decide +kernel
theorem dL_law_762 : decode cL_law 762 = .ok (.iaload, 1) := by decide +kernel
theorem dL_law_763 : decode cL_law 763 = .ok (.invokevirtual 109, 3) := by decide +kernel
theorem dL_law_766 : decode cL_law 766 = .ok (.aload_n 2, 1) := by decide +kernel
theorem dL_law_767 : decode cL_law 767 = .ok (.aload_n 0, 1) := by decide +kernel
theorem dL_law_768 : decode cL_law 768 = .ok (.iload_n 3, 1) := by decide +kernel
theorem dL_law_769 : decode cL_law 769 = .ok (.iconst 1, 1) := by decide +kernel
theorem dL_law_770 : decode cL_law 770 = .ok (.iadd, 1) := by decide +kernel
theorem dL_law_771 : decode cL_law 771 = .ok (.iaload, 1) := by decide +kernel
theorem dL_law_772 : decode cL_law 772 = .ok (.invokevirtual 112, 3) := by decide +kernel
theorem dL_law_775 : decode cL_law 775 = .ok (.if_icmp .eq 19, 3) := by decide +kernel
theorem dL_law_778 : decode cL_law 778 = .ok (.iconst 0, 1) := by decide +kernel
theorem dL_law_779 : decode cL_law 779 = .ok (.ireturn, 1) := by decide +kernel
theorem dL_law_780 : decode cL_law 780 = .ok (.aload_n 1, 1) := by decide +kernel
theorem dL_law_781 : decode cL_law 781 = .ok (.invokevirtual 113, 3) := by decide +kernel
theorem dL_law_784 : decode cL_law 784 = .ok (.aload_n 2, 1) := by decide +kernel
theorem dL_law_785 : decode cL_law 785 = .ok (.invokevirtual 117, 3) := by decide +kernel
theorem dL_law_788 : decode cL_law 788 = .ok (.lcmp, 1) := by decide +kernel
theorem dL_law_789 : decode cL_law 789 = .ok (.ifCond .eq 5, 3) := by decide +kernel
theorem dL_law_792 : decode cL_law 792 = .ok (.iconst 0, 1) := by decide +kernel
theorem dL_law_793 : decode cL_law 793 = .ok (.ireturn, 1) := by decide +kernel
theorem dL_law_794 : decode cL_law 794 = .ok (.iinc 3 4, 3) := by decide +kernel
theorem dL_law_797 : decode cL_law 797 = .ok (.goto (-779), 3) := by decide +kernel
theorem dL_law_800 : decode cL_law 800 = .ok (.iconst 1, 1) := by decide +kernel
theorem dL_law_801 : decode cL_law 801 = .ok (.ireturn, 1) := by decide +kernel
end
section
/-! the state: what the int cells and the long cells hold, by cell and place; the world: the 39 cells of one VouchFlow (0 to 24) and one VouchFlowModel (25 to 38) -/
abbrev St : Type := (Nat → Nat → Int32) × (Nat → Nat → Int64)
def cI (S : St) (k : Nat) (f : Nat → Int32) : St := (fun a => if a = k then f else S.1 a, S.2)
def cJ (S : St) (k : Nat) (f : Nat → Int64) : St := (S.1, fun a => if a = k then f else S.2 a)
abbrev si (S : St) (k j : Nat) (v : Int32) : St := cI S k (upd (S.1 k) j v)
abbrev sj (S : St) (k j : Nat) (v : Int64) : St := cJ S k (vp_updL (S.2 k) j v)
abbrev Wt : Type := va_G × (Nat → Nat) × ClassId × ClassId
abbrev rr (w : Wt) (k : Nat) : Value := .ref (w.2.1 k)
def Wd (w : Wt) (S : St) : va_W := [(w.2.1 0, .inr (6, [.ref (w.2.1 1), .int (S.1 0 1), .ref (w.2.1 2), .ref (w.2.1 6), .ref (w.2.1 11), .ref (w.2.1 13), .ref (w.2.1 14), .ref (w.2.1 22), .int (S.1 0 8), .int (S.1 0 9), .int (S.1 0 10)])),
  (w.2.1 1, .inl (w.2.2.1, 110, .inl (S.1 1))),
  (w.2.1 2, .inr (0, [.int (S.1 2 0), .int (S.1 2 1), .ref (w.2.1 3), .ref (w.2.1 4), .ref (w.2.1 5)])),
  (w.2.1 3, .inl (w.2.2.1, 5, .inl (S.1 3))),
  (w.2.1 4, .inl (w.2.2.1, 9, .inl (S.1 4))),
  (w.2.1 5, .inl (w.2.2.1, 9, .inl (S.1 5))),
  (w.2.1 6, .inr (2, [.ref (w.2.1 7), .int (S.1 6 1), .int (S.1 6 2), .int (S.1 6 3)])),
  (w.2.1 7, .inr (0, [.int (S.1 7 0), .int (S.1 7 1), .ref (w.2.1 8), .ref (w.2.1 9), .ref (w.2.1 10)])),
  (w.2.1 8, .inl (w.2.2.1, 5, .inl (S.1 8))),
  (w.2.1 9, .inl (w.2.2.1, 9, .inl (S.1 9))),
  (w.2.1 10, .inl (w.2.2.1, 9, .inl (S.1 10))),
  (w.2.1 11, .inr (5, [.ref (w.2.1 12), .int (S.1 11 1)])),
  (w.2.1 12, .inl (w.2.2.1, 115, .inl (S.1 12))),
  (w.2.1 13, .inr (1, [.ref (w.2.1 14), .ref (w.2.1 18), .ref (w.2.1 19), .ref (w.2.1 20), .ref (w.2.1 21), .int (S.1 13 5), .int (S.1 13 6)])),
  (w.2.1 14, .inr (4, [.int (S.1 14 0), .int (S.1 14 1), .ref (w.2.1 15), .ref (w.2.1 16), .ref (w.2.1 17)])),
  (w.2.1 15, .inl (w.2.2.1, 9, .inl (S.1 15))),
  (w.2.1 16, .inl (w.2.2.1, 9, .inl (S.1 16))),
  (w.2.1 17, .inl (w.2.2.1, 9, .inl (S.1 17))),
  (w.2.1 18, .inl (w.2.2.1, 9, .inl (S.1 18))),
  (w.2.1 19, .inl (w.2.2.1, 81, .inl (S.1 19))),
  (w.2.1 20, .inl (w.2.2.1, 18, .inl (S.1 20))),
  (w.2.1 21, .inl (w.2.2.1, 18, .inl (S.1 21))),
  (w.2.1 22, .inr (3, [.int (S.1 22 0), .long (S.2 22 1), .ref (w.2.1 23), .ref (w.2.1 24)])),
  (w.2.1 23, .inl (w.2.2.2, 9, .inr (.inl (S.2 23)))),
  (w.2.1 24, .inl (w.2.2.2, 9, .inr (.inl (S.2 24)))),
  (w.2.1 25, .inr (7, [.int (S.1 25 0), .ref (w.2.1 26), .ref (w.2.1 27), .int (S.1 25 3), .ref (w.2.1 28), .int (S.1 25 5), .int (S.1 25 6), .int (S.1 25 7), .int (S.1 25 8), .ref (w.2.1 29), .int (S.1 25 10), .int (S.1 25 11), .int (S.1 25 12), .ref (w.2.1 30), .int (S.1 25 14), .int (S.1 25 15), .int (S.1 25 16), .ref (w.2.1 31), .ref (w.2.1 32), .int (S.1 25 19), .int (S.1 25 20), .int (S.1 25 21), .ref (w.2.1 33), .ref (w.2.1 34), .ref (w.2.1 35), .ref (w.2.1 36), .ref (w.2.1 37), .ref (w.2.1 38), .long (S.2 25 28), .long (S.2 25 29)])),
  (w.2.1 26, .inl (w.2.2.1, 9, .inl (S.1 26))),
  (w.2.1 27, .inl (w.2.2.1, 9, .inl (S.1 27))),
  (w.2.1 28, .inl (w.2.2.1, 5, .inl (S.1 28))),
  (w.2.1 29, .inl (w.2.2.1, 110, .inl (S.1 29))),
  (w.2.1 30, .inl (w.2.2.1, 5, .inl (S.1 30))),
  (w.2.1 31, .inl (w.2.2.1, 9, .inl (S.1 31))),
  (w.2.1 32, .inl (w.2.2.1, 9, .inl (S.1 32))),
  (w.2.1 33, .inl (w.2.2.1, 9, .inl (S.1 33))),
  (w.2.1 34, .inl (w.2.2.1, 9, .inl (S.1 34))),
  (w.2.1 35, .inl (w.2.2.1, 512, .inl (S.1 35))),
  (w.2.1 36, .inl (w.2.2.1, 9, .inl (S.1 36))),
  (w.2.1 37, .inl (w.2.2.2, 9, .inr (.inl (S.2 37)))),
  (w.2.1 38, .inl (w.2.2.2, 9, .inr (.inl (S.2 38))))]
abbrev tysW (w : Wt) : List (ClassId × FieldType) := [(w.2.2.1, .int), (w.2.2.2, .long)]
def AW (w : Wt) : Nat → Prop := fun q => ∃ k, k < 39 ∧ w.2.1 k = q
def WOK (w : Wt) : Prop := ∀ i j, i < 39 → j < 39 → w.2.1 i = w.2.1 j → i = j
theorem wd_fst (w : Wt) (S : St) {i : Nat} {q : Nat × va_E} (h : (Wd w S)[i]? = some q) : i < 39 ∧ q.1 = w.2.1 i := by
  have e : (Wd w S).map Prod.fst = (List.range 39).map w.2.1 := rfl
  have hl : i < 39 := (List.getElem?_eq_some_iff.mp h).1
  refine ⟨hl, ?_⟩
  have h1 : ((Wd w S).map Prod.fst)[i]? = some q.1 := by rw [List.getElem?_map, h]; rfl
  rw [e, List.getElem?_map, List.getElem?_range hl] at h1
  exact (Option.some.inj h1).symm
theorem wd_D {w : Wt} {S : St} {A : Nat → Prop} (h : WOK w) (hA : ∀ k, k < 39 → A (w.2.1 k)) : va_D A (Wd w S) := by
  refine ⟨fun i j p q hp hq e => ?_, fun k q hq => ?_⟩
  · obtain ⟨h1, e1⟩ := wd_fst w S hp
    obtain ⟨h2, e2⟩ := wd_fst w S hq
    exact h i j h1 h2 (by rw [← e1, ← e2, e])
  · obtain ⟨h1, e1⟩ := wd_fst w S hq
    rw [e1]; exact hA k h1
/-! the words -/
def TB : List Cond := lw_tbl.filter goodWord
theorem tb_mem {w : Cond} (i : Nat) (h : lw_tbl[i]? = some w) (hg : goodWord w = true) : w ∈ TB := List.mem_filter.mpr ⟨List.mem_of_getElem? h, hg⟩
theorem tb_good {c : Cond} (h : c ∈ TB) : GoodIn TB (c :: TB) := by
  intro x hx
  have hx : x ∈ TB := by
    rcases List.mem_cons.mp hx with h1 | h1
    · rw [h1]; exact h
    · exact h1
  exact ⟨hx, good_of_word (List.mem_filter.mp hx).2⟩
def NL : List (String × Nat × MethodName × String) := [("VouchFlow", 15, ⟨"VouchFlow$Circle", "<init>", "()V"⟩, "VouchFlow"), ("VouchFlow", 22, ⟨"VouchFlow$Reader", "<init>", "()V"⟩, "VouchFlow"), ("VouchFlow$Reader", 11, ⟨"VouchFlow$Circle", "<init>", "()V"⟩, "VouchFlow"), ("VouchFlow", 29, ⟨"VouchFlow$Writer", "<init>", "()V"⟩, "VouchFlow"), ("VouchFlow", 36, ⟨"VouchFlow$Flow", "<init>", "()V"⟩, "VouchFlow"), ("VouchFlow$Flow", 11, ⟨"VouchFlow$Web", "<init>", "()V"⟩, "VouchFlow"), ("VouchFlow", 48, ⟨"VouchFlow$Walk", "<init>", "()V"⟩, "VouchFlow"), ("VouchFlow$Circle", 44, ⟨"VouchFlow", "bit", "(II)I"⟩, "VouchFlow"), ("VouchFlow$Web", 42, ⟨"VouchFlow", "bit", "(II)I"⟩, "VouchFlow"), ("VouchFlow$Flow", 45, ⟨"VouchFlow", "bit", "(II)I"⟩, "VouchFlow"), ("VouchFlow$Walk", 64, ⟨"VouchFlow", "bit", "(II)I"⟩, "VouchFlow")]
def nwd (q : String × Nat × MethodName × String) : Cond := .methodLinkNest q.1 q.2.1 q.2.2.1 q.2.2.2
def NWs (U : State) : Prop := ∀ q ∈ NL, va_Nw (nwd q) U
def GK (w : Wt) (U : State) : Prop := va_K w.1 vwCl (tysW w) U ∧ NWs U
theorem GK.moved {w : Wt} {s U : State} (hW : s.WarmedH U.vm) (h : GK w s) : GK w U := ⟨va_K.moved hW.alike h.1, fun q hq => va_Nw.warmM hW (h.2 q hq)⟩
theorem GK.same {w : Wt} {s U : State} (e : s.vm = U.vm) (h : GK w s) : GK w U := ⟨va_K.moved (by rw [e]; exact Vm.Alike.refl _) h.1, fun q hq => va_Nw.same rfl e (h.2 q hq)⟩
def Pw (w : Wt) (S : St) (U : State) : Prop := va_P w.1 vwCl (Wd w S) U.heap ∧ GK w U
def Bw (w : Wt) (S : St) (t : State) : Prop := va_P w.1 vwCl (Wd w S) t.heap
theorem pw_blind (w : Wt) (S : St) (av : List Value) : FrameBlind (va_Pc av (Pw w S)) := fun a U g mk h => ⟨h.1, h.2.1, GK.same rfl h.2.2⟩
/-- the contracts: an int (or boolean), a long, nothing -/
def MI (l : Launch) (w : Wt) (y : MethodName) (cc : ByteArray) (nL : Nat) (ty : FieldType) (rm : Room) (av : List Value) (S : St) (Q : Int32 → St → Prop) : Prop := Met l y (.code y cc nL (some ty) :: TB) rm (va_Pc av (Pw w S)) (va_Qi Q (Bw w) (AW w)) 0 0 (AW w)
def ML (l : Launch) (w : Wt) (y : MethodName) (cc : ByteArray) (nL : Nat) (rm : Room) (av : List Value) (S : St) (Q : Int64 → St → Prop) : Prop := Met l y (.code y cc nL (some .long) :: TB) rm (va_Pc av (Pw w S)) (va_Ql Q (Bw w) (AW w)) 0 0 (AW w)
def MV (l : Launch) (w : Wt) (y : MethodName) (cc : ByteArray) (nL : Nat) (rm : Room) (av : List Value) (S : St) (Q : St → Prop) : Prop := Met l y (.code y cc nL none :: TB) rm (va_Pc av (Pw w S)) (va_Qv Q (Bw w) (AW w)) 0 0 (AW w)
/-- the machine at a frame -/
abbrev Mx : Type := Program × Launch × Env × Room × State × MethodId × Array Value × List Frame × Method × Code × (Nat → Prop) × Nat × Nat × Nat
def J (X : Mx) (w : Wt) (Q : State → Prop) (pc : Nat) (lv : List (Nat × Value)) (st : List Value) (S : St) : Prop := match X with
  | (p, l, e, R, s, m, args, below, meth, c, A, nL, cells, slots) => ∀ (H : Heap) (locs : List Loc) (ls : Array Slot), va_P w.1 vwCl (Wd w S) H → va_S A s.heap H locs → lv_has ls nL lv → W p l e R s m args below meth c H locs cells slots Q (F0 m pc ls st)
def Cx (X : Mx) (w : Wt) (l0 : Launch) (cc : ByteArray) (n0 : Nat) (own : String) (rm : Room) (ret : Option FieldType) : Prop := match X with
  | (p, l, e, R, s, m, args, below, meth, c, A, nL, cells, slots) => (p.tables.exec = Jvm.exec ∧ c.code = cc ∧ c.maxLocals = nL ∧ s.vm.findClass own = some m.cls ∧ (∀ x ∈ TB, x.before args s = true)) ∧ GK w s ∧ WOK w ∧ (∀ k, k < 39 → A (w.2.1 k)) ∧ R = rm ∧ nL = n0 ∧ meth.sig.returnType = ret ∧ meth.locks = false ∧ cells ≤ R.cells ∧ slots ≤ R.slots ∧ l = l0
def QI (X : Mx) (w : Wt) (Q : Int32 → St → Prop) : State → Prop := match X with
  | (p, l, e, R, s, m, args, below, meth, c, A, nL, cells, slots) => MQ below (va_Qi Q (Bw w) A) args s cells slots A
def QL (X : Mx) (w : Wt) (Q : Int64 → St → Prop) : State → Prop := match X with
  | (p, l, e, R, s, m, args, below, meth, c, A, nL, cells, slots) => MQ below (va_Ql Q (Bw w) A) args s cells slots A
def QV (X : Mx) (w : Wt) (Q : St → Prop) : State → Prop := match X with
  | (p, l, e, R, s, m, args, below, meth, c, A, nL, cells, slots) => MQ below (va_Qv Q (Bw w) A) args s cells slots A
/-- loops -/
def Lp {α : Type} (F : (α → Prop) → α → Prop) : Nat → α → Prop
  | 0, _ => False
  | n + 1, a => F (Lp F n) a
def Lq {α : Type} (F : (α → Prop) → α → Prop) (a : α) : Prop := ∃ n, Lp F n a
theorem Lq_ind {α : Type} {F : (α → Prop) → α → Prop} (I : α → Prop) (μ : α → Nat) (h : ∀ a, I a → ∀ K : α → Prop, (∀ a', I a' → μ a' < μ a → K a') → F K a) : ∀ a, I a → Lq F a := by
  have key : ∀ n a, I a → μ a < n → Lp F n a := by
    intro n
    induction n with
    | zero => intro a _ hn; omega
    | succ n ih => intro a ha hn; exact h a ha _ (fun a' h1 h2 => ih a' h1 (by omega))
  exact fun a ha => ⟨μ a + 1, key _ a ha (by omega)⟩
theorem Lq_use {α : Type} {F : (α → Prop) → α → Prop} {G : α → Prop} (h : ∀ K : α → Prop, (∀ a, K a → G a) → ∀ a, F K a → G a) {a : α} (ha : Lq F a) : G a := by
  obtain ⟨n, hn⟩ := ha
  have key : ∀ n a, Lp F n a → G a := by
    intro n
    induction n with
    | zero => intro a h0; exact absurd h0 (fun q => q)
    | succ n ih => intro a h1; exact h _ ih a h1
  exact key n a hn
theorem Cx.wok {X : Mx} {w : Wt} {l0 : Launch} {cc : ByteArray} {n0 : Nat} {own : String} {rm : Room} {ret : Option FieldType} (C : Cx X w l0 cc n0 own rm ret) : WOK w := by
  obtain ⟨p, l, e, R, s, m, args, below, meth, c, A, nL, cells, slots⟩ := X
  exact C.2.2.1
def bz (v : Int32) : Prop := v = 0 ∨ v = 1
theorem bz0 : bz 0 := Or.inl rfl
theorem bz1 : bz 1 := Or.inr rfl
theorem bz_nar {v : Int32} (h : bz v) : narrow .boolean (.int v) = .int v := by
  rcases h with h | h <;> subst h <;> rfl
section Rows
variable {X : Mx} {w : Wt} {l0 : Launch} {cc : ByteArray} {n0 : Nat} {own : String} {rm : Room} {ret : Option FieldType} {Q : State → Prop} {pc : Nat} {lv lv' : List (Nat × Value)} {st : List Value} {S : St}
theorem j_sub (ks : List Nat) (e : lv_pick lv ks = lv') (h : J X w Q pc lv' st S) : J X w Q pc lv st S := by
  obtain ⟨p, l, e', R, s, m, args, below, meth, c, A, nL, cells, slots⟩ := X
  intro H locs ls hP hS hl
  exact h H locs ls hP hS (lv_sub hl ks e)
theorem j_iconst (C : Cx X w l0 cc n0 own rm ret) {n : Int} {v : Int32} (hd : decode cc pc = .ok (.iconst n, 1)) (hv : Int32.ofInt n = v) (h : J X w Q (pc + 1) lv (.int v :: st) S) : J X w Q pc lv st S := by
  obtain ⟨p, l, e, R, s, m, args, below, meth, c, A, nL, cells, slots⟩ := X
  intro H locs ls hP hS hl
  obtain ⟨⟨hx, hb, hml, hown, hts⟩, hG, hW, hA, hR, hn, hrt, hlk, hc1, hc2, hl0⟩ := C
  exact lv_iconst hx hb hd hv (h H locs ls hP hS hl)
theorem j_bipush (C : Cx X w l0 cc n0 own rm ret) {n : Int} {v : Int32} (hd : decode cc pc = .ok (.bipush n, 2)) (hv : (Int8.ofInt n).toInt32 = v) (h : J X w Q (pc + 2) lv (.int v :: st) S) : J X w Q pc lv st S := by
  obtain ⟨p, l, e, R, s, m, args, below, meth, c, A, nL, cells, slots⟩ := X
  intro H locs ls hP hS hl
  obtain ⟨⟨hx, hb, hml, hown, hts⟩, hG, hW, hA, hR, hn, hrt, hlk, hc1, hc2, hl0⟩ := C
  exact lv_bipush hx hb hd hv (h H locs ls hP hS hl)
theorem j_sipush (C : Cx X w l0 cc n0 own rm ret) {n : Int} {v : Int32} (hd : decode cc pc = .ok (.sipush n, 3)) (hv : (Int16.ofInt n).toInt32 = v) (h : J X w Q (pc + 3) lv (.int v :: st) S) : J X w Q pc lv st S := by
  obtain ⟨p, l, e, R, s, m, args, below, meth, c, A, nL, cells, slots⟩ := X
  intro H locs ls hP hS hl
  obtain ⟨⟨hx, hb, hml, hown, hts⟩, hG, hW, hA, hR, hn, hrt, hlk, hc1, hc2, hl0⟩ := C
  exact lv_sipush hx hb hd hv (h H locs ls hP hS hl)
theorem j_lconst (C : Cx X w l0 cc n0 own rm ret) {n : Fin 2} {v : Int64} (hd : decode cc pc = .ok (.lconst n, 1)) (hv : Int64.ofNat (n : Nat) = v) (h : J X w Q (pc + 1) lv (.long v :: st) S) : J X w Q pc lv st S := by
  obtain ⟨p, l, e, R, s, m, args, below, meth, c, A, nL, cells, slots⟩ := X
  intro H locs ls hP hS hl
  obtain ⟨⟨hx, hb, hml, hown, hts⟩, hG, hW, hA, hR, hn, hrt, hlk, hc1, hc2, hl0⟩ := C
  exact lv_lconst hx hb hd hv (h H locs ls hP hS hl)
theorem j_ldc2 (C : Cx X w l0 cc n0 own rm ret) {index : Nat} {v : Int64} (hd : decode cc pc = .ok (.ldc2_w index, 3)) (hk : Cond.constantLong own index v ∈ TB) (h : J X w Q (pc + 3) lv (.long v :: st) S) : J X w Q pc lv st S := by
  obtain ⟨p, l, e, R, s, m, args, below, meth, c, A, nL, cells, slots⟩ := X
  intro H locs ls hP hS hl
  obtain ⟨⟨hx, hb, hml, hown, hts⟩, hG, hW, hA, hR, hn, hrt, hlk, hc1, hc2, hl0⟩ := C
  exact lv_ldc2 hx hb hown (hts _ hk) hd (h H locs ls hP hS hl)
theorem j_ldcw (C : Cx X w l0 cc n0 own rm ret) {index : Nat} {v : Int32} (hd : decode cc pc = .ok (.ldc_w index, 3)) (hk : Cond.constant own index v ∈ TB) (h : J X w Q (pc + 3) lv (.int v :: st) S) : J X w Q pc lv st S := by
  obtain ⟨p, l, e, R, s, m, args, below, meth, c, A, nL, cells, slots⟩ := X
  intro H locs ls hP hS hl
  obtain ⟨⟨hx, hb, hml, hown, hts⟩, hG, hW, hA, hR, hn, hrt, hlk, hc1, hc2, hl0⟩ := C
  exact lv_ldcw hx hb hown (hts _ hk) hd (h H locs ls hP hS hl)
theorem j_iload_n (C : Cx X w l0 cc n0 own rm ret) {k : Fin 4} {i : Nat} {x : Int32} (hd : decode cc pc = .ok (.iload_n k, 1)) (q : Nat) (hq : lv[q]? = some (i, .int x)) (hi : (k : Nat) = i) (h : J X w Q (pc + 1) lv (.int x :: st) S) : J X w Q pc lv st S := by
  obtain ⟨p, l, e, R, s, m, args, below, meth, c, A, nL, cells, slots⟩ := X
  intro H locs ls hP hS hl
  obtain ⟨⟨hx, hb, hml, hown, hts⟩, hG, hW, hA, hR, hn, hrt, hlk, hc1, hc2, hl0⟩ := C
  exact lv_iload_n hx hb hd hi (lv_at hl q hq) (h H locs ls hP hS hl)
theorem j_iload (C : Cx X w l0 cc n0 own rm ret) {i : Nat} {x : Int32} (hd : decode cc pc = .ok (.iload i, 2)) (q : Nat) (hq : lv[q]? = some (i, .int x)) (h : J X w Q (pc + 2) lv (.int x :: st) S) : J X w Q pc lv st S := by
  obtain ⟨p, l, e, R, s, m, args, below, meth, c, A, nL, cells, slots⟩ := X
  intro H locs ls hP hS hl
  obtain ⟨⟨hx, hb, hml, hown, hts⟩, hG, hW, hA, hR, hn, hrt, hlk, hc1, hc2, hl0⟩ := C
  exact lv_iload hx hb hd (lv_at hl q hq) (h H locs ls hP hS hl)
theorem j_lload_n (C : Cx X w l0 cc n0 own rm ret) {k : Fin 4} {i : Nat} {x : Int64} (hd : decode cc pc = .ok (.lload_n k, 1)) (q : Nat) (hq : lv[q]? = some (i, .long x)) (hi : (k : Nat) = i) (h : J X w Q (pc + 1) lv (.long x :: st) S) : J X w Q pc lv st S := by
  obtain ⟨p, l, e, R, s, m, args, below, meth, c, A, nL, cells, slots⟩ := X
  intro H locs ls hP hS hl
  obtain ⟨⟨hx, hb, hml, hown, hts⟩, hG, hW, hA, hR, hn, hrt, hlk, hc1, hc2, hl0⟩ := C
  exact lv_lload_n hx hb hd hi (lv_at hl q hq) (h H locs ls hP hS hl)
theorem j_lload (C : Cx X w l0 cc n0 own rm ret) {i : Nat} {x : Int64} (hd : decode cc pc = .ok (.lload i, 2)) (q : Nat) (hq : lv[q]? = some (i, .long x)) (h : J X w Q (pc + 2) lv (.long x :: st) S) : J X w Q pc lv st S := by
  obtain ⟨p, l, e, R, s, m, args, below, meth, c, A, nL, cells, slots⟩ := X
  intro H locs ls hP hS hl
  obtain ⟨⟨hx, hb, hml, hown, hts⟩, hG, hW, hA, hR, hn, hrt, hlk, hc1, hc2, hl0⟩ := C
  exact lv_lload hx hb hd (lv_at hl q hq) (h H locs ls hP hS hl)
theorem j_aload_n (C : Cx X w l0 cc n0 own rm ret) {k : Fin 4} {i : Nat} {x : Nat} (hd : decode cc pc = .ok (.aload_n k, 1)) (q : Nat) (hq : lv[q]? = some (i, .ref x)) (hi : (k : Nat) = i) (h : J X w Q (pc + 1) lv (.ref x :: st) S) : J X w Q pc lv st S := by
  obtain ⟨p, l, e, R, s, m, args, below, meth, c, A, nL, cells, slots⟩ := X
  intro H locs ls hP hS hl
  obtain ⟨⟨hx, hb, hml, hown, hts⟩, hG, hW, hA, hR, hn, hrt, hlk, hc1, hc2, hl0⟩ := C
  exact lv_aload_n hx hb hd hi (lv_at hl q hq) (h H locs ls hP hS hl)
theorem j_aload (C : Cx X w l0 cc n0 own rm ret) {i : Nat} {x : Nat} (hd : decode cc pc = .ok (.aload i, 2)) (q : Nat) (hq : lv[q]? = some (i, .ref x)) (h : J X w Q (pc + 2) lv (.ref x :: st) S) : J X w Q pc lv st S := by
  obtain ⟨p, l, e, R, s, m, args, below, meth, c, A, nL, cells, slots⟩ := X
  intro H locs ls hP hS hl
  obtain ⟨⟨hx, hb, hml, hown, hts⟩, hG, hW, hA, hR, hn, hrt, hlk, hc1, hc2, hl0⟩ := C
  exact lv_aload hx hb hd (lv_at hl q hq) (h H locs ls hP hS hl)
theorem j_istore_n (C : Cx X w l0 cc n0 own rm ret) {k : Fin 4} {i : Nat} {x : Int32} (hd : decode cc pc = .ok (.istore_n k, 1)) (hi : (k : Nat) = i) (hn0 : i < n0) (hlv : (i, Value.int x) :: lv.filter (fun q => !(q.1 == i) && !(q.1 + 1 == i && q.2.category == 2)) = lv') (h : J X w Q (pc + 1) lv' st S) : J X w Q pc lv (.int x :: st) S := by
  obtain ⟨p, l, e, R, s, m, args, below, meth, c, A, nL, cells, slots⟩ := X
  intro H locs ls hP hS hl
  obtain ⟨⟨hx, hb, hml, hown, hts⟩, hG, hW, hA, hR, hn, hrt, hlk, hc1, hc2, hl0⟩ := C
  exact lv_istore_n hx hb hd hi hl (by omega) hlv (fun ls' hl' => h H locs ls' hP hS hl')
theorem j_istore (C : Cx X w l0 cc n0 own rm ret) {i : Nat} {x : Int32} (hd : decode cc pc = .ok (.istore i, 2)) (hn0 : i < n0) (hlv : (i, Value.int x) :: lv.filter (fun q => !(q.1 == i) && !(q.1 + 1 == i && q.2.category == 2)) = lv') (h : J X w Q (pc + 2) lv' st S) : J X w Q pc lv (.int x :: st) S := by
  obtain ⟨p, l, e, R, s, m, args, below, meth, c, A, nL, cells, slots⟩ := X
  intro H locs ls hP hS hl
  obtain ⟨⟨hx, hb, hml, hown, hts⟩, hG, hW, hA, hR, hn, hrt, hlk, hc1, hc2, hl0⟩ := C
  exact lv_istore hx hb hd hl (by omega) hlv (fun ls' hl' => h H locs ls' hP hS hl')
theorem j_astore_n (C : Cx X w l0 cc n0 own rm ret) {k : Fin 4} {i : Nat} {x : Nat} (hd : decode cc pc = .ok (.astore_n k, 1)) (hi : (k : Nat) = i) (hn0 : i < n0) (hlv : (i, Value.ref x) :: lv.filter (fun q => !(q.1 == i) && !(q.1 + 1 == i && q.2.category == 2)) = lv') (h : J X w Q (pc + 1) lv' st S) : J X w Q pc lv (.ref x :: st) S := by
  obtain ⟨p, l, e, R, s, m, args, below, meth, c, A, nL, cells, slots⟩ := X
  intro H locs ls hP hS hl
  obtain ⟨⟨hx, hb, hml, hown, hts⟩, hG, hW, hA, hR, hn, hrt, hlk, hc1, hc2, hl0⟩ := C
  exact lv_astore_n hx hb hd hi hl (by omega) hlv (fun ls' hl' => h H locs ls' hP hS hl')
theorem j_astore (C : Cx X w l0 cc n0 own rm ret) {i : Nat} {x : Nat} (hd : decode cc pc = .ok (.astore i, 2)) (hn0 : i < n0) (hlv : (i, Value.ref x) :: lv.filter (fun q => !(q.1 == i) && !(q.1 + 1 == i && q.2.category == 2)) = lv') (h : J X w Q (pc + 2) lv' st S) : J X w Q pc lv (.ref x :: st) S := by
  obtain ⟨p, l, e, R, s, m, args, below, meth, c, A, nL, cells, slots⟩ := X
  intro H locs ls hP hS hl
  obtain ⟨⟨hx, hb, hml, hown, hts⟩, hG, hW, hA, hR, hn, hrt, hlk, hc1, hc2, hl0⟩ := C
  exact lv_astore hx hb hd hl (by omega) hlv (fun ls' hl' => h H locs ls' hP hS hl')
theorem j_lstore_n (C : Cx X w l0 cc n0 own rm ret) {k : Fin 4} {i : Nat} {x : Int64} (hd : decode cc pc = .ok (.lstore_n k, 1)) (hi : (k : Nat) = i) (hn0 : i + 1 < n0) (hlv : (i, Value.long x) :: lv.filter (fun q => !(q.1 == i) && (!(q.1 == i + 1) && !(q.1 + 1 == i && q.2.category == 2))) = lv') (h : J X w Q (pc + 1) lv' st S) : J X w Q pc lv (.long x :: st) S := by
  obtain ⟨p, l, e, R, s, m, args, below, meth, c, A, nL, cells, slots⟩ := X
  intro H locs ls hP hS hl
  obtain ⟨⟨hx, hb, hml, hown, hts⟩, hG, hW, hA, hR, hn, hrt, hlk, hc1, hc2, hl0⟩ := C
  exact lv_lstore_n hx hb hd hi hl (by omega) hlv (fun ls' hl' => h H locs ls' hP hS hl')
theorem j_lstore (C : Cx X w l0 cc n0 own rm ret) {i : Nat} {x : Int64} (hd : decode cc pc = .ok (.lstore i, 2)) (hn0 : i + 1 < n0) (hlv : (i, Value.long x) :: lv.filter (fun q => !(q.1 == i) && (!(q.1 == i + 1) && !(q.1 + 1 == i && q.2.category == 2))) = lv') (h : J X w Q (pc + 2) lv' st S) : J X w Q pc lv (.long x :: st) S := by
  obtain ⟨p, l, e, R, s, m, args, below, meth, c, A, nL, cells, slots⟩ := X
  intro H locs ls hP hS hl
  obtain ⟨⟨hx, hb, hml, hown, hts⟩, hG, hW, hA, hR, hn, hrt, hlk, hc1, hc2, hl0⟩ := C
  exact lv_lstore hx hb hd hl (by omega) hlv (fun ls' hl' => h H locs ls' hP hS hl')
theorem j_iinc (C : Cx X w l0 cc n0 own rm ret) {i : Nat} {n : Int} {x v : Int32} (hd : decode cc pc = .ok (.iinc i n, 3)) (q : Nat) (hq : lv[q]? = some (i, .int x)) (hv : x + Int32.ofInt n = v) (hn0 : i < n0) (hlv : (i, Value.int v) :: lv.filter (fun q => !(q.1 == i) && !(q.1 + 1 == i && q.2.category == 2)) = lv') (h : J X w Q (pc + 3) lv' st S) : J X w Q pc lv st S := by
  obtain ⟨p, l, e, R, s, m, args, below, meth, c, A, nL, cells, slots⟩ := X
  intro H locs ls hP hS hl
  obtain ⟨⟨hx, hb, hml, hown, hts⟩, hG, hW, hA, hR, hn, hrt, hlk, hc1, hc2, hl0⟩ := C
  exact lv_iinc hx hb hd hl hq hv (by omega) hlv (fun ls' hl' => h H locs ls' hP hS hl')
theorem j_iadd (C : Cx X w l0 cc n0 own rm ret) {x y : Int32} (hd : decode cc pc = .ok (.iadd, 1)) (h : J X w Q (pc + 1) lv (.int (x + y) :: st) S) : J X w Q pc lv (.int y :: .int x :: st) S := by
  obtain ⟨p, l, e, R, s, m, args, below, meth, c, A, nL, cells, slots⟩ := X
  intro H locs ls hP hS hl
  obtain ⟨⟨hx, hb, hml, hown, hts⟩, hG, hW, hA, hR, hn, hrt, hlk, hc1, hc2, hl0⟩ := C
  exact lv_iadd hx hb hd (h H locs ls hP hS hl)
theorem j_isub (C : Cx X w l0 cc n0 own rm ret) {x y : Int32} (hd : decode cc pc = .ok (.isub, 1)) (h : J X w Q (pc + 1) lv (.int (x - y) :: st) S) : J X w Q pc lv (.int y :: .int x :: st) S := by
  obtain ⟨p, l, e, R, s, m, args, below, meth, c, A, nL, cells, slots⟩ := X
  intro H locs ls hP hS hl
  obtain ⟨⟨hx, hb, hml, hown, hts⟩, hG, hW, hA, hR, hn, hrt, hlk, hc1, hc2, hl0⟩ := C
  exact lv_isub hx hb hd (h H locs ls hP hS hl)
theorem j_imul (C : Cx X w l0 cc n0 own rm ret) {x y : Int32} (hd : decode cc pc = .ok (.imul, 1)) (h : J X w Q (pc + 1) lv (.int (x * y) :: st) S) : J X w Q pc lv (.int y :: .int x :: st) S := by
  obtain ⟨p, l, e, R, s, m, args, below, meth, c, A, nL, cells, slots⟩ := X
  intro H locs ls hP hS hl
  obtain ⟨⟨hx, hb, hml, hown, hts⟩, hG, hW, hA, hR, hn, hrt, hlk, hc1, hc2, hl0⟩ := C
  exact lv_imul hx hb hd (h H locs ls hP hS hl)
theorem j_iand (C : Cx X w l0 cc n0 own rm ret) {x y : Int32} (hd : decode cc pc = .ok (.iand, 1)) (h : J X w Q (pc + 1) lv (.int (x &&& y) :: st) S) : J X w Q pc lv (.int y :: .int x :: st) S := by
  obtain ⟨p, l, e, R, s, m, args, below, meth, c, A, nL, cells, slots⟩ := X
  intro H locs ls hP hS hl
  obtain ⟨⟨hx, hb, hml, hown, hts⟩, hG, hW, hA, hR, hn, hrt, hlk, hc1, hc2, hl0⟩ := C
  exact lv_iand hx hb hd (h H locs ls hP hS hl)
theorem j_ior (C : Cx X w l0 cc n0 own rm ret) {x y : Int32} (hd : decode cc pc = .ok (.ior, 1)) (h : J X w Q (pc + 1) lv (.int (x ||| y) :: st) S) : J X w Q pc lv (.int y :: .int x :: st) S := by
  obtain ⟨p, l, e, R, s, m, args, below, meth, c, A, nL, cells, slots⟩ := X
  intro H locs ls hP hS hl
  obtain ⟨⟨hx, hb, hml, hown, hts⟩, hG, hW, hA, hR, hn, hrt, hlk, hc1, hc2, hl0⟩ := C
  exact lv_ior hx hb hd (h H locs ls hP hS hl)
theorem j_ixor (C : Cx X w l0 cc n0 own rm ret) {x y : Int32} (hd : decode cc pc = .ok (.ixor, 1)) (h : J X w Q (pc + 1) lv (.int (x ^^^ y) :: st) S) : J X w Q pc lv (.int y :: .int x :: st) S := by
  obtain ⟨p, l, e, R, s, m, args, below, meth, c, A, nL, cells, slots⟩ := X
  intro H locs ls hP hS hl
  obtain ⟨⟨hx, hb, hml, hown, hts⟩, hG, hW, hA, hR, hn, hrt, hlk, hc1, hc2, hl0⟩ := C
  exact lv_ixor hx hb hd (h H locs ls hP hS hl)
theorem j_ishl (C : Cx X w l0 cc n0 own rm ret) {x y : Int32} (hd : decode cc pc = .ok (.ishl, 1)) (h : J X w Q (pc + 1) lv (.int (x <<< (y &&& 31)) :: st) S) : J X w Q pc lv (.int y :: .int x :: st) S := by
  obtain ⟨p, l, e, R, s, m, args, below, meth, c, A, nL, cells, slots⟩ := X
  intro H locs ls hP hS hl
  obtain ⟨⟨hx, hb, hml, hown, hts⟩, hG, hW, hA, hR, hn, hrt, hlk, hc1, hc2, hl0⟩ := C
  exact lv_ishl hx hb hd (h H locs ls hP hS hl)
theorem j_ishr (C : Cx X w l0 cc n0 own rm ret) {x y : Int32} (hd : decode cc pc = .ok (.ishr, 1)) (h : J X w Q (pc + 1) lv (.int (x >>> (y &&& 31)) :: st) S) : J X w Q pc lv (.int y :: .int x :: st) S := by
  obtain ⟨p, l, e, R, s, m, args, below, meth, c, A, nL, cells, slots⟩ := X
  intro H locs ls hP hS hl
  obtain ⟨⟨hx, hb, hml, hown, hts⟩, hG, hW, hA, hR, hn, hrt, hlk, hc1, hc2, hl0⟩ := C
  exact lv_ishr hx hb hd (h H locs ls hP hS hl)
theorem j_ladd (C : Cx X w l0 cc n0 own rm ret) {x y : Int64} (hd : decode cc pc = .ok (.ladd, 1)) (h : J X w Q (pc + 1) lv (.long (x + y) :: st) S) : J X w Q pc lv (.long y :: .long x :: st) S := by
  obtain ⟨p, l, e, R, s, m, args, below, meth, c, A, nL, cells, slots⟩ := X
  intro H locs ls hP hS hl
  obtain ⟨⟨hx, hb, hml, hown, hts⟩, hG, hW, hA, hR, hn, hrt, hlk, hc1, hc2, hl0⟩ := C
  exact lv_ladd hx hb hd (h H locs ls hP hS hl)
theorem j_lsub (C : Cx X w l0 cc n0 own rm ret) {x y : Int64} (hd : decode cc pc = .ok (.lsub, 1)) (h : J X w Q (pc + 1) lv (.long (x - y) :: st) S) : J X w Q pc lv (.long y :: .long x :: st) S := by
  obtain ⟨p, l, e, R, s, m, args, below, meth, c, A, nL, cells, slots⟩ := X
  intro H locs ls hP hS hl
  obtain ⟨⟨hx, hb, hml, hown, hts⟩, hG, hW, hA, hR, hn, hrt, hlk, hc1, hc2, hl0⟩ := C
  exact lv_lsub hx hb hd (h H locs ls hP hS hl)
theorem j_lmul (C : Cx X w l0 cc n0 own rm ret) {x y : Int64} (hd : decode cc pc = .ok (.lmul, 1)) (h : J X w Q (pc + 1) lv (.long (x * y) :: st) S) : J X w Q pc lv (.long y :: .long x :: st) S := by
  obtain ⟨p, l, e, R, s, m, args, below, meth, c, A, nL, cells, slots⟩ := X
  intro H locs ls hP hS hl
  obtain ⟨⟨hx, hb, hml, hown, hts⟩, hG, hW, hA, hR, hn, hrt, hlk, hc1, hc2, hl0⟩ := C
  exact lv_lmul hx hb hd (h H locs ls hP hS hl)
theorem j_idiv (C : Cx X w l0 cc n0 own rm ret) {x y : Int32} (hd : decode cc pc = .ok (.idiv, 1)) (hne : ¬ y = 0) (h : J X w Q (pc + 1) lv (.int (x / y) :: st) S) : J X w Q pc lv (.int y :: .int x :: st) S := by
  obtain ⟨p, l, e, R, s, m, args, below, meth, c, A, nL, cells, slots⟩ := X
  intro H locs ls hP hS hl
  obtain ⟨⟨hx, hb, hml, hown, hts⟩, hG, hW, hA, hR, hn, hrt, hlk, hc1, hc2, hl0⟩ := C
  exact lv_idiv hx hb hd hne (h H locs ls hP hS hl)
theorem j_irem (C : Cx X w l0 cc n0 own rm ret) {x y : Int32} (hd : decode cc pc = .ok (.irem, 1)) (hne : ¬ y = 0) (h : J X w Q (pc + 1) lv (.int (x - x / y * y) :: st) S) : J X w Q pc lv (.int y :: .int x :: st) S := by
  obtain ⟨p, l, e, R, s, m, args, below, meth, c, A, nL, cells, slots⟩ := X
  intro H locs ls hP hS hl
  obtain ⟨⟨hx, hb, hml, hown, hts⟩, hG, hW, hA, hR, hn, hrt, hlk, hc1, hc2, hl0⟩ := C
  exact lv_irem hx hb hd hne (h H locs ls hP hS hl)
theorem j_ldiv (C : Cx X w l0 cc n0 own rm ret) {x y : Int64} (hd : decode cc pc = .ok (.ldiv, 1)) (hne : ¬ y = 0) (h : J X w Q (pc + 1) lv (.long (x / y) :: st) S) : J X w Q pc lv (.long y :: .long x :: st) S := by
  obtain ⟨p, l, e, R, s, m, args, below, meth, c, A, nL, cells, slots⟩ := X
  intro H locs ls hP hS hl
  obtain ⟨⟨hx, hb, hml, hown, hts⟩, hG, hW, hA, hR, hn, hrt, hlk, hc1, hc2, hl0⟩ := C
  exact lv_ldiv hx hb hd hne (h H locs ls hP hS hl)
theorem j_lrem (C : Cx X w l0 cc n0 own rm ret) {x y : Int64} (hd : decode cc pc = .ok (.lrem, 1)) (hne : ¬ y = 0) (h : J X w Q (pc + 1) lv (.long (x - x / y * y) :: st) S) : J X w Q pc lv (.long y :: .long x :: st) S := by
  obtain ⟨p, l, e, R, s, m, args, below, meth, c, A, nL, cells, slots⟩ := X
  intro H locs ls hP hS hl
  obtain ⟨⟨hx, hb, hml, hown, hts⟩, hG, hW, hA, hR, hn, hrt, hlk, hc1, hc2, hl0⟩ := C
  exact lv_lrem hx hb hd hne (h H locs ls hP hS hl)
theorem j_iushr (C : Cx X w l0 cc n0 own rm ret) {x y : Int32} (hd : decode cc pc = .ok (.iushr, 1)) (h : J X w Q (pc + 1) lv (.int (x.toUInt32 >>> (y.toUInt32 &&& Int32.toUInt32 31)).toInt32 :: st) S) : J X w Q pc lv (.int y :: .int x :: st) S := by
  obtain ⟨p, l, e, R, s, m, args, below, meth, c, A, nL, cells, slots⟩ := X
  intro H locs ls hP hS hl
  obtain ⟨⟨hx, hb, hml, hown, hts⟩, hG, hW, hA, hR, hn, hrt, hlk, hc1, hc2, hl0⟩ := C
  exact lv_iushr hx hb hd rfl (h H locs ls hP hS hl)
theorem j_i2l (C : Cx X w l0 cc n0 own rm ret) {x : Int32} (hd : decode cc pc = .ok (.i2l, 1)) (h : J X w Q (pc + 1) lv (.long x.toInt64 :: st) S) : J X w Q pc lv (.int x :: st) S := by
  obtain ⟨p, l, e, R, s, m, args, below, meth, c, A, nL, cells, slots⟩ := X
  intro H locs ls hP hS hl
  obtain ⟨⟨hx, hb, hml, hown, hts⟩, hG, hW, hA, hR, hn, hrt, hlk, hc1, hc2, hl0⟩ := C
  exact lv_i2l hx hb hd rfl (h H locs ls hP hS hl)
theorem j_l2i (C : Cx X w l0 cc n0 own rm ret) {x : Int64} (hd : decode cc pc = .ok (.l2i, 1)) (h : J X w Q (pc + 1) lv (.int x.toInt32 :: st) S) : J X w Q pc lv (.long x :: st) S := by
  obtain ⟨p, l, e, R, s, m, args, below, meth, c, A, nL, cells, slots⟩ := X
  intro H locs ls hP hS hl
  obtain ⟨⟨hx, hb, hml, hown, hts⟩, hG, hW, hA, hR, hn, hrt, hlk, hc1, hc2, hl0⟩ := C
  exact lv_l2i hx hb hd rfl (h H locs ls hP hS hl)
theorem j_lcmp (C : Cx X w l0 cc n0 own rm ret) {x y : Int64} (hd : decode cc pc = .ok (.lcmp, 1)) (h : J X w Q (pc + 1) lv (.int (lg_cmp x y) :: st) S) : J X w Q pc lv (.long y :: .long x :: st) S := by
  obtain ⟨p, l, e, R, s, m, args, below, meth, c, A, nL, cells, slots⟩ := X
  intro H locs ls hP hS hl
  obtain ⟨⟨hx, hb, hml, hown, hts⟩, hG, hW, hA, hR, hn, hrt, hlk, hc1, hc2, hl0⟩ := C
  exact W.lcmp hx hb hd (h H locs ls hP hS hl)
theorem j_dup (C : Cx X w l0 cc n0 own rm ret) {v : Value} (hd : decode cc pc = .ok (.dup, 1)) (hv : v.category = 1) (h : J X w Q (pc + 1) lv (v :: v :: st) S) : J X w Q pc lv (v :: st) S := by
  obtain ⟨p, l, e, R, s, m, args, below, meth, c, A, nL, cells, slots⟩ := X
  intro H locs ls hP hS hl
  obtain ⟨⟨hx, hb, hml, hown, hts⟩, hG, hW, hA, hR, hn, hrt, hlk, hc1, hc2, hl0⟩ := C
  exact lv_dup hx hb hd hv (h H locs ls hP hS hl)
theorem j_pop (C : Cx X w l0 cc n0 own rm ret) {v : Value} (hd : decode cc pc = .ok (.pop, 1)) (hv : v.category = 1) (h : J X w Q (pc + 1) lv st S) : J X w Q pc lv (v :: st) S := by
  obtain ⟨p, l, e, R, s, m, args, below, meth, c, A, nL, cells, slots⟩ := X
  intro H locs ls hP hS hl
  obtain ⟨⟨hx, hb, hml, hown, hts⟩, hG, hW, hA, hR, hn, hrt, hlk, hc1, hc2, hl0⟩ := C
  exact lv_pop hx hb hd hv (h H locs ls hP hS hl)
theorem j_dup2 (C : Cx X w l0 cc n0 own rm ret) {v v2 : Value} (hd : decode cc pc = .ok (.dup2, 1)) (hv : v.category = 1) (hv2 : v2.category = 1) (h : J X w Q (pc + 1) lv (v :: v2 :: v :: v2 :: st) S) : J X w Q pc lv (v :: v2 :: st) S := by
  obtain ⟨p, l, e, R, s, m, args, below, meth, c, A, nL, cells, slots⟩ := X
  intro H locs ls hP hS hl
  obtain ⟨⟨hx, hb, hml, hown, hts⟩, hG, hW, hA, hR, hn, hrt, hlk, hc1, hc2, hl0⟩ := C
  exact lv_dup2_11 hx hb hd hv hv2 (h H locs ls hP hS hl)
theorem j_goto (C : Cx X w l0 cc n0 own rm ret) {off : Int} {tgt : Nat} (hd : decode cc pc = .ok (.goto off, 3)) (ht : (pc : Int) + off = (tgt : Int)) (h : J X w Q tgt lv st S) : J X w Q pc lv st S := by
  obtain ⟨p, l, e, R, s, m, args, below, meth, c, A, nL, cells, slots⟩ := X
  intro H locs ls hP hS hl
  obtain ⟨⟨hx, hb, hml, hown, hts⟩, hG, hW, hA, hR, hn, hrt, hlk, hc1, hc2, hl0⟩ := C
  exact lv_goto hx hb hd ht (h H locs ls hP hS hl)
theorem j_if_eq (C : Cx X w l0 cc n0 own rm ret) {x : Int32} {off : Int} {tgt : Nat} (hd : decode cc pc = .ok (.ifCond .eq off, 3)) (ht : (pc : Int) + off = (tgt : Int)) (kt : x = 0 → J X w Q tgt lv st S) (kf : ¬ x = 0 → J X w Q (pc + 3) lv st S) : J X w Q pc lv (.int x :: st) S := by
  obtain ⟨p, l, e, R, s, m, args, below, meth, c, A, nL, cells, slots⟩ := X
  intro H locs ls hP hS hl
  obtain ⟨⟨hx, hb, hml, hown, hts⟩, hG, hW, hA, hR, hn, hrt, hlk, hc1, hc2, hl0⟩ := C
  exact lv_if_eq hx hb hd ht (fun q => kt q H locs ls hP hS hl) (fun q => kf q H locs ls hP hS hl)
theorem j_icmp_eq (C : Cx X w l0 cc n0 own rm ret) {x y : Int32} {off : Int} {tgt : Nat} (hd : decode cc pc = .ok (.if_icmp .eq off, 3)) (ht : (pc : Int) + off = (tgt : Int)) (kt : x = y → J X w Q tgt lv st S) (kf : ¬ x = y → J X w Q (pc + 3) lv st S) : J X w Q pc lv (.int y :: .int x :: st) S := by
  obtain ⟨p, l, e, R, s, m, args, below, meth, c, A, nL, cells, slots⟩ := X
  intro H locs ls hP hS hl
  obtain ⟨⟨hx, hb, hml, hown, hts⟩, hG, hW, hA, hR, hn, hrt, hlk, hc1, hc2, hl0⟩ := C
  exact lv_icmp_eq hx hb hd ht (fun q => kt q H locs ls hP hS hl) (fun q => kf q H locs ls hP hS hl)
theorem j_if_ne (C : Cx X w l0 cc n0 own rm ret) {x : Int32} {off : Int} {tgt : Nat} (hd : decode cc pc = .ok (.ifCond .ne off, 3)) (ht : (pc : Int) + off = (tgt : Int)) (kt : ¬ x = 0 → J X w Q tgt lv st S) (kf : x = 0 → J X w Q (pc + 3) lv st S) : J X w Q pc lv (.int x :: st) S := by
  obtain ⟨p, l, e, R, s, m, args, below, meth, c, A, nL, cells, slots⟩ := X
  intro H locs ls hP hS hl
  obtain ⟨⟨hx, hb, hml, hown, hts⟩, hG, hW, hA, hR, hn, hrt, hlk, hc1, hc2, hl0⟩ := C
  exact lv_if_ne hx hb hd ht (fun q => kt q H locs ls hP hS hl) (fun q => kf q H locs ls hP hS hl)
theorem j_icmp_ne (C : Cx X w l0 cc n0 own rm ret) {x y : Int32} {off : Int} {tgt : Nat} (hd : decode cc pc = .ok (.if_icmp .ne off, 3)) (ht : (pc : Int) + off = (tgt : Int)) (kt : ¬ x = y → J X w Q tgt lv st S) (kf : x = y → J X w Q (pc + 3) lv st S) : J X w Q pc lv (.int y :: .int x :: st) S := by
  obtain ⟨p, l, e, R, s, m, args, below, meth, c, A, nL, cells, slots⟩ := X
  intro H locs ls hP hS hl
  obtain ⟨⟨hx, hb, hml, hown, hts⟩, hG, hW, hA, hR, hn, hrt, hlk, hc1, hc2, hl0⟩ := C
  exact lv_icmp_ne hx hb hd ht (fun q => kt q H locs ls hP hS hl) (fun q => kf q H locs ls hP hS hl)
theorem j_if_lt (C : Cx X w l0 cc n0 own rm ret) {x : Int32} {off : Int} {tgt : Nat} (hd : decode cc pc = .ok (.ifCond .lt off, 3)) (ht : (pc : Int) + off = (tgt : Int)) (kt : x < 0 → J X w Q tgt lv st S) (kf : ¬ x < 0 → J X w Q (pc + 3) lv st S) : J X w Q pc lv (.int x :: st) S := by
  obtain ⟨p, l, e, R, s, m, args, below, meth, c, A, nL, cells, slots⟩ := X
  intro H locs ls hP hS hl
  obtain ⟨⟨hx, hb, hml, hown, hts⟩, hG, hW, hA, hR, hn, hrt, hlk, hc1, hc2, hl0⟩ := C
  exact lv_if_lt hx hb hd ht (fun q => kt q H locs ls hP hS hl) (fun q => kf q H locs ls hP hS hl)
theorem j_icmp_lt (C : Cx X w l0 cc n0 own rm ret) {x y : Int32} {off : Int} {tgt : Nat} (hd : decode cc pc = .ok (.if_icmp .lt off, 3)) (ht : (pc : Int) + off = (tgt : Int)) (kt : x < y → J X w Q tgt lv st S) (kf : ¬ x < y → J X w Q (pc + 3) lv st S) : J X w Q pc lv (.int y :: .int x :: st) S := by
  obtain ⟨p, l, e, R, s, m, args, below, meth, c, A, nL, cells, slots⟩ := X
  intro H locs ls hP hS hl
  obtain ⟨⟨hx, hb, hml, hown, hts⟩, hG, hW, hA, hR, hn, hrt, hlk, hc1, hc2, hl0⟩ := C
  exact lv_icmp_lt hx hb hd ht (fun q => kt q H locs ls hP hS hl) (fun q => kf q H locs ls hP hS hl)
theorem j_if_ge (C : Cx X w l0 cc n0 own rm ret) {x : Int32} {off : Int} {tgt : Nat} (hd : decode cc pc = .ok (.ifCond .ge off, 3)) (ht : (pc : Int) + off = (tgt : Int)) (kt : 0 ≤ x → J X w Q tgt lv st S) (kf : ¬ 0 ≤ x → J X w Q (pc + 3) lv st S) : J X w Q pc lv (.int x :: st) S := by
  obtain ⟨p, l, e, R, s, m, args, below, meth, c, A, nL, cells, slots⟩ := X
  intro H locs ls hP hS hl
  obtain ⟨⟨hx, hb, hml, hown, hts⟩, hG, hW, hA, hR, hn, hrt, hlk, hc1, hc2, hl0⟩ := C
  exact lv_if_ge hx hb hd ht (fun q => kt q H locs ls hP hS hl) (fun q => kf q H locs ls hP hS hl)
theorem j_icmp_ge (C : Cx X w l0 cc n0 own rm ret) {x y : Int32} {off : Int} {tgt : Nat} (hd : decode cc pc = .ok (.if_icmp .ge off, 3)) (ht : (pc : Int) + off = (tgt : Int)) (kt : y ≤ x → J X w Q tgt lv st S) (kf : ¬ y ≤ x → J X w Q (pc + 3) lv st S) : J X w Q pc lv (.int y :: .int x :: st) S := by
  obtain ⟨p, l, e, R, s, m, args, below, meth, c, A, nL, cells, slots⟩ := X
  intro H locs ls hP hS hl
  obtain ⟨⟨hx, hb, hml, hown, hts⟩, hG, hW, hA, hR, hn, hrt, hlk, hc1, hc2, hl0⟩ := C
  exact lv_icmp_ge hx hb hd ht (fun q => kt q H locs ls hP hS hl) (fun q => kf q H locs ls hP hS hl)
theorem j_if_gt (C : Cx X w l0 cc n0 own rm ret) {x : Int32} {off : Int} {tgt : Nat} (hd : decode cc pc = .ok (.ifCond .gt off, 3)) (ht : (pc : Int) + off = (tgt : Int)) (kt : 0 < x → J X w Q tgt lv st S) (kf : ¬ 0 < x → J X w Q (pc + 3) lv st S) : J X w Q pc lv (.int x :: st) S := by
  obtain ⟨p, l, e, R, s, m, args, below, meth, c, A, nL, cells, slots⟩ := X
  intro H locs ls hP hS hl
  obtain ⟨⟨hx, hb, hml, hown, hts⟩, hG, hW, hA, hR, hn, hrt, hlk, hc1, hc2, hl0⟩ := C
  exact lv_if_gt hx hb hd ht (fun q => kt q H locs ls hP hS hl) (fun q => kf q H locs ls hP hS hl)
theorem j_icmp_gt (C : Cx X w l0 cc n0 own rm ret) {x y : Int32} {off : Int} {tgt : Nat} (hd : decode cc pc = .ok (.if_icmp .gt off, 3)) (ht : (pc : Int) + off = (tgt : Int)) (kt : y < x → J X w Q tgt lv st S) (kf : ¬ y < x → J X w Q (pc + 3) lv st S) : J X w Q pc lv (.int y :: .int x :: st) S := by
  obtain ⟨p, l, e, R, s, m, args, below, meth, c, A, nL, cells, slots⟩ := X
  intro H locs ls hP hS hl
  obtain ⟨⟨hx, hb, hml, hown, hts⟩, hG, hW, hA, hR, hn, hrt, hlk, hc1, hc2, hl0⟩ := C
  exact lv_icmp_gt hx hb hd ht (fun q => kt q H locs ls hP hS hl) (fun q => kf q H locs ls hP hS hl)
theorem j_if_le (C : Cx X w l0 cc n0 own rm ret) {x : Int32} {off : Int} {tgt : Nat} (hd : decode cc pc = .ok (.ifCond .le off, 3)) (ht : (pc : Int) + off = (tgt : Int)) (kt : x ≤ 0 → J X w Q tgt lv st S) (kf : ¬ x ≤ 0 → J X w Q (pc + 3) lv st S) : J X w Q pc lv (.int x :: st) S := by
  obtain ⟨p, l, e, R, s, m, args, below, meth, c, A, nL, cells, slots⟩ := X
  intro H locs ls hP hS hl
  obtain ⟨⟨hx, hb, hml, hown, hts⟩, hG, hW, hA, hR, hn, hrt, hlk, hc1, hc2, hl0⟩ := C
  exact lv_if_le hx hb hd ht (fun q => kt q H locs ls hP hS hl) (fun q => kf q H locs ls hP hS hl)
theorem j_icmp_le (C : Cx X w l0 cc n0 own rm ret) {x y : Int32} {off : Int} {tgt : Nat} (hd : decode cc pc = .ok (.if_icmp .le off, 3)) (ht : (pc : Int) + off = (tgt : Int)) (kt : x ≤ y → J X w Q tgt lv st S) (kf : ¬ x ≤ y → J X w Q (pc + 3) lv st S) : J X w Q pc lv (.int y :: .int x :: st) S := by
  obtain ⟨p, l, e, R, s, m, args, below, meth, c, A, nL, cells, slots⟩ := X
  intro H locs ls hP hS hl
  obtain ⟨⟨hx, hb, hml, hown, hts⟩, hG, hW, hA, hR, hn, hrt, hlk, hc1, hc2, hl0⟩ := C
  exact lv_icmp_le hx hb hd ht (fun q => kt q H locs ls hP hS hl) (fun q => kf q H locs ls hP hS hl)
theorem j_tableOut (C : Cx X w l0 cc n0 own rm ret) {dflt lo hi : Int} {offs : Array Int} {len : Nat} {x : Int32} {tgt : Nat} (hd : decode cc pc = .ok (.tableswitch dflt lo hi offs, len)) (hx9 : x.toInt < lo ∨ hi < x.toInt) (ht : (pc : Int) + dflt = (tgt : Int)) (h : J X w Q tgt lv st S) : J X w Q pc lv (.int x :: st) S := by
  obtain ⟨p, l, e, R, s, m, args, below, meth, c, A, nL, cells, slots⟩ := X
  intro H locs ls hP hS hl
  obtain ⟨⟨hx, hb, hml, hown, hts⟩, hG, hW, hA, hR, hn, hrt, hlk, hc1, hc2, hl0⟩ := C
  exact lv_tableOut hx hb hd hx9 ht (h H locs ls hP hS hl)
theorem j_tableIn (C : Cx X w l0 cc n0 own rm ret) {dflt lo hi : Int} {offs : Array Int} {len : Nat} {x : Int32} {off : Int} {tgt : Nat} (hd : decode cc pc = .ok (.tableswitch dflt lo hi offs, len)) (h1 : ¬ x.toInt < lo) (h2 : ¬ hi < x.toInt) (ho : offs[(x.toInt - lo).toNat]? = some off) (ht : (pc : Int) + off = (tgt : Int)) (h : J X w Q tgt lv st S) : J X w Q pc lv (.int x :: st) S := by
  obtain ⟨p, l, e, R, s, m, args, below, meth, c, A, nL, cells, slots⟩ := X
  intro H locs ls hP hS hl
  obtain ⟨⟨hx, hb, hml, hown, hts⟩, hG, hW, hA, hR, hn, hrt, hlk, hc1, hc2, hl0⟩ := C
  exact lv_tableIn hx hb hd h1 h2 ho ht (h H locs ls hP hS hl)
theorem j_lookup (C : Cx X w l0 cc n0 own rm ret) {dflt : Int} {ps : Array (Int × Int)} {len : Nat} {x : Int32} {off : Int} {tgt : Nat} (hd : decode cc pc = .ok (.lookupswitch dflt ps, len)) (hp : (ps.toList.zip (ps.toList.drop 1)).all (fun (a, next) => a.1 < next.1) = true) (ho : Op.lookupswitch.offset ps.toList dflt x.toInt = off) (ht : (pc : Int) + off = (tgt : Int)) (h : J X w Q tgt lv st S) : J X w Q pc lv (.int x :: st) S := by
  obtain ⟨p, l, e, R, s, m, args, below, meth, c, A, nL, cells, slots⟩ := X
  intro H locs ls hP hS hl
  obtain ⟨⟨hx, hb, hml, hown, hts⟩, hG, hW, hA, hR, hn, hrt, hlk, hc1, hc2, hl0⟩ := C
  exact lv_lookup hx hb hd hp ho ht (h H locs ls hP hS hl)
theorem j_get (C : Cx X w l0 cc n0 own rm ret) {index ci N : Nat} {Cn : String} {T : u_T} {fs : List Value} {v : Value} (k j : Nat) (he : (Wd w S)[k]? = some (w.2.1 k, .inr (ci, fs))) (hc : vwCl[ci]? = some (Cn, T, N)) (hj : j < N) (hin : ∀ x ∈ u_ws Cn T N, x ∈ TB) (hlk0 : Cond.fieldLink own index (T j).1 (T j).2.1 (T j).2.2.1 ∈ TB) (hv : fs[j]? = some v) (hd : decode cc pc = .ok (.getfield index, 3)) (h : J X w Q (pc + 3) lv (v :: st) S) : J X w Q pc lv (rr w k :: st) S := by
  obtain ⟨p, l, e, R, s, m, args, below, meth, c, A, nL, cells, slots⟩ := X
  intro H locs ls hP hS hl
  obtain ⟨⟨hx, hb, hml, hown, hts⟩, hG, hW, hA, hR, hn, hrt, hlk, hc1, hc2, hl0⟩ := C
  exact va_get hx hb hts hin hown hG.1 hP k he hc j hj (hts _ hlk0) (fun _ h9 => h9) hv hd (h H locs ls hP hS hl)
theorem j_put (C : Cx X w l0 cc n0 own rm ret) {index ci N : Nat} {Cn : String} {T : u_T} {fs : List Value} {v : Value} {S' : St} {ty : FieldType} (k j : Nat) (he : (Wd w S)[k]? = some (w.2.1 k, .inr (ci, fs))) (hc : vwCl[ci]? = some (Cn, T, N)) (hj : j < N) (hin : ∀ x ∈ u_ws Cn T N, x ∈ TB) (ty0 : Nat → FieldType) (hty : ∀ k, k < N → parseFieldDescriptor (T k).2.2.1 = some (ty0 k)) (hnm : ∀ a, a < N → ∀ b, b < N → a ≠ b → (T a).2.1 ≠ (T b).2.1) (hlk0 : Cond.fieldLink own index (T j).1 (T j).2.1 (T j).2.2.1 ∈ TB) (hfin : (T j).2.2.2 = false) (hd0 : parseFieldDescriptor (T j).2.2.1 = some ty) (hn0 : narrow ty v = v) (hfit : fits ty v = true) (hl0 : j < fs.length) (hset : (Wd w S).set k (w.2.1 k, .inr (ci, fs.set j v)) = Wd w S') (hd : decode cc pc = .ok (.putfield index, 3)) (h : J X w Q (pc + 3) lv st S') : J X w Q pc lv (v :: rr w k :: st) S := by
  obtain ⟨p, l, e, R, s, m, args, below, meth, c, A, nL, cells, slots⟩ := X
  intro H locs ls hP hS hl
  obtain ⟨⟨hx, hb, hml, hown, hts⟩, hG, hW, hA, hR, hn, hrt, hlk, hc1, hc2, hl0'⟩ := C
  refine va_put hx hb hts hin ty0 hty hnm hown hG.1 hP (wd_D hW hA) hS k he hc j hj (hts _ hlk0) (fun _ h9 => h9) hfin hd0 hn0 hfit hl0 hd (fun H1 locs1 hP1 _ hS1 => ?_)
  rw [hset] at hP1
  exact h H1 locs1 ls hP1 hS1 hl
theorem j_iald (C : Cx X w l0 cc n0 own rm ret) {n : Nat} {i : Int32} (k : Nat) (he : (Wd w S)[k]? = some (w.2.1 k, .inl (w.2.2.1, n, .inl (S.1 k)))) (hin : vp_in i n) (hd : decode cc pc = .ok (.iaload, 1)) (h : J X w Q (pc + 1) lv (.int (S.1 k i.toNatClampNeg) :: st) S) : J X w Q pc lv (.int i :: rr w k :: st) S := by
  obtain ⟨p, l, e, R, s, m, args, below, meth, c, A, nL, cells, slots⟩ := X
  intro H locs ls hP hS hl
  obtain ⟨⟨hx, hb, hml, hown, hts⟩, hG, hW, hA, hR, hn, hrt, hlk, hc1, hc2, hl0⟩ := C
  exact va_iald hx hb hG.1 hP k 0 he rfl hin hd (h H locs ls hP hS hl)
theorem j_lald (C : Cx X w l0 cc n0 own rm ret) {n : Nat} {i : Int32} (k : Nat) (he : (Wd w S)[k]? = some (w.2.1 k, .inl (w.2.2.2, n, .inr (.inl (S.2 k))))) (hin : vp_in i n) (hd : decode cc pc = .ok (.laload, 1)) (h : J X w Q (pc + 1) lv (.long (S.2 k i.toNatClampNeg) :: st) S) : J X w Q pc lv (.int i :: rr w k :: st) S := by
  obtain ⟨p, l, e, R, s, m, args, below, meth, c, A, nL, cells, slots⟩ := X
  intro H locs ls hP hS hl
  obtain ⟨⟨hx, hb, hml, hown, hts⟩, hG, hW, hA, hR, hn, hrt, hlk, hc1, hc2, hl0⟩ := C
  exact va_lald hx hb hG.1 hP k 1 he rfl hin hd (h H locs ls hP hS hl)
theorem j_iast (C : Cx X w l0 cc n0 own rm ret) {n : Nat} {i x : Int32} (k : Nat) (he : (Wd w S)[k]? = some (w.2.1 k, .inl (w.2.2.1, n, .inl (S.1 k)))) (hset : ∀ f, (Wd w S).set k (w.2.1 k, .inl (w.2.2.1, n, .inl f)) = Wd w (cI S k f)) (hin : vp_in i n) (hd : decode cc pc = .ok (.iastore, 1)) (h : J X w Q (pc + 1) lv st (si S k i.toNatClampNeg x)) : J X w Q pc lv (.int x :: .int i :: rr w k :: st) S := by
  obtain ⟨p, l, e, R, s, m, args, below, meth, c, A, nL, cells, slots⟩ := X
  intro H locs ls hP hS hl
  obtain ⟨⟨hx, hb, hml, hown, hts⟩, hG, hW, hA, hR, hn, hrt, hlk, hc1, hc2, hl0⟩ := C
  refine va_iast hx hb hG.1 hP (wd_D hW hA) hS k 0 he rfl hin hd (fun H1 locs1 hP1 _ hS1 => ?_)
  rw [hset] at hP1
  exact h H1 locs1 ls hP1 hS1 hl
theorem j_last (C : Cx X w l0 cc n0 own rm ret) {n : Nat} {i : Int32} {x : Int64} (k : Nat) (he : (Wd w S)[k]? = some (w.2.1 k, .inl (w.2.2.2, n, .inr (.inl (S.2 k))))) (hset : ∀ f, (Wd w S).set k (w.2.1 k, .inl (w.2.2.2, n, .inr (.inl f))) = Wd w (cJ S k f)) (hin : vp_in i n) (hd : decode cc pc = .ok (.lastore, 1)) (h : J X w Q (pc + 1) lv st (sj S k i.toNatClampNeg x)) : J X w Q pc lv (.long x :: .int i :: rr w k :: st) S := by
  obtain ⟨p, l, e, R, s, m, args, below, meth, c, A, nL, cells, slots⟩ := X
  intro H locs ls hP hS hl
  obtain ⟨⟨hx, hb, hml, hown, hts⟩, hG, hW, hA, hR, hn, hrt, hlk, hc1, hc2, hl0⟩ := C
  refine va_last hx hb hG.1 hP (wd_D hW hA) hS k 1 he rfl hin hd (fun H1 locs1 hP1 _ hS1 => ?_)
  rw [hset] at hP1
  exact h H1 locs1 ls hP1 hS1 hl
theorem j_alenI (C : Cx X w l0 cc n0 own rm ret) {n : Nat} {v : Int32} (k : Nat) (he : (Wd w S)[k]? = some (w.2.1 k, .inl (w.2.2.1, n, .inl (S.1 k)))) (hv : Int32.ofNat n = v) (hd : decode cc pc = .ok (.arraylength, 1)) (h : J X w Q (pc + 1) lv (.int v :: st) S) : J X w Q pc lv (rr w k :: st) S := by
  obtain ⟨p, l, e, R, s, m, args, below, meth, c, A, nL, cells, slots⟩ := X
  intro H locs ls hP hS hl
  obtain ⟨⟨hx, hb, hml, hown, hts⟩, hG, hW, hA, hR, hn, hrt, hlk, hc1, hc2, hl0⟩ := C
  exact va_alen hx hb hG.1 hP k 0 he (ty := .int) rfl hv hd (h H locs ls hP hS hl)
theorem j_alenJ (C : Cx X w l0 cc n0 own rm ret) {n : Nat} {v : Int32} (k : Nat) (he : (Wd w S)[k]? = some (w.2.1 k, .inl (w.2.2.2, n, .inr (.inl (S.2 k))))) (hv : Int32.ofNat n = v) (hd : decode cc pc = .ok (.arraylength, 1)) (h : J X w Q (pc + 1) lv (.int v :: st) S) : J X w Q pc lv (rr w k :: st) S := by
  obtain ⟨p, l, e, R, s, m, args, below, meth, c, A, nL, cells, slots⟩ := X
  intro H locs ls hP hS hl
  obtain ⟨⟨hx, hb, hml, hown, hts⟩, hG, hW, hA, hR, hn, hrt, hlk, hc1, hc2, hl0⟩ := C
  exact va_alen hx hb hG.1 hP k 1 he (ty := .long) rfl hv hd (h H locs ls hP hS hl)
theorem j_copyI (C : Cx X w l0 cc n0 own rm ret) {index n1 n2 : Nat} {n : Int32} (k0 k1 : Nat) (he0 : (Wd w S)[k0]? = some (w.2.1 k0, .inl (w.2.2.1, n1, .inl (S.1 k0)))) (he1 : (Wd w S)[k1]? = some (w.2.1 k1, .inl (w.2.2.1, n2, .inl (S.1 k1)))) (hset : ∀ f, (Wd w S).set k1 (w.2.1 k1, .inl (w.2.2.1, n2, .inl f)) = Wd w (cI S k1 f)) (hn1 : ¬ n < 0) (h4 : n.toNatClampNeg ≤ n1) (h5 : n.toNatClampNeg ≤ n2) (hk1 : Cond.methodLink own index arraycopyName ∈ TB) (hk2 : Cond.native arraycopyName ∈ TB) (hk3 : Cond.static arraycopyName ∈ TB) (hk4 : Cond.initialized "java/lang/System" ∈ TB) (hfr : 1 ≤ rm.frames) (hlo : (st.map fun v => v.category).sum + (nativeFrameWords "java/lang/System" "arraycopy" 5 + 11) ≤ rm.locals) (hd : decode cc pc = .ok (.invokestatic index, 3)) (h : J X w Q (pc + 3) lv st (cI S k1 (va_cpy (S.1 k0) (S.1 k1) 0 0 n.toNatClampNeg))) : J X w Q pc lv (.int n :: .int 0 :: rr w k1 :: .int 0 :: rr w k0 :: st) S := by
  obtain ⟨p, l, e, R, s, m, args, below, meth, c, A, nL, cells, slots⟩ := X
  intro H locs ls hP hS hl
  obtain ⟨⟨hx, hb, hml, hown, hts⟩, hG, hW, hA, hR, hn, hrt, hlk, hc1, hc2, hl0⟩ := C
  subst hR
  refine va_copyi hx hb (by rw [hml]; exact hl.1.symm) hown (hts _ hk1) (hts _ hk2) (hts _ hk3) (hts _ hk4) hG.1 hP (wd_D hW hA) hS k0 k1 0 0 he0 he1 (ty := .int) rfl rfl rfl (sp := 0) (dp := 0) (n := n) (by decide) (by decide) hn1 (by rw [show (0 : Int32).toNatClampNeg = 0 from rfl, Nat.zero_add]; exact h4) (by rw [show (0 : Int32).toNatClampNeg = 0 from rfl, Nat.zero_add]; exact h5) (fun _ _ => rfl) hfr hlo hd (fun H1 locs1 hP1 _ hS1 => ?_)
  rw [hset] at hP1
  exact h H1 locs1 ls hP1 hS1 hl
theorem j_copyJ (C : Cx X w l0 cc n0 own rm ret) {index n1 n2 : Nat} {n : Int32} (k0 k1 : Nat) (he0 : (Wd w S)[k0]? = some (w.2.1 k0, .inl (w.2.2.2, n1, .inr (.inl (S.2 k0))))) (he1 : (Wd w S)[k1]? = some (w.2.1 k1, .inl (w.2.2.2, n2, .inr (.inl (S.2 k1))))) (hset : ∀ f, (Wd w S).set k1 (w.2.1 k1, .inl (w.2.2.2, n2, .inr (.inl f))) = Wd w (cJ S k1 f)) (hn1 : ¬ n < 0) (h4 : n.toNatClampNeg ≤ n1) (h5 : n.toNatClampNeg ≤ n2) (hk1 : Cond.methodLink own index arraycopyName ∈ TB) (hk2 : Cond.native arraycopyName ∈ TB) (hk3 : Cond.static arraycopyName ∈ TB) (hk4 : Cond.initialized "java/lang/System" ∈ TB) (hfr : 1 ≤ rm.frames) (hlo : (st.map fun v => v.category).sum + (nativeFrameWords "java/lang/System" "arraycopy" 5 + 11) ≤ rm.locals) (hd : decode cc pc = .ok (.invokestatic index, 3)) (h : J X w Q (pc + 3) lv st (cJ S k1 (va_cpy (S.2 k0) (S.2 k1) 0 0 n.toNatClampNeg))) : J X w Q pc lv (.int n :: .int 0 :: rr w k1 :: .int 0 :: rr w k0 :: st) S := by
  obtain ⟨p, l, e, R, s, m, args, below, meth, c, A, nL, cells, slots⟩ := X
  intro H locs ls hP hS hl
  obtain ⟨⟨hx, hb, hml, hown, hts⟩, hG, hW, hA, hR, hn, hrt, hlk, hc1, hc2, hl0⟩ := C
  subst hR
  refine va_copyl hx hb (by rw [hml]; exact hl.1.symm) hown (hts _ hk1) (hts _ hk2) (hts _ hk3) (hts _ hk4) hG.1 hP (wd_D hW hA) hS k0 k1 1 1 he0 he1 (ty := .long) rfl rfl rfl (sp := 0) (dp := 0) (n := n) (by decide) (by decide) hn1 (by rw [show (0 : Int32).toNatClampNeg = 0 from rfl, Nat.zero_add]; exact h4) (by rw [show (0 : Int32).toNatClampNeg = 0 from rfl, Nat.zero_add]; exact h5) (fun _ _ => rfl) hfr hlo hd (fun H1 locs1 hP1 _ hS1 => ?_)
  rw [hset] at hP1
  exact h H1 locs1 ls hP1 hS1 hl
theorem j_iret {Q0 : Int32 → St → Prop} {v : Int32} (C : Cx X w l0 cc n0 own rm (some .int)) (hd : decode cc pc = .ok (.ireturn, 1)) (h : Q0 v S) : J X w (QI X w Q0) pc lv [.int v] S := by
  obtain ⟨p, l, e, R, s, m, args, below, meth, c, A, nL, cells, slots⟩ := X
  intro H locs ls hP hS hl
  obtain ⟨⟨hx, hb, hml, hown, hts⟩, hG, hW, hA, hR, hn, hrt, hlk, hc1, hc2, hl0⟩ := C
  exact W.iret hx hb hrt (fun t ht _ => ⟨⟨v, S, rfl, h, by show va_P _ _ _ t.heap; rw [ht]; exact hP⟩, hS.F ht⟩) hS.2.2 hd hlk
theorem j_lret {Q0 : Int64 → St → Prop} {v : Int64} (C : Cx X w l0 cc n0 own rm (some .long)) (hd : decode cc pc = .ok (.lreturn, 1)) (h : Q0 v S) : J X w (QL X w Q0) pc lv [.long v] S := by
  obtain ⟨p, l, e, R, s, m, args, below, meth, c, A, nL, cells, slots⟩ := X
  intro H locs ls hP hS hl
  obtain ⟨⟨hx, hb, hml, hown, hts⟩, hG, hW, hA, hR, hn, hrt, hlk, hc1, hc2, hl0⟩ := C
  exact W.lret hx hb hrt (fun t ht _ => ⟨⟨v, S, rfl, h, by show va_P _ _ _ t.heap; rw [ht]; exact hP⟩, hS.F ht⟩) hS.2.2 hd hlk
theorem j_zret {Q0 : Int32 → St → Prop} {v : Int32} (C : Cx X w l0 cc n0 own rm (some .boolean)) (hd : decode cc pc = .ok (.ireturn, 1)) (h : bz v ∧ Q0 v S) : J X w (QI X w Q0) pc lv [.int v] S := by
  obtain ⟨p, l, e, R, s, m, args, below, meth, c, A, nL, cells, slots⟩ := X
  intro H locs ls hP hS hl
  obtain ⟨⟨hx, hb, hml, hown, hts⟩, hG, hW, hA, hR, hn, hrt, hlk, hc1, hc2, hl0⟩ := C
  exact W.zret hx hb hrt (bz_nar h.1) (fun t ht _ => ⟨⟨v, S, rfl, h.2, by show va_P _ _ _ t.heap; rw [ht]; exact hP⟩, hS.F ht⟩) hS.2.2 hd hlk
theorem j_vret {Q0 : St → Prop} (C : Cx X w l0 cc n0 own rm none) (hd : decode cc pc = .ok (.return_, 1)) (h : Q0 S) : J X w (QV X w Q0) pc lv [] S := by
  obtain ⟨p, l, e, R, s, m, args, below, meth, c, A, nL, cells, slots⟩ := X
  intro H locs ls hP hS hl
  obtain ⟨⟨hx, hb, hml, hown, hts⟩, hG, hW, hA, hR, hn, hrt, hlk, hc1, hc2, hl0⟩ := C
  exact W.vret hx hb hrt (fun t ht _ => ⟨⟨S, rfl, h, by show va_P _ _ _ t.heap; rw [ht]; exact hP⟩, hS.F ht⟩) hS.2.2 hd hlk
/-- what a call of y by its link needs of the words -/
def CV (own : String) (index : Nat) (y : MethodName) (bytes : ByteArray) (maxL : Nat) (rt : Option FieldType) (n : Nat) : Prop := Cond.code y bytes maxL rt ∈ TB ∧ Cond.methodLink own index y ∈ TB ∧ Cond.instanceMethod y ∈ TB ∧ Cond.selects y.cls y y ∈ TB ∧ Cond.initialized y.cls ∈ TB ∧ (y.cls ≠ "java/lang/invoke/MethodHandle" ∧ y.cls ≠ "java/lang/invoke/VarHandle" ∧ (parseMethodDescriptor y.desc).map (fun d => d.parameters.length) = some n)
def CS (own : String) (index : Nat) (y : MethodName) (bytes : ByteArray) (maxL : Nat) (rt : Option FieldType) (n : Nat) : Prop := Cond.code y bytes maxL rt ∈ TB ∧ Cond.methodLink own index y ∈ TB ∧ Cond.static y ∈ TB ∧ Cond.initialized y.cls ∈ TB ∧ (y.cls ≠ "java/lang/invoke/MethodHandle" ∧ y.cls ≠ "java/lang/invoke/VarHandle" ∧ (parseMethodDescriptor y.desc).map (fun d => d.parameters.length) = some n)
def CN (own : String) (index : Nat) (y : MethodName) (bytes : ByteArray) (maxL : Nat) (rt : Option FieldType) (n : Nat) : Prop := Cond.code y bytes maxL rt ∈ TB ∧ (own, index, y, "VouchFlow") ∈ NL ∧ Cond.static y ∈ TB ∧ Cond.initialized y.cls ∈ TB ∧ (y.cls ≠ "java/lang/invoke/MethodHandle" ∧ y.cls ≠ "java/lang/invoke/VarHandle" ∧ (parseMethodDescriptor y.desc).map (fun d => d.parameters.length) = some n)
def RC (w : Wt) (k : Nat) (Cn : String) : Prop := ∀ S : St, ∃ (ci : Nat) (q : vw_C) (fs : List Value), vwCl[ci]? = some q ∧ q.1 = Cn ∧ (Wd w S)[k]? = some (w.2.1 k, .inr (ci, fs))
def roomOk (rc R : Room) (maxL : Nat) : Prop := (rc.cells = 0 ∧ rc.slots = 0) ∧ rc.frames + 1 ≤ R.frames ∧ 8 + (maxL + 11) + rc.locals ≤ R.locals
theorem aw_in {w : Wt} {A : Nat → Prop} (hA : ∀ k, k < 39 → A (w.2.1 k)) : ∀ q, AW w q → A q := fun q ⟨k, h1, h2⟩ => h2 ▸ hA k h1
theorem j_callVi (C : Cx X w l0 cc n0 own rm ret) {ty : FieldType} {y : MethodName} {bytes : ByteArray} {maxL n index : Nat} {rc : Room} {stk : List Value} (k : Nat) (As : List Value) {Q0 : Int32 → St → Prop} (hM : MI l0 w y bytes maxL ty rc (rr w k :: As) S Q0) (hw : CV own index y bytes maxL (some ty) n) (hrm : roomOk rc rm maxL) (hn : As.length = n) (hrc : RC w k y.cls) (hst : stk = As.reverse ++ rr w k :: st) (hcat : (st.map fun v => v.category).sum ≤ 8) (hd : decode cc pc = .ok (.invokevirtual index, 3)) (h : ∀ (r : Int32) (S1 : St), Q0 r S1 → J X w Q (pc + 3) lv (.int r :: st) S1) : J X w Q pc lv stk S := by
  obtain ⟨p, l, e, R, s, m, args, below, meth, c, A, nL, cells, slots⟩ := X
  intro H locs ls hP hS hl
  obtain ⟨⟨hx, hb, hml, hown, hts⟩, hG, hW, hA, hR, hn1, hrt, hlk, hc1, hc2, hl0⟩ := C
  subst hR
  subst hl0
  subst hst
  obtain ⟨k1, k2, k3, k4, k5, k6⟩ := hw
  have cw : CallW R s args own y.cls index y bytes maxL (some ty) (.code y bytes maxL (some ty) :: TB) rc 0 0 n := ⟨callB_of n hts (tb_good k1) rfl hrm.1.1 hrm.1.2 (hts _ k5) (hts _ k2) k6 hrm.2, hts _ k3, hts _ k4⟩
  have hp : PreV s H y.cls (w.2.1 k) (va_Pc (rr w k :: As) (Pw w S)) As := ⟨pw_blind w S _, by obtain ⟨ci, q, fs, hc, hq, he⟩ := hrc S; rw [← hq]; exact va_recv hG.1 hP hc he, fun U hU hWm => ⟨rfl, by rw [hU]; exact hP, GK.moved hWm hG⟩⟩
  refine va_calli (va_runV (As := As) (rest := st) ⟨hx, hb, hml, hown, hts⟩ hM cw hp rfl hn (by exact hl.1) rfl (lv_room hcat) hd ⟨by simpa using hc1, by simpa using hc2⟩) hS (fun q _ => aw_in hA q) (aw_in hA) (fun r u t H1 locs1 ht hvm hw1 hB hz1 hk1 hS1 => ?_)
  have hP1 : va_P w.1 vwCl (Wd w u) H1 := by rw [← ht]; exact hB
  exact h r u hw1 H1 locs1 ls hP1 hS1 hl
theorem j_callVl (C : Cx X w l0 cc n0 own rm ret) {y : MethodName} {bytes : ByteArray} {maxL n index : Nat} {rc : Room} {stk : List Value} (k : Nat) (As : List Value) {Q0 : Int64 → St → Prop} (hM : ML l0 w y bytes maxL rc (rr w k :: As) S Q0) (hw : CV own index y bytes maxL (some .long) n) (hrm : roomOk rc rm maxL) (hn : As.length = n) (hrc : RC w k y.cls) (hst : stk = As.reverse ++ rr w k :: st) (hcat : (st.map fun v => v.category).sum ≤ 8) (hd : decode cc pc = .ok (.invokevirtual index, 3)) (h : ∀ (r : Int64) (S1 : St), Q0 r S1 → J X w Q (pc + 3) lv (.long r :: st) S1) : J X w Q pc lv stk S := by
  obtain ⟨p, l, e, R, s, m, args, below, meth, c, A, nL, cells, slots⟩ := X
  intro H locs ls hP hS hl
  obtain ⟨⟨hx, hb, hml, hown, hts⟩, hG, hW, hA, hR, hn1, hrt, hlk, hc1, hc2, hl0⟩ := C
  subst hR
  subst hl0
  subst hst
  obtain ⟨k1, k2, k3, k4, k5, k6⟩ := hw
  have cw : CallW R s args own y.cls index y bytes maxL (some .long) (.code y bytes maxL (some .long) :: TB) rc 0 0 n := ⟨callB_of n hts (tb_good k1) rfl hrm.1.1 hrm.1.2 (hts _ k5) (hts _ k2) k6 hrm.2, hts _ k3, hts _ k4⟩
  have hp : PreV s H y.cls (w.2.1 k) (va_Pc (rr w k :: As) (Pw w S)) As := ⟨pw_blind w S _, by obtain ⟨ci, q, fs, hc, hq, he⟩ := hrc S; rw [← hq]; exact va_recv hG.1 hP hc he, fun U hU hWm => ⟨rfl, by rw [hU]; exact hP, GK.moved hWm hG⟩⟩
  refine va_calll (va_runV (As := As) (rest := st) ⟨hx, hb, hml, hown, hts⟩ hM cw hp rfl hn (by exact hl.1) rfl (lv_room hcat) hd ⟨by simpa using hc1, by simpa using hc2⟩) hS (fun q _ => aw_in hA q) (aw_in hA) (fun r u t H1 locs1 ht hvm hw1 hB hz1 hk1 hS1 => ?_)
  have hP1 : va_P w.1 vwCl (Wd w u) H1 := by rw [← ht]; exact hB
  exact h r u hw1 H1 locs1 ls hP1 hS1 hl
theorem j_callVv (C : Cx X w l0 cc n0 own rm ret) {y : MethodName} {bytes : ByteArray} {maxL n index : Nat} {rc : Room} {stk : List Value} (k : Nat) (As : List Value) {Q0 : St → Prop} (hM : MV l0 w y bytes maxL rc (rr w k :: As) S Q0) (hw : CV own index y bytes maxL none n) (hrm : roomOk rc rm maxL) (hn : As.length = n) (hrc : RC w k y.cls) (hst : stk = As.reverse ++ rr w k :: st) (hcat : (st.map fun v => v.category).sum ≤ 8) (hd : decode cc pc = .ok (.invokevirtual index, 3)) (h : ∀ (S1 : St), Q0 S1 → J X w Q (pc + 3) lv st S1) : J X w Q pc lv stk S := by
  obtain ⟨p, l, e, R, s, m, args, below, meth, c, A, nL, cells, slots⟩ := X
  intro H locs ls hP hS hl
  obtain ⟨⟨hx, hb, hml, hown, hts⟩, hG, hW, hA, hR, hn1, hrt, hlk, hc1, hc2, hl0⟩ := C
  subst hR
  subst hl0
  subst hst
  obtain ⟨k1, k2, k3, k4, k5, k6⟩ := hw
  have cw : CallW R s args own y.cls index y bytes maxL none (.code y bytes maxL none :: TB) rc 0 0 n := ⟨callB_of n hts (tb_good k1) rfl hrm.1.1 hrm.1.2 (hts _ k5) (hts _ k2) k6 hrm.2, hts _ k3, hts _ k4⟩
  have hp : PreV s H y.cls (w.2.1 k) (va_Pc (rr w k :: As) (Pw w S)) As := ⟨pw_blind w S _, by obtain ⟨ci, q, fs, hc, hq, he⟩ := hrc S; rw [← hq]; exact va_recv hG.1 hP hc he, fun U hU hWm => ⟨rfl, by rw [hU]; exact hP, GK.moved hWm hG⟩⟩
  refine va_callv (va_runV (As := As) (rest := st) ⟨hx, hb, hml, hown, hts⟩ hM cw hp rfl hn (by exact hl.1) rfl (lv_room hcat) hd ⟨by simpa using hc1, by simpa using hc2⟩) hS (fun q _ => aw_in hA q) (aw_in hA) (fun u t H1 locs1 ht hvm hw1 hB hz1 hk1 hS1 => ?_)
  have hP1 : va_P w.1 vwCl (Wd w u) H1 := by rw [← ht]; exact hB
  exact h u hw1 H1 locs1 ls hP1 hS1 hl
theorem j_callSi (C : Cx X w l0 cc n0 own rm ret) {ty : FieldType} {y : MethodName} {bytes : ByteArray} {maxL n index : Nat} {rc : Room} {stk : List Value} (As : List Value) {Q0 : Int32 → St → Prop} (hM : MI l0 w y bytes maxL ty rc As S Q0) (hw : CS own index y bytes maxL (some ty) n) (hrm : roomOk rc rm maxL) (hn : As.length = n) (hst : stk = As.reverse ++ st) (hcat : (st.map fun v => v.category).sum ≤ 8) (hd : decode cc pc = .ok (.invokestatic index, 3)) (h : ∀ (r : Int32) (S1 : St), Q0 r S1 → J X w Q (pc + 3) lv (.int r :: st) S1) : J X w Q pc lv stk S := by
  obtain ⟨p, l, e, R, s, m, args, below, meth, c, A, nL, cells, slots⟩ := X
  intro H locs ls hP hS hl
  obtain ⟨⟨hx, hb, hml, hown, hts⟩, hG, hW, hA, hR, hn1, hrt, hlk, hc1, hc2, hl0⟩ := C
  subst hR
  subst hl0
  subst hst
  obtain ⟨k1, k2, k3, k5, k6⟩ := hw
  have cw : CallB R s args own index y bytes maxL (some ty) (.code y bytes maxL (some ty) :: TB) rc 0 0 n ∧ (Cond.static y).before args s = true := ⟨callB_of n hts (tb_good k1) rfl hrm.1.1 hrm.1.2 (hts _ k5) (hts _ k2) k6 hrm.2, hts _ k3⟩
  have hp : PreS s H (va_Pc As (Pw w S)) As := ⟨pw_blind w S _, fun U hU hWm => ⟨rfl, by rw [hU]; exact hP, GK.moved hWm hG⟩⟩
  refine va_calli (va_runS (As := As) (rest := st) ⟨hx, hb, hml, hown, hts⟩ hM cw hp rfl hn (by exact hl.1) rfl (lv_room hcat) hd ⟨by simpa using hc1, by simpa using hc2⟩) hS (fun q _ => aw_in hA q) (aw_in hA) (fun r u t H1 locs1 ht hvm hw1 hB hz1 hk1 hS1 => ?_)
  have hP1 : va_P w.1 vwCl (Wd w u) H1 := by rw [← ht]; exact hB
  exact h r u hw1 H1 locs1 ls hP1 hS1 hl
theorem j_callSl (C : Cx X w l0 cc n0 own rm ret) {y : MethodName} {bytes : ByteArray} {maxL n index : Nat} {rc : Room} {stk : List Value} (As : List Value) {Q0 : Int64 → St → Prop} (hM : ML l0 w y bytes maxL rc As S Q0) (hw : CS own index y bytes maxL (some .long) n) (hrm : roomOk rc rm maxL) (hn : As.length = n) (hst : stk = As.reverse ++ st) (hcat : (st.map fun v => v.category).sum ≤ 8) (hd : decode cc pc = .ok (.invokestatic index, 3)) (h : ∀ (r : Int64) (S1 : St), Q0 r S1 → J X w Q (pc + 3) lv (.long r :: st) S1) : J X w Q pc lv stk S := by
  obtain ⟨p, l, e, R, s, m, args, below, meth, c, A, nL, cells, slots⟩ := X
  intro H locs ls hP hS hl
  obtain ⟨⟨hx, hb, hml, hown, hts⟩, hG, hW, hA, hR, hn1, hrt, hlk, hc1, hc2, hl0⟩ := C
  subst hR
  subst hl0
  subst hst
  obtain ⟨k1, k2, k3, k5, k6⟩ := hw
  have cw : CallB R s args own index y bytes maxL (some .long) (.code y bytes maxL (some .long) :: TB) rc 0 0 n ∧ (Cond.static y).before args s = true := ⟨callB_of n hts (tb_good k1) rfl hrm.1.1 hrm.1.2 (hts _ k5) (hts _ k2) k6 hrm.2, hts _ k3⟩
  have hp : PreS s H (va_Pc As (Pw w S)) As := ⟨pw_blind w S _, fun U hU hWm => ⟨rfl, by rw [hU]; exact hP, GK.moved hWm hG⟩⟩
  refine va_calll (va_runS (As := As) (rest := st) ⟨hx, hb, hml, hown, hts⟩ hM cw hp rfl hn (by exact hl.1) rfl (lv_room hcat) hd ⟨by simpa using hc1, by simpa using hc2⟩) hS (fun q _ => aw_in hA q) (aw_in hA) (fun r u t H1 locs1 ht hvm hw1 hB hz1 hk1 hS1 => ?_)
  have hP1 : va_P w.1 vwCl (Wd w u) H1 := by rw [← ht]; exact hB
  exact h r u hw1 H1 locs1 ls hP1 hS1 hl
theorem j_callSv (C : Cx X w l0 cc n0 own rm ret) {y : MethodName} {bytes : ByteArray} {maxL n index : Nat} {rc : Room} {stk : List Value} (As : List Value) {Q0 : St → Prop} (hM : MV l0 w y bytes maxL rc As S Q0) (hw : CS own index y bytes maxL none n) (hrm : roomOk rc rm maxL) (hn : As.length = n) (hst : stk = As.reverse ++ st) (hcat : (st.map fun v => v.category).sum ≤ 8) (hd : decode cc pc = .ok (.invokestatic index, 3)) (h : ∀ (S1 : St), Q0 S1 → J X w Q (pc + 3) lv st S1) : J X w Q pc lv stk S := by
  obtain ⟨p, l, e, R, s, m, args, below, meth, c, A, nL, cells, slots⟩ := X
  intro H locs ls hP hS hl
  obtain ⟨⟨hx, hb, hml, hown, hts⟩, hG, hW, hA, hR, hn1, hrt, hlk, hc1, hc2, hl0⟩ := C
  subst hR
  subst hl0
  subst hst
  obtain ⟨k1, k2, k3, k5, k6⟩ := hw
  have cw : CallB R s args own index y bytes maxL none (.code y bytes maxL none :: TB) rc 0 0 n ∧ (Cond.static y).before args s = true := ⟨callB_of n hts (tb_good k1) rfl hrm.1.1 hrm.1.2 (hts _ k5) (hts _ k2) k6 hrm.2, hts _ k3⟩
  have hp : PreS s H (va_Pc As (Pw w S)) As := ⟨pw_blind w S _, fun U hU hWm => ⟨rfl, by rw [hU]; exact hP, GK.moved hWm hG⟩⟩
  refine va_callv (va_runS (As := As) (rest := st) ⟨hx, hb, hml, hown, hts⟩ hM cw hp rfl hn (by exact hl.1) rfl (lv_room hcat) hd ⟨by simpa using hc1, by simpa using hc2⟩) hS (fun q _ => aw_in hA q) (aw_in hA) (fun u t H1 locs1 ht hvm hw1 hB hz1 hk1 hS1 => ?_)
  have hP1 : va_P w.1 vwCl (Wd w u) H1 := by rw [← ht]; exact hB
  exact h u hw1 H1 locs1 ls hP1 hS1 hl
theorem j_callNi (C : Cx X w l0 cc n0 own rm ret) {ty : FieldType} {y : MethodName} {bytes : ByteArray} {maxL n index : Nat} {rc : Room} {stk : List Value} (As : List Value) {Q0 : Int32 → St → Prop} (hM : MI l0 w y bytes maxL ty rc As S Q0) (hw : CN own index y bytes maxL (some ty) n) (hrm : roomOk rc rm maxL) (hn : As.length = n) (hst : stk = As.reverse ++ st) (hcat : (st.map fun v => v.category).sum ≤ 8) (hd : decode cc pc = .ok (.invokestatic index, 3)) (h : ∀ (r : Int32) (S1 : St), Q0 r S1 → J X w Q (pc + 3) lv (.int r :: st) S1) : J X w Q pc lv stk S := by
  obtain ⟨p, l, e, R, s, m, args, below, meth, c, A, nL, cells, slots⟩ := X
  intro H locs ls hP hS hl
  obtain ⟨⟨hx, hb, hml, hown, hts⟩, hG, hW, hA, hR, hn1, hrt, hlk, hc1, hc2, hl0⟩ := C
  subst hR
  subst hl0
  subst hst
  obtain ⟨k1, k2, k3, k5, k6⟩ := hw
  have cw : va_CN R s args own index y "VouchFlow" bytes maxL (some ty) (.code y bytes maxL (some ty) :: TB) rc 0 0 n ∧ (Cond.static y).before args s = true ∧ True := ⟨va_cnB n hts (tb_good k1) rfl hrm.1.1 hrm.1.2 (hG.2 _ k2) (hts _ k5) k6 hrm.2, hts _ k3, trivial⟩
  have hp : PreS s H (va_Pc As (Pw w S)) As := ⟨pw_blind w S _, fun U hU hWm => ⟨rfl, by rw [hU]; exact hP, GK.moved hWm hG⟩⟩
  refine va_calli (va_runSN (As := As) (rest := st) ⟨hx, hb, hml, hown, hts⟩ hM cw hp rfl hn (by exact hl.1) rfl (lv_room hcat) hd ⟨by simpa using hc1, by simpa using hc2⟩) hS (fun q _ => aw_in hA q) (aw_in hA) (fun r u t H1 locs1 ht hvm hw1 hB hz1 hk1 hS1 => ?_)
  have hP1 : va_P w.1 vwCl (Wd w u) H1 := by rw [← ht]; exact hB
  exact h r u hw1 H1 locs1 ls hP1 hS1 hl
theorem m_MI {l : Launch} {ty : FieldType} {y : MethodName} {cc : ByteArray} {n0 : Nat} {rm : Room} {av : List Value} {Q0 : Int32 → St → Prop} (hw : WOK w) (hy : plainName y.cls = true) (hown : y.cls = own) (hlen : (lg_sl av).length ≤ n0) (hlv : lv_args 0 av = lv) (h : ∀ X : Mx, Cx X w l cc n0 own rm (some ty) → J X w (QI X w Q0) 0 lv [] S) : MI l w y cc n0 ty rm av S Q0 := by
  refine Met.ofW (cc := cc) (maxL := n0) (ret := (some ty)) hy rfl ?_
  intro p e s m args below meth c s₁ B hml hv
  obtain ⟨rfl, hP, hG⟩ := hv
  have hts0 := atoms_spec (ws := .code y cc n0 (some ty) :: TB) B.pre
  have hts : ∀ x ∈ TB, x.before av.toArray s = true := fun x hx => hts0 x (List.mem_cons_of_mem _ hx)
  have ho : s.vm.findClass own = some m.cls := by rw [← hown]; exact findClass_of_methodNamed B.named
  have hC : Cx (p, l, e, (headSpec (.code y cc n0 (some ty) :: TB) rm).room, s, m, av.toArray, below, meth, c, AW w, n0, 0, 0) w l cc n0 own rm (some ty) := ⟨⟨B.exec, B.bytes, hml, ho, hts⟩, hG, hw, fun k hk => ⟨k, hk, rfl⟩, rfl, rfl, B.returns, B.notSynchronized, Nat.zero_le _, Nat.zero_le _, rfl⟩
  have hl := lv_entry av (n := n0) hlen
  rw [lg_entry_eq]
  rw [hlv] at hl
  exact h _ hC s.heap [] _ hP va_S.rf hl
theorem m_ML {l : Launch} {y : MethodName} {cc : ByteArray} {n0 : Nat} {rm : Room} {av : List Value} {Q0 : Int64 → St → Prop} (hw : WOK w) (hy : plainName y.cls = true) (hown : y.cls = own) (hlen : (lg_sl av).length ≤ n0) (hlv : lv_args 0 av = lv) (h : ∀ X : Mx, Cx X w l cc n0 own rm (some .long) → J X w (QL X w Q0) 0 lv [] S) : ML l w y cc n0 rm av S Q0 := by
  refine Met.ofW (cc := cc) (maxL := n0) (ret := (some .long)) hy rfl ?_
  intro p e s m args below meth c s₁ B hml hv
  obtain ⟨rfl, hP, hG⟩ := hv
  have hts0 := atoms_spec (ws := .code y cc n0 (some .long) :: TB) B.pre
  have hts : ∀ x ∈ TB, x.before av.toArray s = true := fun x hx => hts0 x (List.mem_cons_of_mem _ hx)
  have ho : s.vm.findClass own = some m.cls := by rw [← hown]; exact findClass_of_methodNamed B.named
  have hC : Cx (p, l, e, (headSpec (.code y cc n0 (some .long) :: TB) rm).room, s, m, av.toArray, below, meth, c, AW w, n0, 0, 0) w l cc n0 own rm (some .long) := ⟨⟨B.exec, B.bytes, hml, ho, hts⟩, hG, hw, fun k hk => ⟨k, hk, rfl⟩, rfl, rfl, B.returns, B.notSynchronized, Nat.zero_le _, Nat.zero_le _, rfl⟩
  have hl := lv_entry av (n := n0) hlen
  rw [lg_entry_eq]
  rw [hlv] at hl
  exact h _ hC s.heap [] _ hP va_S.rf hl
theorem m_MV {l : Launch} {y : MethodName} {cc : ByteArray} {n0 : Nat} {rm : Room} {av : List Value} {Q0 : St → Prop} (hw : WOK w) (hy : plainName y.cls = true) (hown : y.cls = own) (hlen : (lg_sl av).length ≤ n0) (hlv : lv_args 0 av = lv) (h : ∀ X : Mx, Cx X w l cc n0 own rm none → J X w (QV X w Q0) 0 lv [] S) : MV l w y cc n0 rm av S Q0 := by
  refine Met.ofW (cc := cc) (maxL := n0) (ret := none) hy rfl ?_
  intro p e s m args below meth c s₁ B hml hv
  obtain ⟨rfl, hP, hG⟩ := hv
  have hts0 := atoms_spec (ws := .code y cc n0 none :: TB) B.pre
  have hts : ∀ x ∈ TB, x.before av.toArray s = true := fun x hx => hts0 x (List.mem_cons_of_mem _ hx)
  have ho : s.vm.findClass own = some m.cls := by rw [← hown]; exact findClass_of_methodNamed B.named
  have hC : Cx (p, l, e, (headSpec (.code y cc n0 none :: TB) rm).room, s, m, av.toArray, below, meth, c, AW w, n0, 0, 0) w l cc n0 own rm none := ⟨⟨B.exec, B.bytes, hml, ho, hts⟩, hG, hw, fun k hk => ⟨k, hk, rfl⟩, rfl, rfl, B.returns, B.notSynchronized, Nat.zero_le _, Nat.zero_le _, rfl⟩
  have hl := lv_entry av (n := n0) hlen
  rw [lg_entry_eq]
  rw [hlv] at hl
  exact h _ hC s.heap [] _ hP va_S.rf hl
end Rows
end
