-- ===== PART A: goes FIRST, ahead of the names: the tables' words, and 'selects' of the private methods out of them =====
/-- a private method of a class that the tables say can be made, by its rows of tables_1 -/
def lw_okq (q : MethodName × Nat) : Prop := (q.1.cls ≠ "java/lang/invoke/MethodHandle" ∧ q.1.cls ≠ "java/lang/invoke/VarHandle") ∧ Cond.instantiable q.1.cls q.2 ∈ tables_1 ∧ Cond.privateMethod q.1 ∈ tables_1 ∧ Cond.instanceMethod q.1 ∈ tables_1
theorem lw_p0 : lw_okq (⟨"IndependenceDesk", "startAnew", "(I)V"⟩, 12) := ⟨⟨by decide +kernel, by decide +kernel⟩, List.mem_of_getElem? (i := 15) (by decide +kernel), List.mem_of_getElem? (i := 144) (by decide +kernel), List.mem_of_getElem? (i := 145) (by decide +kernel)⟩
theorem lw_p1 : lw_okq (⟨"IndependenceDesk$Told", "noteBreach", "(III)V"⟩, 6) := ⟨⟨by decide +kernel, by decide +kernel⟩, List.mem_of_getElem? (i := 45) (by decide +kernel), List.mem_of_getElem? (i := 152) (by decide +kernel), List.mem_of_getElem? (i := 153) (by decide +kernel)⟩
theorem lw_p2 : lw_okq (⟨"IndependenceDesk", "isThing", "(I)Z"⟩, 12) := ⟨⟨by decide +kernel, by decide +kernel⟩, List.mem_of_getElem? (i := 15) (by decide +kernel), List.mem_of_getElem? (i := 201) (by decide +kernel), List.mem_of_getElem? (i := 202) (by decide +kernel)⟩
theorem lw_p3 : lw_okq (⟨"IndependenceDesk", "slotAt", "(I)LIndependenceDesk$Slot;"⟩, 12) := ⟨⟨by decide +kernel, by decide +kernel⟩, List.mem_of_getElem? (i := 15) (by decide +kernel), List.mem_of_getElem? (i := 210) (by decide +kernel), List.mem_of_getElem? (i := 211) (by decide +kernel)⟩
theorem lw_p4 : lw_okq (⟨"IndependenceDesk", "numberRefusal", "(II)I"⟩, 12) := ⟨⟨by decide +kernel, by decide +kernel⟩, List.mem_of_getElem? (i := 15) (by decide +kernel), List.mem_of_getElem? (i := 237) (by decide +kernel), List.mem_of_getElem? (i := 238) (by decide +kernel)⟩
theorem lw_p5 : lw_okq (⟨"IndependenceDesk$Slot", "cut", "(J)J"⟩, 3) := ⟨⟨by decide +kernel, by decide +kernel⟩, List.mem_of_getElem? (i := 126) (by decide +kernel), List.mem_of_getElem? (i := 249) (by decide +kernel), List.mem_of_getElem? (i := 250) (by decide +kernel)⟩
theorem lw_p6 : lw_okq (⟨"IndependenceDesk", "checkFromNumbers", "(I)LIndependenceDesk$Check;"⟩, 12) := ⟨⟨by decide +kernel, by decide +kernel⟩, List.mem_of_getElem? (i := 15) (by decide +kernel), List.mem_of_getElem? (i := 276) (by decide +kernel), List.mem_of_getElem? (i := 277) (by decide +kernel)⟩
theorem lw_p7 : lw_okq (⟨"IndependenceDesk$Told", "listSets", "(I)V"⟩, 6) := ⟨⟨by decide +kernel, by decide +kernel⟩, List.mem_of_getElem? (i := 45) (by decide +kernel), List.mem_of_getElem? (i := 332) (by decide +kernel), List.mem_of_getElem? (i := 333) (by decide +kernel)⟩
theorem lw_p8 : lw_okq (⟨"IndependenceDesk$Told", "lacksPart", "()Z"⟩, 6) := ⟨⟨by decide +kernel, by decide +kernel⟩, List.mem_of_getElem? (i := 45) (by decide +kernel), List.mem_of_getElem? (i := 340) (by decide +kernel), List.mem_of_getElem? (i := 341) (by decide +kernel)⟩
theorem lw_p9 : lw_okq (⟨"IndependenceDesk$Told", "leastPartNotTold", "(I)I"⟩, 6) := ⟨⟨by decide +kernel, by decide +kernel⟩, List.mem_of_getElem? (i := 45) (by decide +kernel), List.mem_of_getElem? (i := 344) (by decide +kernel), List.mem_of_getElem? (i := 345) (by decide +kernel)⟩
theorem lw_p10 : lw_okq (⟨"IndependenceDesk$Told", "lacksExchange", "()Z"⟩, 6) := ⟨⟨by decide +kernel, by decide +kernel⟩, List.mem_of_getElem? (i := 45) (by decide +kernel), List.mem_of_getElem? (i := 348) (by decide +kernel), List.mem_of_getElem? (i := 349) (by decide +kernel)⟩
theorem lw_p11 : lw_okq (⟨"IndependenceDesk$Told", "leastWithNoneToCome", "(I)I"⟩, 6) := ⟨⟨by decide +kernel, by decide +kernel⟩, List.mem_of_getElem? (i := 45) (by decide +kernel), List.mem_of_getElem? (i := 352) (by decide +kernel), List.mem_of_getElem? (i := 353) (by decide +kernel)⟩
theorem lw_p12 : lw_okq (⟨"IndependenceDesk$Told", "thingsThatMayCome", "(I)I"⟩, 6) := ⟨⟨by decide +kernel, by decide +kernel⟩, List.mem_of_getElem? (i := 45) (by decide +kernel), List.mem_of_getElem? (i := 356) (by decide +kernel), List.mem_of_getElem? (i := 357) (by decide +kernel)⟩
theorem lw_p13 : lw_okq (⟨"IndependenceDesk", "addRule", "(IIIILIndependenceDesk$Check;)I"⟩, 12) := ⟨⟨by decide +kernel, by decide +kernel⟩, List.mem_of_getElem? (i := 15) (by decide +kernel), List.mem_of_getElem? (i := 366) (by decide +kernel), List.mem_of_getElem? (i := 367) (by decide +kernel)⟩
theorem lw_p14 : lw_okq (⟨"IndependenceDesk$Rule", "rankByParts", "(ILIndependenceDesk$Check;)I"⟩, 5) := ⟨⟨by decide +kernel, by decide +kernel⟩, List.mem_of_getElem? (i := 369) (by decide +kernel), List.mem_of_getElem? (i := 396) (by decide +kernel), List.mem_of_getElem? (i := 397) (by decide +kernel)⟩
theorem lw_p15 : lw_okq (⟨"IndependenceDesk$Vectors", "clearLead", "([I[II)V"⟩, 5) := ⟨⟨by decide +kernel, by decide +kernel⟩, List.mem_of_getElem? (i := 103) (by decide +kernel), List.mem_of_getElem? (i := 444) (by decide +kernel), List.mem_of_getElem? (i := 445) (by decide +kernel)⟩
def lw_privs_1 : List (MethodName × Nat) := [(⟨"IndependenceDesk", "startAnew", "(I)V"⟩, 12), (⟨"IndependenceDesk$Told", "noteBreach", "(III)V"⟩, 6), (⟨"IndependenceDesk", "isThing", "(I)Z"⟩, 12), (⟨"IndependenceDesk", "slotAt", "(I)LIndependenceDesk$Slot;"⟩, 12), (⟨"IndependenceDesk", "numberRefusal", "(II)I"⟩, 12), (⟨"IndependenceDesk$Slot", "cut", "(J)J"⟩, 3), (⟨"IndependenceDesk", "checkFromNumbers", "(I)LIndependenceDesk$Check;"⟩, 12), (⟨"IndependenceDesk$Told", "listSets", "(I)V"⟩, 6), (⟨"IndependenceDesk$Told", "lacksPart", "()Z"⟩, 6), (⟨"IndependenceDesk$Told", "leastPartNotTold", "(I)I"⟩, 6), (⟨"IndependenceDesk$Told", "lacksExchange", "()Z"⟩, 6), (⟨"IndependenceDesk$Told", "leastWithNoneToCome", "(I)I"⟩, 6), (⟨"IndependenceDesk$Told", "thingsThatMayCome", "(I)I"⟩, 6), (⟨"IndependenceDesk", "addRule", "(IIIILIndependenceDesk$Check;)I"⟩, 12), (⟨"IndependenceDesk$Rule", "rankByParts", "(ILIndependenceDesk$Check;)I"⟩, 5), (⟨"IndependenceDesk$Vectors", "clearLead", "([I[II)V"⟩, 5)]
theorem lw_r1 : ∀ q ∈ lw_privs_1, lw_okq q := List.forall_mem_cons.mpr ⟨lw_p0, List.forall_mem_cons.mpr ⟨lw_p1, List.forall_mem_cons.mpr ⟨lw_p2, List.forall_mem_cons.mpr ⟨lw_p3, List.forall_mem_cons.mpr ⟨lw_p4, List.forall_mem_cons.mpr ⟨lw_p5, List.forall_mem_cons.mpr ⟨lw_p6, List.forall_mem_cons.mpr ⟨lw_p7, List.forall_mem_cons.mpr ⟨lw_p8, List.forall_mem_cons.mpr ⟨lw_p9, List.forall_mem_cons.mpr ⟨lw_p10, List.forall_mem_cons.mpr ⟨lw_p11, List.forall_mem_cons.mpr ⟨lw_p12, List.forall_mem_cons.mpr ⟨lw_p13, List.forall_mem_cons.mpr ⟨lw_p14, List.forall_mem_cons.mpr ⟨lw_p15, fun _ h => absurd h List.not_mem_nil⟩⟩⟩⟩⟩⟩⟩⟩⟩⟩⟩⟩⟩⟩⟩⟩
theorem lw_p16 : lw_okq (⟨"IndependenceDesk$Vectors", "modulo", "(I)I"⟩, 5) := ⟨⟨by decide +kernel, by decide +kernel⟩, List.mem_of_getElem? (i := 103) (by decide +kernel), List.mem_of_getElem? (i := 448) (by decide +kernel), List.mem_of_getElem? (i := 449) (by decide +kernel)⟩
theorem lw_p17 : lw_okq (⟨"IndependenceDesk$Vectors", "firstNotZero", "([I)I"⟩, 5) := ⟨⟨by decide +kernel, by decide +kernel⟩, List.mem_of_getElem? (i := 103) (by decide +kernel), List.mem_of_getElem? (i := 452) (by decide +kernel), List.mem_of_getElem? (i := 453) (by decide +kernel)⟩
theorem lw_p18 : lw_okq (⟨"IndependenceDesk", "addDerived", "(IIII)I"⟩, 12) := ⟨⟨by decide +kernel, by decide +kernel⟩, List.mem_of_getElem? (i := 15) (by decide +kernel), List.mem_of_getElem? (i := 460) (by decide +kernel), List.mem_of_getElem? (i := 461) (by decide +kernel)⟩
theorem lw_p19 : lw_okq (⟨"IndependenceDesk", "ruleAt", "(I)LIndependenceDesk$Rule;"⟩, 12) := ⟨⟨by decide +kernel, by decide +kernel⟩, List.mem_of_getElem? (i := 15) (by decide +kernel), List.mem_of_getElem? (i := 464) (by decide +kernel), List.mem_of_getElem? (i := 465) (by decide +kernel)⟩
theorem lw_p20 : lw_okq (⟨"IndependenceDesk", "isSet", "(I)Z"⟩, 12) := ⟨⟨by decide +kernel, by decide +kernel⟩, List.mem_of_getElem? (i := 15) (by decide +kernel), List.mem_of_getElem? (i := 468) (by decide +kernel), List.mem_of_getElem? (i := 469) (by decide +kernel)⟩
theorem lw_p21 : lw_okq (⟨"IndependenceDesk", "thingsThatMayGo", "(LIndependenceDesk$Rule;II)I"⟩, 12) := ⟨⟨by decide +kernel, by decide +kernel⟩, List.mem_of_getElem? (i := 15) (by decide +kernel), List.mem_of_getElem? (i := 545) (by decide +kernel), List.mem_of_getElem? (i := 546) (by decide +kernel)⟩
theorem lw_p22 : lw_okq (⟨"IndependenceDesk", "nextByWeight", "(IZ)I"⟩, 12) := ⟨⟨by decide +kernel, by decide +kernel⟩, List.mem_of_getElem? (i := 15) (by decide +kernel), List.mem_of_getElem? (i := 553) (by decide +kernel), List.mem_of_getElem? (i := 554) (by decide +kernel)⟩
theorem lw_p23 : lw_okq (⟨"IndependenceDesk", "goesAhead", "(IIZ)Z"⟩, 12) := ⟨⟨by decide +kernel, by decide +kernel⟩, List.mem_of_getElem? (i := 15) (by decide +kernel), List.mem_of_getElem? (i := 557) (by decide +kernel), List.mem_of_getElem? (i := 558) (by decide +kernel)⟩
theorem lw_p24 : lw_okq (⟨"IndependenceDesk", "mostCommon", "(LIndependenceDesk$Rule;LIndependenceDesk$Rule;LIndependenceDesk$Rule;)I"⟩, 12) := ⟨⟨by decide +kernel, by decide +kernel⟩, List.mem_of_getElem? (i := 15) (by decide +kernel), List.mem_of_getElem? (i := 565) (by decide +kernel), List.mem_of_getElem? (i := 566) (by decide +kernel)⟩
theorem lw_p25 : lw_okq (⟨"IndependenceDesk", "weightOf", "(I)I"⟩, 12) := ⟨⟨by decide +kernel, by decide +kernel⟩, List.mem_of_getElem? (i := 15) (by decide +kernel), List.mem_of_getElem? (i := 578) (by decide +kernel), List.mem_of_getElem? (i := 579) (by decide +kernel)⟩
theorem lw_p26 : lw_okq (⟨"IndependenceDesk", "mostCrowded", "(LIndependenceDesk$Rule;)I"⟩, 12) := ⟨⟨by decide +kernel, by decide +kernel⟩, List.mem_of_getElem? (i := 15) (by decide +kernel), List.mem_of_getElem? (i := 594) (by decide +kernel), List.mem_of_getElem? (i := 595) (by decide +kernel)⟩
theorem lw_p27 : lw_okq (⟨"IndependenceDesk", "heapsNeeded", "(LIndependenceDesk$Rule;I)I"⟩, 12) := ⟨⟨by decide +kernel, by decide +kernel⟩, List.mem_of_getElem? (i := 15) (by decide +kernel), List.mem_of_getElem? (i := 598) (by decide +kernel), List.mem_of_getElem? (i := 599) (by decide +kernel)⟩
theorem lw_p28 : lw_okq (⟨"IndependenceDesk", "numberInDeal", "(LIndependenceDesk$Rule;I)I"⟩, 12) := ⟨⟨by decide +kernel, by decide +kernel⟩, List.mem_of_getElem? (i := 15) (by decide +kernel), List.mem_of_getElem? (i := 606) (by decide +kernel), List.mem_of_getElem? (i := 607) (by decide +kernel)⟩
theorem lw_p29 : lw_okq (⟨"IndependenceDesk", "heapThatMayTake", "(LIndependenceDesk$Rule;III)I"⟩, 12) := ⟨⟨by decide +kernel, by decide +kernel⟩, List.mem_of_getElem? (i := 15) (by decide +kernel), List.mem_of_getElem? (i := 610) (by decide +kernel), List.mem_of_getElem? (i := 611) (by decide +kernel)⟩
theorem lw_p30 : lw_okq (⟨"IndependenceDesk", "restCanBeDealt", "(LIndependenceDesk$Rule;III)Z"⟩, 12) := ⟨⟨by decide +kernel, by decide +kernel⟩, List.mem_of_getElem? (i := 15) (by decide +kernel), List.mem_of_getElem? (i := 614) (by decide +kernel), List.mem_of_getElem? (i := 615) (by decide +kernel)⟩
theorem lw_p31 : lw_okq (⟨"IndependenceDesk", "roomFor", "(LIndependenceDesk$Rule;III)I"⟩, 12) := ⟨⟨by decide +kernel, by decide +kernel⟩, List.mem_of_getElem? (i := 15) (by decide +kernel), List.mem_of_getElem? (i := 618) (by decide +kernel), List.mem_of_getElem? (i := 619) (by decide +kernel)⟩
def lw_privs_2 : List (MethodName × Nat) := [(⟨"IndependenceDesk$Vectors", "modulo", "(I)I"⟩, 5), (⟨"IndependenceDesk$Vectors", "firstNotZero", "([I)I"⟩, 5), (⟨"IndependenceDesk", "addDerived", "(IIII)I"⟩, 12), (⟨"IndependenceDesk", "ruleAt", "(I)LIndependenceDesk$Rule;"⟩, 12), (⟨"IndependenceDesk", "isSet", "(I)Z"⟩, 12), (⟨"IndependenceDesk", "thingsThatMayGo", "(LIndependenceDesk$Rule;II)I"⟩, 12), (⟨"IndependenceDesk", "nextByWeight", "(IZ)I"⟩, 12), (⟨"IndependenceDesk", "goesAhead", "(IIZ)Z"⟩, 12), (⟨"IndependenceDesk", "mostCommon", "(LIndependenceDesk$Rule;LIndependenceDesk$Rule;LIndependenceDesk$Rule;)I"⟩, 12), (⟨"IndependenceDesk", "weightOf", "(I)I"⟩, 12), (⟨"IndependenceDesk", "mostCrowded", "(LIndependenceDesk$Rule;)I"⟩, 12), (⟨"IndependenceDesk", "heapsNeeded", "(LIndependenceDesk$Rule;I)I"⟩, 12), (⟨"IndependenceDesk", "numberInDeal", "(LIndependenceDesk$Rule;I)I"⟩, 12), (⟨"IndependenceDesk", "heapThatMayTake", "(LIndependenceDesk$Rule;III)I"⟩, 12), (⟨"IndependenceDesk", "restCanBeDealt", "(LIndependenceDesk$Rule;III)Z"⟩, 12), (⟨"IndependenceDesk", "roomFor", "(LIndependenceDesk$Rule;III)I"⟩, 12)]
theorem lw_r2 : ∀ q ∈ lw_privs_2, lw_okq q := List.forall_mem_cons.mpr ⟨lw_p16, List.forall_mem_cons.mpr ⟨lw_p17, List.forall_mem_cons.mpr ⟨lw_p18, List.forall_mem_cons.mpr ⟨lw_p19, List.forall_mem_cons.mpr ⟨lw_p20, List.forall_mem_cons.mpr ⟨lw_p21, List.forall_mem_cons.mpr ⟨lw_p22, List.forall_mem_cons.mpr ⟨lw_p23, List.forall_mem_cons.mpr ⟨lw_p24, List.forall_mem_cons.mpr ⟨lw_p25, List.forall_mem_cons.mpr ⟨lw_p26, List.forall_mem_cons.mpr ⟨lw_p27, List.forall_mem_cons.mpr ⟨lw_p28, List.forall_mem_cons.mpr ⟨lw_p29, List.forall_mem_cons.mpr ⟨lw_p30, List.forall_mem_cons.mpr ⟨lw_p31, fun _ h => absurd h List.not_mem_nil⟩⟩⟩⟩⟩⟩⟩⟩⟩⟩⟩⟩⟩⟩⟩⟩
theorem lw_p32 : lw_okq (⟨"IndependenceDesk", "slotsWithRow", "()I"⟩, 12) := ⟨⟨by decide +kernel, by decide +kernel⟩, List.mem_of_getElem? (i := 15) (by decide +kernel), List.mem_of_getElem? (i := 639) (by decide +kernel), List.mem_of_getElem? (i := 640) (by decide +kernel)⟩
theorem lw_p33 : lw_okq (⟨"IndependenceDeskModel", "anew", "(I)V"⟩, 26) := ⟨⟨by decide +kernel, by decide +kernel⟩, List.mem_of_getElem? (i := 643) (by decide +kernel), List.mem_of_getElem? (i := 650) (by decide +kernel), List.mem_of_getElem? (i := 651) (by decide +kernel)⟩
theorem lw_p34 : lw_okq (⟨"IndependenceDeskModel", "isThing", "(I)Z"⟩, 26) := ⟨⟨by decide +kernel, by decide +kernel⟩, List.mem_of_getElem? (i := 643) (by decide +kernel), List.mem_of_getElem? (i := 742) (by decide +kernel), List.mem_of_getElem? (i := 743) (by decide +kernel)⟩
theorem lw_p35 : lw_okq (⟨"IndependenceDeskModel", "wrong", "(II)I"⟩, 26) := ⟨⟨by decide +kernel, by decide +kernel⟩, List.mem_of_getElem? (i := 643) (by decide +kernel), List.mem_of_getElem? (i := 762) (by decide +kernel), List.mem_of_getElem? (i := 763) (by decide +kernel)⟩
theorem lw_p36 : lw_okq (⟨"IndependenceDeskModel", "readsTold", "()V"⟩, 26) := ⟨⟨by decide +kernel, by decide +kernel⟩, List.mem_of_getElem? (i := 643) (by decide +kernel), List.mem_of_getElem? (i := 778) (by decide +kernel), List.mem_of_getElem? (i := 779) (by decide +kernel)⟩
theorem lw_p37 : lw_okq (⟨"IndependenceDeskModel", "next", "(JJ)I"⟩, 26) := ⟨⟨by decide +kernel, by decide +kernel⟩, List.mem_of_getElem? (i := 643) (by decide +kernel), List.mem_of_getElem? (i := 783) (by decide +kernel), List.mem_of_getElem? (i := 784) (by decide +kernel)⟩
theorem lw_p38 : lw_okq (⟨"IndependenceDeskModel", "allow", "(I)V"⟩, 26) := ⟨⟨by decide +kernel, by decide +kernel⟩, List.mem_of_getElem? (i := 643) (by decide +kernel), List.mem_of_getElem? (i := 787) (by decide +kernel), List.mem_of_getElem? (i := 788) (by decide +kernel)⟩
theorem lw_p39 : lw_okq (⟨"IndependenceDeskModel", "breaks", "()Z"⟩, 26) := ⟨⟨by decide +kernel, by decide +kernel⟩, List.mem_of_getElem? (i := 643) (by decide +kernel), List.mem_of_getElem? (i := 791) (by decide +kernel), List.mem_of_getElem? (i := 792) (by decide +kernel)⟩
theorem lw_p40 : lw_okq (⟨"IndependenceDeskModel", "isAllowed", "(II)Z"⟩, 26) := ⟨⟨by decide +kernel, by decide +kernel⟩, List.mem_of_getElem? (i := 643) (by decide +kernel), List.mem_of_getElem? (i := 795) (by decide +kernel), List.mem_of_getElem? (i := 796) (by decide +kernel)⟩
theorem lw_p41 : lw_okq (⟨"IndependenceDeskModel", "breaks", "(III)Z"⟩, 26) := ⟨⟨by decide +kernel, by decide +kernel⟩, List.mem_of_getElem? (i := 643) (by decide +kernel), List.mem_of_getElem? (i := 799) (by decide +kernel), List.mem_of_getElem? (i := 800) (by decide +kernel)⟩
theorem lw_p42 : lw_okq (⟨"IndependenceDeskModel", "readsEven", "()V"⟩, 26) := ⟨⟨by decide +kernel, by decide +kernel⟩, List.mem_of_getElem? (i := 643) (by decide +kernel), List.mem_of_getElem? (i := 806) (by decide +kernel), List.mem_of_getElem? (i := 807) (by decide +kernel)⟩
theorem lw_p43 : lw_okq (⟨"IndependenceDeskModel", "readsParts", "()V"⟩, 26) := ⟨⟨by decide +kernel, by decide +kernel⟩, List.mem_of_getElem? (i := 643) (by decide +kernel), List.mem_of_getElem? (i := 811) (by decide +kernel), List.mem_of_getElem? (i := 812) (by decide +kernel)⟩
theorem lw_p44 : lw_okq (⟨"IndependenceDeskModel", "readsNested", "()V"⟩, 26) := ⟨⟨by decide +kernel, by decide +kernel⟩, List.mem_of_getElem? (i := 643) (by decide +kernel), List.mem_of_getElem? (i := 817) (by decide +kernel), List.mem_of_getElem? (i := 818) (by decide +kernel)⟩
theorem lw_p45 : lw_okq (⟨"IndependenceDeskModel", "readsEdges", "()V"⟩, 26) := ⟨⟨by decide +kernel, by decide +kernel⟩, List.mem_of_getElem? (i := 643) (by decide +kernel), List.mem_of_getElem? (i := 822) (by decide +kernel), List.mem_of_getElem? (i := 823) (by decide +kernel)⟩
theorem lw_p46 : lw_okq (⟨"IndependenceDeskModel", "readsRows", "()V"⟩, 26) := ⟨⟨by decide +kernel, by decide +kernel⟩, List.mem_of_getElem? (i := 643) (by decide +kernel), List.mem_of_getElem? (i := 827) (by decide +kernel), List.mem_of_getElem? (i := 828) (by decide +kernel)⟩
theorem lw_p47 : lw_okq (⟨"IndependenceDeskModel", "isFree", "(III)Z"⟩, 26) := ⟨⟨by decide +kernel, by decide +kernel⟩, List.mem_of_getElem? (i := 643) (by decide +kernel), List.mem_of_getElem? (i := 834) (by decide +kernel), List.mem_of_getElem? (i := 835) (by decide +kernel)⟩
def lw_privs_3 : List (MethodName × Nat) := [(⟨"IndependenceDesk", "slotsWithRow", "()I"⟩, 12), (⟨"IndependenceDeskModel", "anew", "(I)V"⟩, 26), (⟨"IndependenceDeskModel", "isThing", "(I)Z"⟩, 26), (⟨"IndependenceDeskModel", "wrong", "(II)I"⟩, 26), (⟨"IndependenceDeskModel", "readsTold", "()V"⟩, 26), (⟨"IndependenceDeskModel", "next", "(JJ)I"⟩, 26), (⟨"IndependenceDeskModel", "allow", "(I)V"⟩, 26), (⟨"IndependenceDeskModel", "breaks", "()Z"⟩, 26), (⟨"IndependenceDeskModel", "isAllowed", "(II)Z"⟩, 26), (⟨"IndependenceDeskModel", "breaks", "(III)Z"⟩, 26), (⟨"IndependenceDeskModel", "readsEven", "()V"⟩, 26), (⟨"IndependenceDeskModel", "readsParts", "()V"⟩, 26), (⟨"IndependenceDeskModel", "readsNested", "()V"⟩, 26), (⟨"IndependenceDeskModel", "readsEdges", "()V"⟩, 26), (⟨"IndependenceDeskModel", "readsRows", "()V"⟩, 26), (⟨"IndependenceDeskModel", "isFree", "(III)Z"⟩, 26)]
theorem lw_r3 : ∀ q ∈ lw_privs_3, lw_okq q := List.forall_mem_cons.mpr ⟨lw_p32, List.forall_mem_cons.mpr ⟨lw_p33, List.forall_mem_cons.mpr ⟨lw_p34, List.forall_mem_cons.mpr ⟨lw_p35, List.forall_mem_cons.mpr ⟨lw_p36, List.forall_mem_cons.mpr ⟨lw_p37, List.forall_mem_cons.mpr ⟨lw_p38, List.forall_mem_cons.mpr ⟨lw_p39, List.forall_mem_cons.mpr ⟨lw_p40, List.forall_mem_cons.mpr ⟨lw_p41, List.forall_mem_cons.mpr ⟨lw_p42, List.forall_mem_cons.mpr ⟨lw_p43, List.forall_mem_cons.mpr ⟨lw_p44, List.forall_mem_cons.mpr ⟨lw_p45, List.forall_mem_cons.mpr ⟨lw_p46, List.forall_mem_cons.mpr ⟨lw_p47, fun _ h => absurd h List.not_mem_nil⟩⟩⟩⟩⟩⟩⟩⟩⟩⟩⟩⟩⟩⟩⟩⟩
theorem lw_p48 : lw_okq (⟨"IndependenceDeskModel", "lead", "(II)I"⟩, 26) := ⟨⟨by decide +kernel, by decide +kernel⟩, List.mem_of_getElem? (i := 643) (by decide +kernel), List.mem_of_getElem? (i := 838) (by decide +kernel), List.mem_of_getElem? (i := 839) (by decide +kernel)⟩
theorem lw_p49 : lw_okq (⟨"IndependenceDeskModel", "readsPlaces", "()V"⟩, 26) := ⟨⟨by decide +kernel, by decide +kernel⟩, List.mem_of_getElem? (i := 643) (by decide +kernel), List.mem_of_getElem? (i := 845) (by decide +kernel), List.mem_of_getElem? (i := 846) (by decide +kernel)⟩
theorem lw_p50 : lw_okq (⟨"IndependenceDeskModel", "made", "(IIII)I"⟩, 26) := ⟨⟨by decide +kernel, by decide +kernel⟩, List.mem_of_getElem? (i := 643) (by decide +kernel), List.mem_of_getElem? (i := 850) (by decide +kernel), List.mem_of_getElem? (i := 851) (by decide +kernel)⟩
theorem lw_p51 : lw_okq (⟨"IndependenceDeskModel", "rankOf", "(II)I"⟩, 26) := ⟨⟨by decide +kernel, by decide +kernel⟩, List.mem_of_getElem? (i := 643) (by decide +kernel), List.mem_of_getElem? (i := 854) (by decide +kernel), List.mem_of_getElem? (i := 855) (by decide +kernel)⟩
theorem lw_p52 : lw_okq (⟨"IndependenceDeskModel", "refused", "(II)I"⟩, 26) := ⟨⟨by decide +kernel, by decide +kernel⟩, List.mem_of_getElem? (i := 643) (by decide +kernel), List.mem_of_getElem? (i := 862) (by decide +kernel), List.mem_of_getElem? (i := 863) (by decide +kernel)⟩
theorem lw_p53 : lw_okq (⟨"IndependenceDeskModel", "isRule", "(I)Z"⟩, 26) := ⟨⟨by decide +kernel, by decide +kernel⟩, List.mem_of_getElem? (i := 643) (by decide +kernel), List.mem_of_getElem? (i := 866) (by decide +kernel), List.mem_of_getElem? (i := 867) (by decide +kernel)⟩
theorem lw_p54 : lw_okq (⟨"IndependenceDeskModel", "isSet", "(I)Z"⟩, 26) := ⟨⟨by decide +kernel, by decide +kernel⟩, List.mem_of_getElem? (i := 643) (by decide +kernel), List.mem_of_getElem? (i := 870) (by decide +kernel), List.mem_of_getElem? (i := 871) (by decide +kernel)⟩
theorem lw_p55 : lw_okq (⟨"IndependenceDeskModel", "table", "(IZ)V"⟩, 26) := ⟨⟨by decide +kernel, by decide +kernel⟩, List.mem_of_getElem? (i := 643) (by decide +kernel), List.mem_of_getElem? (i := 874) (by decide +kernel), List.mem_of_getElem? (i := 875) (by decide +kernel)⟩
theorem lw_p56 : lw_okq (⟨"IndependenceDeskModel", "isFull", "(II)Z"⟩, 26) := ⟨⟨by decide +kernel, by decide +kernel⟩, List.mem_of_getElem? (i := 643) (by decide +kernel), List.mem_of_getElem? (i := 922) (by decide +kernel), List.mem_of_getElem? (i := 923) (by decide +kernel)⟩
theorem lw_p57 : lw_okq (⟨"IndependenceDeskModel", "isBetter", "(IIZ)Z"⟩, 26) := ⟨⟨by decide +kernel, by decide +kernel⟩, List.mem_of_getElem? (i := 643) (by decide +kernel), List.mem_of_getElem? (i := 926) (by decide +kernel), List.mem_of_getElem? (i := 927) (by decide +kernel)⟩
theorem lw_p58 : lw_okq (⟨"IndependenceDeskModel", "weightOf", "(I)I"⟩, 26) := ⟨⟨by decide +kernel, by decide +kernel⟩, List.mem_of_getElem? (i := 643) (by decide +kernel), List.mem_of_getElem? (i := 930) (by decide +kernel), List.mem_of_getElem? (i := 931) (by decide +kernel)⟩
theorem lw_p59 : lw_okq (⟨"IndependenceDeskModel", "undealt", "(I)I"⟩, 26) := ⟨⟨by decide +kernel, by decide +kernel⟩, List.mem_of_getElem? (i := 643) (by decide +kernel), List.mem_of_getElem? (i := 955) (by decide +kernel), List.mem_of_getElem? (i := 956) (by decide +kernel)⟩
theorem lw_p60 : lw_okq (⟨"IndependenceDeskModel", "fewestOf", "(I)I"⟩, 26) := ⟨⟨by decide +kernel, by decide +kernel⟩, List.mem_of_getElem? (i := 643) (by decide +kernel), List.mem_of_getElem? (i := 959) (by decide +kernel), List.mem_of_getElem? (i := 960) (by decide +kernel)⟩
theorem lw_p61 : lw_okq (⟨"IndependenceDeskModel", "deals", "(III)Z"⟩, 26) := ⟨⟨by decide +kernel, by decide +kernel⟩, List.mem_of_getElem? (i := 643) (by decide +kernel), List.mem_of_getElem? (i := 968) (by decide +kernel), List.mem_of_getElem? (i := 969) (by decide +kernel)⟩
def lw_privs_4 : List (MethodName × Nat) := [(⟨"IndependenceDeskModel", "lead", "(II)I"⟩, 26), (⟨"IndependenceDeskModel", "readsPlaces", "()V"⟩, 26), (⟨"IndependenceDeskModel", "made", "(IIII)I"⟩, 26), (⟨"IndependenceDeskModel", "rankOf", "(II)I"⟩, 26), (⟨"IndependenceDeskModel", "refused", "(II)I"⟩, 26), (⟨"IndependenceDeskModel", "isRule", "(I)Z"⟩, 26), (⟨"IndependenceDeskModel", "isSet", "(I)Z"⟩, 26), (⟨"IndependenceDeskModel", "table", "(IZ)V"⟩, 26), (⟨"IndependenceDeskModel", "isFull", "(II)Z"⟩, 26), (⟨"IndependenceDeskModel", "isBetter", "(IIZ)Z"⟩, 26), (⟨"IndependenceDeskModel", "weightOf", "(I)I"⟩, 26), (⟨"IndependenceDeskModel", "undealt", "(I)I"⟩, 26), (⟨"IndependenceDeskModel", "fewestOf", "(I)I"⟩, 26), (⟨"IndependenceDeskModel", "deals", "(III)Z"⟩, 26)]
theorem lw_r4 : ∀ q ∈ lw_privs_4, lw_okq q := List.forall_mem_cons.mpr ⟨lw_p48, List.forall_mem_cons.mpr ⟨lw_p49, List.forall_mem_cons.mpr ⟨lw_p50, List.forall_mem_cons.mpr ⟨lw_p51, List.forall_mem_cons.mpr ⟨lw_p52, List.forall_mem_cons.mpr ⟨lw_p53, List.forall_mem_cons.mpr ⟨lw_p54, List.forall_mem_cons.mpr ⟨lw_p55, List.forall_mem_cons.mpr ⟨lw_p56, List.forall_mem_cons.mpr ⟨lw_p57, List.forall_mem_cons.mpr ⟨lw_p58, List.forall_mem_cons.mpr ⟨lw_p59, List.forall_mem_cons.mpr ⟨lw_p60, List.forall_mem_cons.mpr ⟨lw_p61, fun _ h => absurd h List.not_mem_nil⟩⟩⟩⟩⟩⟩⟩⟩⟩⟩⟩⟩⟩⟩
def lw_privs : List (MethodName × Nat) := lw_privs_1 ++ (lw_privs_2 ++ (lw_privs_3 ++ (lw_privs_4)))
def lw_tbl : List Cond := k2_sels lw_privs ++ tables_1
theorem lw_privs_ok : ∀ q ∈ lw_privs, lw_okq q := by
  show ∀ q ∈ lw_privs_1 ++ (lw_privs_2 ++ (lw_privs_3 ++ (lw_privs_4))), lw_okq q
  exact List.forall_mem_append.mpr ⟨lw_r1, List.forall_mem_append.mpr ⟨lw_r2, List.forall_mem_append.mpr ⟨lw_r3, lw_r4⟩⟩⟩
def RX0 : String := "IndependenceDesk$Bounds"
def TX0 : u_T := fun k => match k with
  | 0 => ("IndependenceDesk$Bounds", "sets", "[I", true)
  | 1 => ("IndependenceDesk$Bounds", "limits", "[I", true)
  | _ => ("IndependenceDesk$Bounds", "size", "I", false)
def tyX0 : Nat → FieldType := fun k => match k with
  | 0 => .array .int
  | 1 => .array .int
  | _ => .int
abbrev wsX00 : List Cond := u_ws RX0 TX0 3
theorem nmX0 : ∀ a, a < 3 → ∀ b, b < 3 → a ≠ b → (TX0 a).2.1 ≠ (TX0 b).2.1 := by decide +kernel
theorem tyX0_ok : ∀ k, k < 3 → parseFieldDescriptor (TX0 k).2.2.1 = some (tyX0 k) := by decide +kernel
abbrev cX0_init : ByteArray := prog_2_method_1_code
def yX0_init : MethodName := ⟨RX0, "<init>", "()V"⟩
abbrev cX0_readEven : ByteArray := prog_2_method_2_code
def yX0_readEven : MethodName := ⟨RX0, "readEven", "(LIndependenceDesk$Reading;I)V"⟩
abbrev cX0_readParts : ByteArray := prog_2_method_3_code
def yX0_readParts : MethodName := ⟨RX0, "readParts", "(LIndependenceDesk$Reading;I)V"⟩
abbrev cX0_readNested : ByteArray := prog_2_method_4_code
def yX0_readNested : MethodName := ⟨RX0, "readNested", "(LIndependenceDesk$Reading;I)V"⟩
abbrev cX0_lieNested : ByteArray := prog_2_method_5_code
def yX0_lieNested : MethodName := ⟨RX0, "lieNested", "()Z"⟩
abbrev cX0_fits : ByteArray := prog_2_method_6_code
def yX0_fits : MethodName := ⟨RX0, "fits", "(I)Z"⟩
def RX1 : String := "IndependenceDesk$Check"
def TX1 : u_T := fun k => match k with
  | _ => ("", "", "", false)
def tyX1 : Nat → FieldType := fun k => match k with
  | _ => .int
abbrev wsX10 : List Cond := u_ws RX1 TX1 0
theorem nmX1 : ∀ a, a < 0 → ∀ b, b < 0 → a ≠ b → (TX1 a).2.1 ≠ (TX1 b).2.1 := by decide +kernel
theorem tyX1_ok : ∀ k, k < 0 → parseFieldDescriptor (TX1 k).2.2.1 = some (tyX1 k) := by decide +kernel
def RX2 : String := "IndependenceDesk$Derived"
def TX2 : u_T := fun k => match k with
  | 0 => ("IndependenceDesk$Derived", "kind", "I", true)
  | 1 => ("IndependenceDesk$Derived", "first", "LIndependenceDesk$Rule;", true)
  | 2 => ("IndependenceDesk$Derived", "second", "LIndependenceDesk$Rule;", true)
  | 3 => ("IndependenceDesk$Derived", "t", "I", true)
  | _ => ("IndependenceDesk$Derived", "all", "I", true)
def tyX2 : Nat → FieldType := fun k => match k with
  | 0 => .int
  | 1 => .object "IndependenceDesk$Rule"
  | 2 => .object "IndependenceDesk$Rule"
  | 3 => .int
  | _ => .int
abbrev wsX20 : List Cond := u_ws RX2 TX2 5
theorem nmX2 : ∀ a, a < 5 → ∀ b, b < 5 → a ≠ b → (TX2 a).2.1 ≠ (TX2 b).2.1 := by decide +kernel
theorem tyX2_ok : ∀ k, k < 5 → parseFieldDescriptor (TX2 k).2.2.1 = some (tyX2 k) := by decide +kernel
abbrev cX2_init : ByteArray := prog_4_method_1_code
def yX2_init : MethodName := ⟨RX2, "<init>", "(ILIndependenceDesk$Rule;LIndependenceDesk$Rule;II)V"⟩
abbrev cX2_fits : ByteArray := prog_4_method_2_code
def yX2_fits : MethodName := ⟨RX2, "fits", "(I)Z"⟩
def RX3 : String := "IndependenceDesk$Reaches"
def TX3 : u_T := fun k => match k with
  | 0 => ("IndependenceDesk$Reaches", "reached", "[I", true)
  | _ => ("IndependenceDesk$Reaches", "spare", "I", false)
def tyX3 : Nat → FieldType := fun k => match k with
  | 0 => .array .int
  | _ => .int
abbrev wsX30 : List Cond := u_ws RX3 TX3 2
theorem nmX3 : ∀ a, a < 2 → ∀ b, b < 2 → a ≠ b → (TX3 a).2.1 ≠ (TX3 b).2.1 := by decide +kernel
theorem tyX3_ok : ∀ k, k < 2 → parseFieldDescriptor (TX3 k).2.2.1 = some (tyX3 k) := by decide +kernel
abbrev cX3_init : ByteArray := prog_5_method_1_code
def yX3_init : MethodName := ⟨RX3, "<init>", "()V"⟩
abbrev cX3_readEdges : ByteArray := prog_5_method_2_code
def yX3_readEdges : MethodName := ⟨RX3, "readEdges", "(LIndependenceDesk$Reading;I)V"⟩
abbrev cX3_readPlaces : ByteArray := prog_5_method_3_code
def yX3_readPlaces : MethodName := ⟨RX3, "readPlaces", "(LIndependenceDesk$Reading;I)V"⟩
abbrev cX3_fits : ByteArray := prog_5_method_4_code
def yX3_fits : MethodName := ⟨RX3, "fits", "(I)Z"⟩
def RX4 : String := "IndependenceDesk$Reading"
def TX4 : u_T := fun k => match k with
  | 0 => ("IndependenceDesk$Reading", "source", "LIndependenceDesk$Slot;", false)
  | 1 => ("IndependenceDesk$Reading", "at", "I", false)
  | _ => ("IndependenceDesk$Reading", "refusal", "I", false)
def tyX4 : Nat → FieldType := fun k => match k with
  | 0 => .object "IndependenceDesk$Slot"
  | 1 => .int
  | _ => .int
abbrev wsX40 : List Cond := u_ws RX4 TX4 3
theorem nmX4 : ∀ a, a < 3 → ∀ b, b < 3 → a ≠ b → (TX4 a).2.1 ≠ (TX4 b).2.1 := by decide +kernel
theorem tyX4_ok : ∀ k, k < 3 → parseFieldDescriptor (TX4 k).2.2.1 = some (tyX4 k) := by decide +kernel
abbrev cX4_init : ByteArray := prog_6_method_1_code
def yX4_init : MethodName := ⟨RX4, "<init>", "()V"⟩
abbrev cX4_start : ByteArray := prog_6_method_2_code
def yX4_start : MethodName := ⟨RX4, "start", "(LIndependenceDesk$Slot;)V"⟩
abbrev cX4_next : ByteArray := prog_6_method_3_code
def yX4_next : MethodName := ⟨RX4, "next", "(II)I"⟩
abbrev cX4_refuseLast : ByteArray := prog_6_method_4_code
def yX4_refuseLast : MethodName := ⟨RX4, "refuseLast", "()V"⟩
def RX5 : String := "IndependenceDesk$Rule"
def TX5 : u_T := fun k => match k with
  | 0 => ("IndependenceDesk$Rule", "kind", "I", false)
  | 1 => ("IndependenceDesk$Rule", "first", "I", false)
  | 2 => ("IndependenceDesk$Rule", "second", "I", false)
  | 3 => ("IndependenceDesk$Rule", "depth", "I", false)
  | _ => ("IndependenceDesk$Rule", "ranks", "[B", false)
def tyX5 : Nat → FieldType := fun k => match k with
  | 0 => .int
  | 1 => .int
  | 2 => .int
  | 3 => .int
  | _ => .array .byte
abbrev wsX50 : List Cond := u_ws RX5 TX5 5
theorem nmX5 : ∀ a, a < 5 → ∀ b, b < 5 → a ≠ b → (TX5 a).2.1 ≠ (TX5 b).2.1 := by decide +kernel
theorem tyX5_ok : ∀ k, k < 5 → parseFieldDescriptor (TX5 k).2.2.1 = some (tyX5 k) := by decide +kernel
abbrev cX5_init : ByteArray := prog_7_method_1_code
def yX5_init : MethodName := ⟨RX5, "<init>", "()V"⟩
abbrev cX5_fill : ByteArray := prog_7_method_2_code
def yX5_fill : MethodName := ⟨RX5, "fill", "(ILIndependenceDesk$Check;)V"⟩
abbrev cX5_rankByParts : ByteArray := prog_7_method_3_code
def yX5_rankByParts : MethodName := ⟨RX5, "rankByParts", "(ILIndependenceDesk$Check;)I"⟩
abbrev cX5_rankOf : ByteArray := prog_7_method_4_code
def yX5_rankOf : MethodName := ⟨RX5, "rankOf", "(I)I"⟩
abbrev cX5_permits : ByteArray := prog_7_method_5_code
def yX5_permits : MethodName := ⟨RX5, "permits", "(I)Z"⟩
abbrev cX5_permitsEachAlone : ByteArray := prog_7_method_6_code
def yX5_permitsEachAlone : MethodName := ⟨RX5, "permitsEachAlone", "(I)Z"⟩
abbrev cX5_allowedSets : ByteArray := prog_7_method_7_code
def yX5_allowedSets : MethodName := ⟨RX5, "allowedSets", "(I)I"⟩
def RX6 : String := "IndependenceDesk$Slot"
def TX6 : u_T := fun k => match k with
  | 0 => ("IndependenceDesk$Slot", "numbers", "[J", true)
  | 1 => ("IndependenceDesk$Slot", "width", "I", false)
  | _ => ("IndependenceDesk$Slot", "size", "I", false)
def tyX6 : Nat → FieldType := fun k => match k with
  | 0 => .array .long
  | 1 => .int
  | _ => .int
abbrev wsX60 : List Cond := u_ws RX6 TX6 3
theorem nmX6 : ∀ a, a < 3 → ∀ b, b < 3 → a ≠ b → (TX6 a).2.1 ≠ (TX6 b).2.1 := by decide +kernel
theorem tyX6_ok : ∀ k, k < 3 → parseFieldDescriptor (TX6 k).2.2.1 = some (tyX6 k) := by decide +kernel
abbrev cX6_init : ByteArray := prog_8_method_1_code
def yX6_init : MethodName := ⟨RX6, "<init>", "()V"⟩
abbrev cX6_hasRow : ByteArray := prog_8_method_2_code
def yX6_hasRow : MethodName := ⟨RX6, "hasRow", "()Z"⟩
abbrev cX6_lay : ByteArray := prog_8_method_3_code
def yX6_lay : MethodName := ⟨RX6, "lay", "(II)V"⟩
abbrev cX6_clear : ByteArray := prog_8_method_4_code
def yX6_clear : MethodName := ⟨RX6, "clear", "()V"⟩
abbrev cX6_hasStretch : ByteArray := prog_8_method_5_code
def yX6_hasStretch : MethodName := ⟨RX6, "hasStretch", "(II)Z"⟩
abbrev cX6_number : ByteArray := prog_8_method_6_code
def yX6_number : MethodName := ⟨RX6, "number", "(I)J"⟩
abbrev cX6_put : ByteArray := prog_8_method_7_code
def yX6_put : MethodName := ⟨RX6, "put", "(IJ)V"⟩
abbrev cX6_cut : ByteArray := prog_8_method_8_code
def yX6_cut : MethodName := ⟨RX6, "cut", "(J)J"⟩
def RX7 : String := "IndependenceDesk$Told"
def TX7 : u_T := fun k => match k with
  | 0 => ("IndependenceDesk$Told", "marks", "[J", true)
  | 1 => ("IndependenceDesk$Told", "sets", "[I", true)
  | 2 => ("IndependenceDesk$Told", "size", "I", false)
  | 3 => ("IndependenceDesk$Told", "brokenPart", "I", false)
  | 4 => ("IndependenceDesk$Told", "brokenFirst", "I", false)
  | _ => ("IndependenceDesk$Told", "brokenSecond", "I", false)
def tyX7 : Nat → FieldType := fun k => match k with
  | 0 => .array .long
  | 1 => .array .int
  | 2 => .int
  | 3 => .int
  | 4 => .int
  | _ => .int
abbrev wsX70 : List Cond := u_ws RX7 TX7 6
theorem nmX7 : ∀ a, a < 6 → ∀ b, b < 6 → a ≠ b → (TX7 a).2.1 ≠ (TX7 b).2.1 := by decide +kernel
theorem tyX7_ok : ∀ k, k < 6 → parseFieldDescriptor (TX7 k).2.2.1 = some (tyX7 k) := by decide +kernel
abbrev cX7_init : ByteArray := prog_9_method_1_code
def yX7_init : MethodName := ⟨RX7, "<init>", "()V"⟩
abbrev cX7_forgetBreach : ByteArray := prog_9_method_2_code
def yX7_forgetBreach : MethodName := ⟨RX7, "forgetBreach", "()V"⟩
abbrev cX7_readSets : ByteArray := prog_9_method_3_code
def yX7_readSets : MethodName := ⟨RX7, "readSets", "(LIndependenceDesk$Reading;I)V"⟩
abbrev cX7_fits : ByteArray := prog_9_method_4_code
def yX7_fits : MethodName := ⟨RX7, "fits", "(I)Z"⟩
abbrev cX7_breaksLaw : ByteArray := prog_9_method_5_code
def yX7_breaksLaw : MethodName := ⟨RX7, "breaksLaw", "(I)Z"⟩
abbrev cX7_noteBreach : ByteArray := prog_9_method_6_code
def yX7_noteBreach : MethodName := ⟨RX7, "noteBreach", "(III)V"⟩
abbrev cX7_listSets : ByteArray := prog_9_method_7_code
def yX7_listSets : MethodName := ⟨RX7, "listSets", "(I)V"⟩
abbrev cX7_lacksPart : ByteArray := prog_9_method_8_code
def yX7_lacksPart : MethodName := ⟨RX7, "lacksPart", "()Z"⟩
abbrev cX7_leastPartNotTold : ByteArray := prog_9_method_9_code
def yX7_leastPartNotTold : MethodName := ⟨RX7, "leastPartNotTold", "(I)I"⟩
abbrev cX7_lacksExchange : ByteArray := prog_9_method_10_code
def yX7_lacksExchange : MethodName := ⟨RX7, "lacksExchange", "()Z"⟩
abbrev cX7_leastWithNoneToCome : ByteArray := prog_9_method_11_code
def yX7_leastWithNoneToCome : MethodName := ⟨RX7, "leastWithNoneToCome", "(I)I"⟩
abbrev cX7_thingsThatMayCome : ByteArray := prog_9_method_12_code
def yX7_thingsThatMayCome : MethodName := ⟨RX7, "thingsThatMayCome", "(I)I"⟩
def RX8 : String := "IndependenceDesk$Vectors"
def TX8 : u_T := fun k => match k with
  | 0 => ("IndependenceDesk$Vectors", "rows", "[[I", true)
  | 1 => ("IndependenceDesk$Vectors", "reduced", "[[I", true)
  | 2 => ("IndependenceDesk$Vectors", "leads", "[I", true)
  | 3 => ("IndependenceDesk$Vectors", "prime", "I", false)
  | _ => ("IndependenceDesk$Vectors", "columns", "I", false)
def tyX8 : Nat → FieldType := fun k => match k with
  | 0 => .array (.array .int)
  | 1 => .array (.array .int)
  | 2 => .array .int
  | 3 => .int
  | _ => .int
abbrev wsX80 : List Cond := u_ws RX8 TX8 5
theorem nmX8 : ∀ a, a < 5 → ∀ b, b < 5 → a ≠ b → (TX8 a).2.1 ≠ (TX8 b).2.1 := by decide +kernel
theorem tyX8_ok : ∀ k, k < 5 → parseFieldDescriptor (TX8 k).2.2.1 = some (tyX8 k) := by decide +kernel
abbrev cX8_init : ByteArray := prog_10_method_1_code
def yX8_init : MethodName := ⟨RX8, "<init>", "()V"⟩
abbrev cX8_readRows : ByteArray := prog_10_method_2_code
def yX8_readRows : MethodName := ⟨RX8, "readRows", "(LIndependenceDesk$Reading;I)V"⟩
abbrev cX8_fits : ByteArray := prog_10_method_3_code
def yX8_fits : MethodName := ⟨RX8, "fits", "(I)Z"⟩
abbrev cX8_clearLead : ByteArray := prog_10_method_4_code
def yX8_clearLead : MethodName := ⟨RX8, "clearLead", "([I[II)V"⟩
abbrev cX8_modulo : ByteArray := prog_10_method_5_code
def yX8_modulo : MethodName := ⟨RX8, "modulo", "(I)I"⟩
abbrev cX8_firstNotZero : ByteArray := prog_10_method_6_code
def yX8_firstNotZero : MethodName := ⟨RX8, "firstNotZero", "([I)I"⟩
def RX9 : String := "IndependenceDesk"
def TX9 : u_T := fun k => match k with
  | 0 => ("IndependenceDesk", "slots", "[LIndependenceDesk$Slot;", true)
  | 1 => ("IndependenceDesk", "rules", "[LIndependenceDesk$Rule;", true)
  | 2 => ("IndependenceDesk", "weights", "[I", true)
  | 3 => ("IndependenceDesk", "heaps", "[I", true)
  | 4 => ("IndependenceDesk", "reading", "LIndependenceDesk$Reading;", true)
  | 5 => ("IndependenceDesk", "told", "LIndependenceDesk$Told;", true)
  | 6 => ("IndependenceDesk", "bounds", "LIndependenceDesk$Bounds;", true)
  | 7 => ("IndependenceDesk", "reaches", "LIndependenceDesk$Reaches;", true)
  | 8 => ("IndependenceDesk", "vectors", "LIndependenceDesk$Vectors;", true)
  | 9 => ("IndependenceDesk", "things", "I", false)
  | 10 => ("IndependenceDesk", "all", "I", false)
  | _ => ("IndependenceDesk", "made", "I", false)
def tyX9 : Nat → FieldType := fun k => match k with
  | 0 => .array (.object "IndependenceDesk$Slot")
  | 1 => .array (.object "IndependenceDesk$Rule")
  | 2 => .array .int
  | 3 => .array .int
  | 4 => .object "IndependenceDesk$Reading"
  | 5 => .object "IndependenceDesk$Told"
  | 6 => .object "IndependenceDesk$Bounds"
  | 7 => .object "IndependenceDesk$Reaches"
  | 8 => .object "IndependenceDesk$Vectors"
  | 9 => .int
  | 10 => .int
  | _ => .int
abbrev wsX90 : List Cond := u_ws RX9 TX9 12
theorem nmX9 : ∀ a, a < 12 → ∀ b, b < 12 → a ≠ b → (TX9 a).2.1 ≠ (TX9 b).2.1 := by decide +kernel
theorem tyX9_ok : ∀ k, k < 12 → parseFieldDescriptor (TX9 k).2.2.1 = some (tyX9 k) := by decide +kernel
abbrev cX9_init : ByteArray := prog_1_method_1_code
def yX9_init : MethodName := ⟨RX9, "<init>", "()V"⟩
abbrev cX9_fresh : ByteArray := prog_1_method_2_code
def yX9_fresh : MethodName := ⟨RX9, "fresh", "(I)Z"⟩
abbrev cX9_weight : ByteArray := prog_1_method_3_code
def yX9_weight : MethodName := ⟨RX9, "weight", "(II)I"⟩
abbrev cX9_row : ByteArray := prog_1_method_4_code
def yX9_row : MethodName := ⟨RX9, "row", "(III)I"⟩
abbrev cX9_tear : ByteArray := prog_1_method_5_code
def yX9_tear : MethodName := ⟨RX9, "tear", "(I)Z"⟩
abbrev cX9_write : ByteArray := prog_1_method_6_code
def yX9_write : MethodName := ⟨RX9, "write", "(IIJ)I"⟩
abbrev cX9_read : ByteArray := prog_1_method_7_code
def yX9_read : MethodName := ⟨RX9, "read", "(II)J"⟩
abbrev cX9_copy : ByteArray := prog_1_method_8_code
def yX9_copy : MethodName := ⟨RX9, "copy", "(IIIII)I"⟩
abbrev cX9_rule : ByteArray := prog_1_method_9_code
def yX9_rule : MethodName := ⟨RX9, "rule", "(II)I"⟩
abbrev cX9_less : ByteArray := prog_1_method_10_code
def yX9_less : MethodName := ⟨RX9, "less", "(II)I"⟩
abbrev cX9_take : ByteArray := prog_1_method_11_code
def yX9_take : MethodName := ⟨RX9, "take", "(II)I"⟩
abbrev cX9_turn : ByteArray := prog_1_method_12_code
def yX9_turn : MethodName := ⟨RX9, "turn", "(I)I"⟩
abbrev cX9_join : ByteArray := prog_1_method_13_code
def yX9_join : MethodName := ⟨RX9, "join", "(II)I"⟩
abbrev cX9_broken : ByteArray := prog_1_method_14_code
def yX9_broken : MethodName := ⟨RX9, "broken", "(I)I"⟩
abbrev cX9_look : ByteArray := prog_1_method_15_code
def yX9_look : MethodName := ⟨RX9, "look", "(II)I"⟩
abbrev cX9_allows : ByteArray := prog_1_method_16_code
def yX9_allows : MethodName := ⟨RX9, "allows", "(II)I"⟩
abbrev cX9_rank : ByteArray := prog_1_method_17_code
def yX9_rank : MethodName := ⟨RX9, "rank", "(II)I"⟩
abbrev cX9_span : ByteArray := prog_1_method_18_code
def yX9_span : MethodName := ⟨RX9, "span", "(II)I"⟩
abbrev cX9_ring : ByteArray := prog_1_method_19_code
def yX9_ring : MethodName := ⟨RX9, "ring", "(II)I"⟩
abbrev cX9_exchange : ByteArray := prog_1_method_20_code
def yX9_exchange : MethodName := ⟨RX9, "exchange", "(III)I"⟩
abbrev cX9_full : ByteArray := prog_1_method_21_code
def yX9_full : MethodName := ⟨RX9, "full", "(IZ)I"⟩
abbrev cX9_both : ByteArray := prog_1_method_22_code
def yX9_both : MethodName := ⟨RX9, "both", "(II)I"⟩
abbrev cX9_split : ByteArray := prog_1_method_23_code
def yX9_split : MethodName := ⟨RX9, "split", "(II)I"⟩
abbrev cX9_most : ByteArray := prog_1_method_24_code
def yX9_most : MethodName := ⟨RX9, "most", "(III)I"⟩
abbrev cX9_three : ByteArray := prog_1_method_25_code
def yX9_three : MethodName := ⟨RX9, "three", "(III)I"⟩
abbrev cX9_fewest : ByteArray := prog_1_method_26_code
def yX9_fewest : MethodName := ⟨RX9, "fewest", "(I)I"⟩
abbrev cX9_dealt : ByteArray := prog_1_method_27_code
def yX9_dealt : MethodName := ⟨RX9, "dealt", "(II)I"⟩
abbrev cX9_crowd : ByteArray := prog_1_method_28_code
def yX9_crowd : MethodName := ⟨RX9, "crowd", "(I)I"⟩
abbrev cX9_pack : ByteArray := prog_1_method_29_code
def yX9_pack : MethodName := ⟨RX9, "pack", "(I)I"⟩
abbrev cX9_same : ByteArray := prog_1_method_30_code
def yX9_same : MethodName := ⟨RX9, "same", "(II)I"⟩
abbrev cX9_count : ByteArray := prog_1_method_31_code
def yX9_count : MethodName := ⟨RX9, "count", "(I)I"⟩
abbrev cX9_startAnew : ByteArray := prog_1_method_32_code
def yX9_startAnew : MethodName := ⟨RX9, "startAnew", "(I)V"⟩
abbrev cX9_isThing : ByteArray := prog_1_method_33_code
def yX9_isThing : MethodName := ⟨RX9, "isThing", "(I)Z"⟩
abbrev cX9_isSet : ByteArray := prog_1_method_34_code
def yX9_isSet : MethodName := ⟨RX9, "isSet", "(I)Z"⟩
abbrev cX9_slotAt : ByteArray := prog_1_method_35_code
def yX9_slotAt : MethodName := ⟨RX9, "slotAt", "(I)LIndependenceDesk$Slot;"⟩
abbrev cX9_ruleAt : ByteArray := prog_1_method_36_code
def yX9_ruleAt : MethodName := ⟨RX9, "ruleAt", "(I)LIndependenceDesk$Rule;"⟩
abbrev cX9_slotsWithRow : ByteArray := prog_1_method_37_code
def yX9_slotsWithRow : MethodName := ⟨RX9, "slotsWithRow", "()I"⟩
abbrev cX9_numberRefusal : ByteArray := prog_1_method_38_code
def yX9_numberRefusal : MethodName := ⟨RX9, "numberRefusal", "(II)I"⟩
abbrev cX9_weightOf : ByteArray := prog_1_method_39_code
def yX9_weightOf : MethodName := ⟨RX9, "weightOf", "(I)I"⟩
abbrev cX9_checkFromNumbers : ByteArray := prog_1_method_40_code
def yX9_checkFromNumbers : MethodName := ⟨RX9, "checkFromNumbers", "(I)LIndependenceDesk$Check;"⟩
abbrev cX9_addDerived : ByteArray := prog_1_method_41_code
def yX9_addDerived : MethodName := ⟨RX9, "addDerived", "(IIII)I"⟩
abbrev cX9_addRule : ByteArray := prog_1_method_42_code
def yX9_addRule : MethodName := ⟨RX9, "addRule", "(IIIILIndependenceDesk$Check;)I"⟩
abbrev cX9_thingsThatMayGo : ByteArray := prog_1_method_43_code
def yX9_thingsThatMayGo : MethodName := ⟨RX9, "thingsThatMayGo", "(LIndependenceDesk$Rule;II)I"⟩
abbrev cX9_nextByWeight : ByteArray := prog_1_method_44_code
def yX9_nextByWeight : MethodName := ⟨RX9, "nextByWeight", "(IZ)I"⟩
abbrev cX9_goesAhead : ByteArray := prog_1_method_45_code
def yX9_goesAhead : MethodName := ⟨RX9, "goesAhead", "(IIZ)Z"⟩
abbrev cX9_mostCommon : ByteArray := prog_1_method_46_code
def yX9_mostCommon : MethodName := ⟨RX9, "mostCommon", "(LIndependenceDesk$Rule;LIndependenceDesk$Rule;LIndependenceDesk$Rule;)I"⟩
abbrev cX9_heapsNeeded : ByteArray := prog_1_method_47_code
def yX9_heapsNeeded : MethodName := ⟨RX9, "heapsNeeded", "(LIndependenceDesk$Rule;I)I"⟩
abbrev cX9_mostCrowded : ByteArray := prog_1_method_48_code
def yX9_mostCrowded : MethodName := ⟨RX9, "mostCrowded", "(LIndependenceDesk$Rule;)I"⟩
abbrev cX9_numberInDeal : ByteArray := prog_1_method_49_code
def yX9_numberInDeal : MethodName := ⟨RX9, "numberInDeal", "(LIndependenceDesk$Rule;I)I"⟩
abbrev cX9_heapThatMayTake : ByteArray := prog_1_method_50_code
def yX9_heapThatMayTake : MethodName := ⟨RX9, "heapThatMayTake", "(LIndependenceDesk$Rule;III)I"⟩
abbrev cX9_restCanBeDealt : ByteArray := prog_1_method_51_code
def yX9_restCanBeDealt : MethodName := ⟨RX9, "restCanBeDealt", "(LIndependenceDesk$Rule;III)Z"⟩
abbrev cX9_roomFor : ByteArray := prog_1_method_52_code
def yX9_roomFor : MethodName := ⟨RX9, "roomFor", "(LIndependenceDesk$Rule;III)I"⟩
def RX10 : String := "IndependenceDeskModel"
def TX10 : u_T := fun k => match k with
  | 0 => ("IndependenceDeskModel", "n", "I", false)
  | 1 => ("IndependenceDeskModel", "all", "I", false)
  | 2 => ("IndependenceDeskModel", "weights", "[I", true)
  | 3 => ("IndependenceDeskModel", "rules", "I", false)
  | 4 => ("IndependenceDeskModel", "allowed", "[Z", true)
  | 5 => ("IndependenceDeskModel", "ranks", "[B", true)
  | 6 => ("IndependenceDeskModel", "kinds", "[I", true)
  | 7 => ("IndependenceDeskModel", "firstOf", "[I", true)
  | 8 => ("IndependenceDeskModel", "secondOf", "[I", true)
  | 9 => ("IndependenceDeskModel", "deep", "[I", true)
  | 10 => ("IndependenceDeskModel", "broken", "[I", true)
  | 11 => ("IndependenceDeskModel", "ends", "[I", true)
  | 12 => ("IndependenceDeskModel", "widths", "[I", true)
  | 13 => ("IndependenceDeskModel", "numbers", "[J", true)
  | 14 => ("IndependenceDeskModel", "taken", "[J", true)
  | 15 => ("IndependenceDeskModel", "slot", "I", false)
  | 16 => ("IndependenceDeskModel", "read", "I", false)
  | 17 => ("IndependenceDeskModel", "status", "I", false)
  | 18 => ("IndependenceDeskModel", "told", "[I", true)
  | 19 => ("IndependenceDeskModel", "bounds", "[I", true)
  | 20 => ("IndependenceDeskModel", "group", "[I", true)
  | 21 => ("IndependenceDeskModel", "cells", "[I", true)
  | 22 => ("IndependenceDeskModel", "work", "[I", true)
  | 23 => ("IndependenceDeskModel", "few", "[B", true)
  | 24 => ("IndependenceDeskModel", "deal", "[I", true)
  | _ => ("IndependenceDeskModel", "heap", "[I", true)
def tyX10 : Nat → FieldType := fun k => match k with
  | 0 => .int
  | 1 => .int
  | 2 => .array .int
  | 3 => .int
  | 4 => .array .boolean
  | 5 => .array .byte
  | 6 => .array .int
  | 7 => .array .int
  | 8 => .array .int
  | 9 => .array .int
  | 10 => .array .int
  | 11 => .array .int
  | 12 => .array .int
  | 13 => .array .long
  | 14 => .array .long
  | 15 => .int
  | 16 => .int
  | 17 => .int
  | 18 => .array .int
  | 19 => .array .int
  | 20 => .array .int
  | 21 => .array .int
  | 22 => .array .int
  | 23 => .array .byte
  | 24 => .array .int
  | _ => .array .int
abbrev wsX100 : List Cond := u_ws RX10 TX10 26
theorem nmX10 : ∀ a, a < 26 → ∀ b, b < 26 → a ≠ b → (TX10 a).2.1 ≠ (TX10 b).2.1 := by decide +kernel
theorem tyX10_ok : ∀ k, k < 26 → parseFieldDescriptor (TX10 k).2.2.1 = some (tyX10 k) := by decide +kernel
abbrev cX10_init : ByteArray := prog_12_method_1_code
def yX10_init : MethodName := ⟨RX10, "<init>", "()V"⟩
abbrev cX10_anew : ByteArray := prog_12_method_2_code
def yX10_anew : MethodName := ⟨RX10, "anew", "(I)V"⟩
abbrev cX10_fresh : ByteArray := prog_12_method_3_code
def yX10_fresh : MethodName := ⟨RX10, "fresh", "(I)Z"⟩
abbrev cX10_isThing : ByteArray := prog_12_method_4_code
def yX10_isThing : MethodName := ⟨RX10, "isThing", "(I)Z"⟩
abbrev cX10_isSet : ByteArray := prog_12_method_5_code
def yX10_isSet : MethodName := ⟨RX10, "isSet", "(I)Z"⟩
abbrev cX10_isRule : ByteArray := prog_12_method_6_code
def yX10_isRule : MethodName := ⟨RX10, "isRule", "(I)Z"⟩
abbrev cX10_weight : ByteArray := prog_12_method_7_code
def yX10_weight : MethodName := ⟨RX10, "weight", "(II)I"⟩
abbrev cX10_isSlot : ByteArray := prog_12_method_8_code
def yX10_isSlot : MethodName := ⟨RX10, "isSlot", "(I)Z"⟩
abbrev cX10_row : ByteArray := prog_12_method_9_code
def yX10_row : MethodName := ⟨RX10, "row", "(III)I"⟩
abbrev cX10_tear : ByteArray := prog_12_method_10_code
def yX10_tear : MethodName := ⟨RX10, "tear", "(I)Z"⟩
abbrev cX10_wrong : ByteArray := prog_12_method_11_code
def yX10_wrong : MethodName := ⟨RX10, "wrong", "(II)I"⟩
abbrev cX10_write : ByteArray := prog_12_method_12_code
def yX10_write : MethodName := ⟨RX10, "write", "(IIJ)I"⟩
abbrev cX10_read : ByteArray := prog_12_method_13_code
def yX10_read : MethodName := ⟨RX10, "read", "(II)J"⟩
abbrev cX10_copy : ByteArray := prog_12_method_14_code
def yX10_copy : MethodName := ⟨RX10, "copy", "(IIIII)I"⟩
abbrev cX10_bitsOf : ByteArray := prog_12_method_15_code
def yX10_bitsOf : MethodName := ⟨RX10, "bitsOf", "(I)I"⟩
abbrev cX10_isAllowed : ByteArray := prog_12_method_16_code
def yX10_isAllowed : MethodName := ⟨RX10, "isAllowed", "(II)Z"⟩
abbrev cX10_rankOf : ByteArray := prog_12_method_17_code
def yX10_rankOf : MethodName := ⟨RX10, "rankOf", "(II)I"⟩
abbrev cX10_made : ByteArray := prog_12_method_18_code
def yX10_made : MethodName := ⟨RX10, "made", "(IIII)I"⟩
abbrev cX10_next : ByteArray := prog_12_method_19_code
def yX10_next : MethodName := ⟨RX10, "next", "(JJ)I"⟩
abbrev cX10_rule : ByteArray := prog_12_method_20_code
def yX10_rule : MethodName := ⟨RX10, "rule", "(II)I"⟩
abbrev cX10_allow : ByteArray := prog_12_method_21_code
def yX10_allow : MethodName := ⟨RX10, "allow", "(I)V"⟩
abbrev cX10_readsTold : ByteArray := prog_12_method_22_code
def yX10_readsTold : MethodName := ⟨RX10, "readsTold", "()V"⟩
abbrev cX10_breaks : ByteArray := prog_12_method_23_code
def yX10_breaks : MethodName := ⟨RX10, "breaks", "(III)Z"⟩
abbrev cX10_breaks_ : ByteArray := prog_12_method_24_code
def yX10_breaks_ : MethodName := ⟨RX10, "breaks", "()Z"⟩
abbrev cX10_readsEven : ByteArray := prog_12_method_25_code
def yX10_readsEven : MethodName := ⟨RX10, "readsEven", "()V"⟩
abbrev cX10_readsParts : ByteArray := prog_12_method_26_code
def yX10_readsParts : MethodName := ⟨RX10, "readsParts", "()V"⟩
abbrev cX10_readsNested : ByteArray := prog_12_method_27_code
def yX10_readsNested : MethodName := ⟨RX10, "readsNested", "()V"⟩
abbrev cX10_readsEdges : ByteArray := prog_12_method_28_code
def yX10_readsEdges : MethodName := ⟨RX10, "readsEdges", "()V"⟩
abbrev cX10_readsRows : ByteArray := prog_12_method_29_code
def yX10_readsRows : MethodName := ⟨RX10, "readsRows", "()V"⟩
abbrev cX10_isFree : ByteArray := prog_12_method_30_code
def yX10_isFree : MethodName := ⟨RX10, "isFree", "(III)Z"⟩
abbrev cX10_lead : ByteArray := prog_12_method_31_code
def yX10_lead : MethodName := ⟨RX10, "lead", "(II)I"⟩
abbrev cX10_readsPlaces : ByteArray := prog_12_method_32_code
def yX10_readsPlaces : MethodName := ⟨RX10, "readsPlaces", "()V"⟩
abbrev cX10_refused : ByteArray := prog_12_method_33_code
def yX10_refused : MethodName := ⟨RX10, "refused", "(II)I"⟩
abbrev cX10_table : ByteArray := prog_12_method_34_code
def yX10_table : MethodName := ⟨RX10, "table", "(IZ)V"⟩
abbrev cX10_less : ByteArray := prog_12_method_35_code
def yX10_less : MethodName := ⟨RX10, "less", "(II)I"⟩
abbrev cX10_take : ByteArray := prog_12_method_36_code
def yX10_take : MethodName := ⟨RX10, "take", "(II)I"⟩
abbrev cX10_turn : ByteArray := prog_12_method_37_code
def yX10_turn : MethodName := ⟨RX10, "turn", "(I)I"⟩
abbrev cX10_join : ByteArray := prog_12_method_38_code
def yX10_join : MethodName := ⟨RX10, "join", "(II)I"⟩
abbrev cX10_broken : ByteArray := prog_12_method_39_code
def yX10_broken : MethodName := ⟨RX10, "broken", "(I)I"⟩
abbrev cX10_look : ByteArray := prog_12_method_40_code
def yX10_look : MethodName := ⟨RX10, "look", "(II)I"⟩
abbrev cX10_allows : ByteArray := prog_12_method_41_code
def yX10_allows : MethodName := ⟨RX10, "allows", "(II)I"⟩
abbrev cX10_rank : ByteArray := prog_12_method_42_code
def yX10_rank : MethodName := ⟨RX10, "rank", "(II)I"⟩
abbrev cX10_span : ByteArray := prog_12_method_43_code
def yX10_span : MethodName := ⟨RX10, "span", "(II)I"⟩
abbrev cX10_ring : ByteArray := prog_12_method_44_code
def yX10_ring : MethodName := ⟨RX10, "ring", "(II)I"⟩
abbrev cX10_exchange : ByteArray := prog_12_method_45_code
def yX10_exchange : MethodName := ⟨RX10, "exchange", "(III)I"⟩
abbrev cX10_weightOf : ByteArray := prog_12_method_46_code
def yX10_weightOf : MethodName := ⟨RX10, "weightOf", "(I)I"⟩
abbrev cX10_isBetter : ByteArray := prog_12_method_47_code
def yX10_isBetter : MethodName := ⟨RX10, "isBetter", "(IIZ)Z"⟩
abbrev cX10_isFull : ByteArray := prog_12_method_48_code
def yX10_isFull : MethodName := ⟨RX10, "isFull", "(II)Z"⟩
abbrev cX10_full : ByteArray := prog_12_method_49_code
def yX10_full : MethodName := ⟨RX10, "full", "(IZ)I"⟩
abbrev cX10_both : ByteArray := prog_12_method_50_code
def yX10_both : MethodName := ⟨RX10, "both", "(II)I"⟩
abbrev cX10_split : ByteArray := prog_12_method_51_code
def yX10_split : MethodName := ⟨RX10, "split", "(II)I"⟩
abbrev cX10_most : ByteArray := prog_12_method_52_code
def yX10_most : MethodName := ⟨RX10, "most", "(III)I"⟩
abbrev cX10_three : ByteArray := prog_12_method_53_code
def yX10_three : MethodName := ⟨RX10, "three", "(III)I"⟩
abbrev cX10_undealt : ByteArray := prog_12_method_54_code
def yX10_undealt : MethodName := ⟨RX10, "undealt", "(I)I"⟩
abbrev cX10_fewestOf : ByteArray := prog_12_method_55_code
def yX10_fewestOf : MethodName := ⟨RX10, "fewestOf", "(I)I"⟩
abbrev cX10_fewest : ByteArray := prog_12_method_56_code
def yX10_fewest : MethodName := ⟨RX10, "fewest", "(I)I"⟩
abbrev cX10_deals : ByteArray := prog_12_method_57_code
def yX10_deals : MethodName := ⟨RX10, "deals", "(III)Z"⟩
abbrev cX10_dealt : ByteArray := prog_12_method_58_code
def yX10_dealt : MethodName := ⟨RX10, "dealt", "(II)I"⟩
abbrev cX10_crowd : ByteArray := prog_12_method_59_code
def yX10_crowd : MethodName := ⟨RX10, "crowd", "(I)I"⟩
abbrev cX10_pack : ByteArray := prog_12_method_60_code
def yX10_pack : MethodName := ⟨RX10, "pack", "(I)I"⟩
abbrev cX10_same : ByteArray := prog_12_method_61_code
def yX10_same : MethodName := ⟨RX10, "same", "(II)I"⟩
abbrev cX10_count : ByteArray := prog_12_method_62_code
def yX10_count : MethodName := ⟨RX10, "count", "(I)I"⟩
def RJ6 : String := "java/lang/Integer"
abbrev cJ6_bitCount_0f7a4 : ByteArray := prog_13_method_49_code
def yJ6_bitCount_0f7a4 : MethodName := ⟨RJ6, "bitCount", "(I)I"⟩
def RJ9 : String := "java/lang/Math"
abbrev cJ9_floorMod_7cf53 : ByteArray := prog_14_method_50_code
def yJ9_floorMod_7cf53 : MethodName := ⟨RJ9, "floorMod", "(II)I"⟩
abbrev cJ9_max_7cf53 : ByteArray := prog_14_method_65_code
def yJ9_max_7cf53 : MethodName := ⟨RJ9, "max", "(II)I"⟩
abbrev cJ9_min_7cf53 : ByteArray := prog_14_method_69_code
def yJ9_min_7cf53 : MethodName := ⟨RJ9, "min", "(II)I"⟩
def RJ10 : String := "java/lang/System"
def RL : String := "IndependenceDeskLaw"
abbrev cL_law : ByteArray := code
def yL_law : MethodName := ⟨RL, "law", "([I)Z"⟩
abbrev vwCl : List vw_C := [(RX0, TX0, 3), (RX2, TX2, 5), (RX3, TX3, 2), (RX4, TX4, 3), (RX5, TX5, 5), (RX6, TX6, 3), (RX7, TX7, 6), (RX8, TX8, 5), (RX9, TX9, 12), (RX10, TX10, 26)]
