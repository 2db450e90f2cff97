section
-- ===== PART A: goes FIRST, ahead of the names: the tables' words, and 'selects' of the private methods out of them =====
/-- a private method of a class that the tables say can be made, by its rows of tables_1 -/
def lw_okq (q : MethodName × Nat) : Prop := (q.1.cls ≠ "java/lang/invoke/MethodHandle" ∧ q.1.cls ≠ "java/lang/invoke/VarHandle") ∧ Cond.instantiable q.1.cls q.2 ∈ tables_1 ∧ Cond.privateMethod q.1 ∈ tables_1 ∧ Cond.instanceMethod q.1 ∈ tables_1
theorem lw_p0 : lw_okq (⟨"IndependenceDesk", "startAnew", "(I)V"⟩, 12) := ⟨⟨by decide +kernel, by decide +kernel⟩, List.mem_of_getElem? (i := 15) (by decide +kernel), List.mem_of_getElem? (i := 144) (by decide +kernel), List.mem_of_getElem? (i := 145) (by decide +kernel)⟩
theorem lw_p1 : lw_okq (⟨"IndependenceDesk$Told", "noteBreach", "(III)V"⟩, 6) := ⟨⟨by decide +kernel, by decide +kernel⟩, List.mem_of_getElem? (i := 45) (by decide +kernel), List.mem_of_getElem? (i := 152) (by decide +kernel), List.mem_of_getElem? (i := 153) (by decide +kernel)⟩
theorem lw_p2 : lw_okq (⟨"IndependenceDesk", "isThing", "(I)Z"⟩, 12) := ⟨⟨by decide +kernel, by decide +kernel⟩, List.mem_of_getElem? (i := 15) (by decide +kernel), List.mem_of_getElem? (i := 201) (by decide +kernel), List.mem_of_getElem? (i := 202) (by decide +kernel)⟩
theorem lw_p3 : lw_okq (⟨"IndependenceDesk", "slotAt", "(I)LIndependenceDesk$Slot;"⟩, 12) := ⟨⟨by decide +kernel, by decide +kernel⟩, List.mem_of_getElem? (i := 15) (by decide +kernel), List.mem_of_getElem? (i := 210) (by decide +kernel), List.mem_of_getElem? (i := 211) (by decide +kernel)⟩
theorem lw_p4 : lw_okq (⟨"IndependenceDesk", "numberRefusal", "(II)I"⟩, 12) := ⟨⟨by decide +kernel, by decide +kernel⟩, List.mem_of_getElem? (i := 15) (by decide +kernel), List.mem_of_getElem? (i := 237) (by decide +kernel), List.mem_of_getElem? (i := 238) (by decide +kernel)⟩
theorem lw_p5 : lw_okq (⟨"IndependenceDesk$Slot", "cut", "(J)J"⟩, 3) := ⟨⟨by decide +kernel, by decide +kernel⟩, List.mem_of_getElem? (i := 126) (by decide +kernel), List.mem_of_getElem? (i := 249) (by decide +kernel), List.mem_of_getElem? (i := 250) (by decide +kernel)⟩
theorem lw_p6 : lw_okq (⟨"IndependenceDesk", "checkFromNumbers", "(I)LIndependenceDesk$Check;"⟩, 12) := ⟨⟨by decide +kernel, by decide +kernel⟩, List.mem_of_getElem? (i := 15) (by decide +kernel), List.mem_of_getElem? (i := 276) (by decide +kernel), List.mem_of_getElem? (i := 277) (by decide +kernel)⟩
theorem lw_p7 : lw_okq (⟨"IndependenceDesk$Told", "listSets", "(I)V"⟩, 6) := ⟨⟨by decide +kernel, by decide +kernel⟩, List.mem_of_getElem? (i := 45) (by decide +kernel), List.mem_of_getElem? (i := 332) (by decide +kernel), List.mem_of_getElem? (i := 333) (by decide +kernel)⟩
theorem lw_p8 : lw_okq (⟨"IndependenceDesk$Told", "lacksPart", "()Z"⟩, 6) := ⟨⟨by decide +kernel, by decide +kernel⟩, List.mem_of_getElem? (i := 45) (by decide +kernel), List.mem_of_getElem? (i := 340) (by decide +kernel), List.mem_of_getElem? (i := 341) (by decide +kernel)⟩
theorem lw_p9 : lw_okq (⟨"IndependenceDesk$Told", "leastPartNotTold", "(I)I"⟩, 6) := ⟨⟨by decide +kernel, by decide +kernel⟩, List.mem_of_getElem? (i := 45) (by decide +kernel), List.mem_of_getElem? (i := 344) (by decide +kernel), List.mem_of_getElem? (i := 345) (by decide +kernel)⟩
theorem lw_p10 : lw_okq (⟨"IndependenceDesk$Told", "lacksExchange", "(I)Z"⟩, 6) := ⟨⟨by decide +kernel, by decide +kernel⟩, List.mem_of_getElem? (i := 45) (by decide +kernel), List.mem_of_getElem? (i := 348) (by decide +kernel), List.mem_of_getElem? (i := 349) (by decide +kernel)⟩
theorem lw_p11 : lw_okq (⟨"IndependenceDesk$Told", "leastWithNoneToCome", "(II)I"⟩, 6) := ⟨⟨by decide +kernel, by decide +kernel⟩, List.mem_of_getElem? (i := 45) (by decide +kernel), List.mem_of_getElem? (i := 352) (by decide +kernel), List.mem_of_getElem? (i := 353) (by decide +kernel)⟩
theorem lw_p12 : lw_okq (⟨"IndependenceDesk$Told", "thingsThatMayCome", "(II)I"⟩, 6) := ⟨⟨by decide +kernel, by decide +kernel⟩, List.mem_of_getElem? (i := 45) (by decide +kernel), List.mem_of_getElem? (i := 356) (by decide +kernel), List.mem_of_getElem? (i := 357) (by decide +kernel)⟩
theorem lw_p13 : lw_okq (⟨"IndependenceDesk", "addRule", "(IIIILIndependenceDesk$Check;)I"⟩, 12) := ⟨⟨by decide +kernel, by decide +kernel⟩, List.mem_of_getElem? (i := 15) (by decide +kernel), List.mem_of_getElem? (i := 366) (by decide +kernel), List.mem_of_getElem? (i := 367) (by decide +kernel)⟩
theorem lw_p14 : lw_okq (⟨"IndependenceDesk$Rule", "rankByParts", "(ILIndependenceDesk$Check;)I"⟩, 5) := ⟨⟨by decide +kernel, by decide +kernel⟩, List.mem_of_getElem? (i := 369) (by decide +kernel), List.mem_of_getElem? (i := 396) (by decide +kernel), List.mem_of_getElem? (i := 397) (by decide +kernel)⟩
theorem lw_p15 : lw_okq (⟨"IndependenceDesk$Vectors", "clearLead", "([I[II)V"⟩, 5) := ⟨⟨by decide +kernel, by decide +kernel⟩, List.mem_of_getElem? (i := 103) (by decide +kernel), List.mem_of_getElem? (i := 444) (by decide +kernel), List.mem_of_getElem? (i := 445) (by decide +kernel)⟩
def lw_privs_1 : List (MethodName × Nat) := [(⟨"IndependenceDesk", "startAnew", "(I)V"⟩, 12), (⟨"IndependenceDesk$Told", "noteBreach", "(III)V"⟩, 6), (⟨"IndependenceDesk", "isThing", "(I)Z"⟩, 12), (⟨"IndependenceDesk", "slotAt", "(I)LIndependenceDesk$Slot;"⟩, 12), (⟨"IndependenceDesk", "numberRefusal", "(II)I"⟩, 12), (⟨"IndependenceDesk$Slot", "cut", "(J)J"⟩, 3), (⟨"IndependenceDesk", "checkFromNumbers", "(I)LIndependenceDesk$Check;"⟩, 12), (⟨"IndependenceDesk$Told", "listSets", "(I)V"⟩, 6), (⟨"IndependenceDesk$Told", "lacksPart", "()Z"⟩, 6), (⟨"IndependenceDesk$Told", "leastPartNotTold", "(I)I"⟩, 6), (⟨"IndependenceDesk$Told", "lacksExchange", "(I)Z"⟩, 6), (⟨"IndependenceDesk$Told", "leastWithNoneToCome", "(II)I"⟩, 6), (⟨"IndependenceDesk$Told", "thingsThatMayCome", "(II)I"⟩, 6), (⟨"IndependenceDesk", "addRule", "(IIIILIndependenceDesk$Check;)I"⟩, 12), (⟨"IndependenceDesk$Rule", "rankByParts", "(ILIndependenceDesk$Check;)I"⟩, 5), (⟨"IndependenceDesk$Vectors", "clearLead", "([I[II)V"⟩, 5)]
theorem lw_r1 : ∀ q ∈ lw_privs_1, lw_okq q := List.forall_mem_cons.mpr ⟨lw_p0, List.forall_mem_cons.mpr ⟨lw_p1, List.forall_mem_cons.mpr ⟨lw_p2, List.forall_mem_cons.mpr ⟨lw_p3, List.forall_mem_cons.mpr ⟨lw_p4, List.forall_mem_cons.mpr ⟨lw_p5, List.forall_mem_cons.mpr ⟨lw_p6, List.forall_mem_cons.mpr ⟨lw_p7, List.forall_mem_cons.mpr ⟨lw_p8, List.forall_mem_cons.mpr ⟨lw_p9, List.forall_mem_cons.mpr ⟨lw_p10, List.forall_mem_cons.mpr ⟨lw_p11, List.forall_mem_cons.mpr ⟨lw_p12, List.forall_mem_cons.mpr ⟨lw_p13, List.forall_mem_cons.mpr ⟨lw_p14, List.forall_mem_cons.mpr ⟨lw_p15, fun _ h => absurd h List.not_mem_nil⟩⟩⟩⟩⟩⟩⟩⟩⟩⟩⟩⟩⟩⟩⟩⟩
theorem lw_p16 : lw_okq (⟨"IndependenceDesk$Vectors", "modulo", "(I)I"⟩, 5) := ⟨⟨by decide +kernel, by decide +kernel⟩, List.mem_of_getElem? (i := 103) (by decide +kernel), List.mem_of_getElem? (i := 448) (by decide +kernel), List.mem_of_getElem? (i := 449) (by decide +kernel)⟩
theorem lw_p17 : lw_okq (⟨"IndependenceDesk$Vectors", "firstNotZero", "([I)I"⟩, 5) := ⟨⟨by decide +kernel, by decide +kernel⟩, List.mem_of_getElem? (i := 103) (by decide +kernel), List.mem_of_getElem? (i := 452) (by decide +kernel), List.mem_of_getElem? (i := 453) (by decide +kernel)⟩
theorem lw_p18 : lw_okq (⟨"IndependenceDesk", "addDerived", "(IIII)I"⟩, 12) := ⟨⟨by decide +kernel, by decide +kernel⟩, List.mem_of_getElem? (i := 15) (by decide +kernel), List.mem_of_getElem? (i := 460) (by decide +kernel), List.mem_of_getElem? (i := 461) (by decide +kernel)⟩
theorem lw_p19 : lw_okq (⟨"IndependenceDesk", "ruleAt", "(I)LIndependenceDesk$Rule;"⟩, 12) := ⟨⟨by decide +kernel, by decide +kernel⟩, List.mem_of_getElem? (i := 15) (by decide +kernel), List.mem_of_getElem? (i := 464) (by decide +kernel), List.mem_of_getElem? (i := 465) (by decide +kernel)⟩
theorem lw_p20 : lw_okq (⟨"IndependenceDesk", "isSet", "(I)Z"⟩, 12) := ⟨⟨by decide +kernel, by decide +kernel⟩, List.mem_of_getElem? (i := 15) (by decide +kernel), List.mem_of_getElem? (i := 468) (by decide +kernel), List.mem_of_getElem? (i := 469) (by decide +kernel)⟩
theorem lw_p21 : lw_okq (⟨"IndependenceDesk", "thingsThatMayGo", "(LIndependenceDesk$Rule;II)I"⟩, 12) := ⟨⟨by decide +kernel, by decide +kernel⟩, List.mem_of_getElem? (i := 15) (by decide +kernel), List.mem_of_getElem? (i := 545) (by decide +kernel), List.mem_of_getElem? (i := 546) (by decide +kernel)⟩
theorem lw_p22 : lw_okq (⟨"IndependenceDesk", "nextByWeight", "(IZ)I"⟩, 12) := ⟨⟨by decide +kernel, by decide +kernel⟩, List.mem_of_getElem? (i := 15) (by decide +kernel), List.mem_of_getElem? (i := 553) (by decide +kernel), List.mem_of_getElem? (i := 554) (by decide +kernel)⟩
theorem lw_p23 : lw_okq (⟨"IndependenceDesk", "goesAhead", "(IIZ)Z"⟩, 12) := ⟨⟨by decide +kernel, by decide +kernel⟩, List.mem_of_getElem? (i := 15) (by decide +kernel), List.mem_of_getElem? (i := 557) (by decide +kernel), List.mem_of_getElem? (i := 558) (by decide +kernel)⟩
theorem lw_p24 : lw_okq (⟨"IndependenceDesk", "mostCommon", "(LIndependenceDesk$Rule;LIndependenceDesk$Rule;LIndependenceDesk$Rule;)I"⟩, 12) := ⟨⟨by decide +kernel, by decide +kernel⟩, List.mem_of_getElem? (i := 15) (by decide +kernel), List.mem_of_getElem? (i := 565) (by decide +kernel), List.mem_of_getElem? (i := 566) (by decide +kernel)⟩
theorem lw_p25 : lw_okq (⟨"IndependenceDesk", "weightOf", "(I)I"⟩, 12) := ⟨⟨by decide +kernel, by decide +kernel⟩, List.mem_of_getElem? (i := 15) (by decide +kernel), List.mem_of_getElem? (i := 578) (by decide +kernel), List.mem_of_getElem? (i := 579) (by decide +kernel)⟩
theorem lw_p26 : lw_okq (⟨"IndependenceDesk", "mostCrowded", "(LIndependenceDesk$Rule;)I"⟩, 12) := ⟨⟨by decide +kernel, by decide +kernel⟩, List.mem_of_getElem? (i := 15) (by decide +kernel), List.mem_of_getElem? (i := 594) (by decide +kernel), List.mem_of_getElem? (i := 595) (by decide +kernel)⟩
theorem lw_p27 : lw_okq (⟨"IndependenceDesk", "heapsNeeded", "(LIndependenceDesk$Rule;I)I"⟩, 12) := ⟨⟨by decide +kernel, by decide +kernel⟩, List.mem_of_getElem? (i := 15) (by decide +kernel), List.mem_of_getElem? (i := 598) (by decide +kernel), List.mem_of_getElem? (i := 599) (by decide +kernel)⟩
theorem lw_p28 : lw_okq (⟨"IndependenceDesk", "numberInDeal", "(LIndependenceDesk$Rule;I)I"⟩, 12) := ⟨⟨by decide +kernel, by decide +kernel⟩, List.mem_of_getElem? (i := 15) (by decide +kernel), List.mem_of_getElem? (i := 606) (by decide +kernel), List.mem_of_getElem? (i := 607) (by decide +kernel)⟩
theorem lw_p29 : lw_okq (⟨"IndependenceDesk", "heapThatMayTake", "(LIndependenceDesk$Rule;III)I"⟩, 12) := ⟨⟨by decide +kernel, by decide +kernel⟩, List.mem_of_getElem? (i := 15) (by decide +kernel), List.mem_of_getElem? (i := 610) (by decide +kernel), List.mem_of_getElem? (i := 611) (by decide +kernel)⟩
theorem lw_p30 : lw_okq (⟨"IndependenceDesk", "restCanBeDealt", "(LIndependenceDesk$Rule;III)Z"⟩, 12) := ⟨⟨by decide +kernel, by decide +kernel⟩, List.mem_of_getElem? (i := 15) (by decide +kernel), List.mem_of_getElem? (i := 614) (by decide +kernel), List.mem_of_getElem? (i := 615) (by decide +kernel)⟩
theorem lw_p31 : lw_okq (⟨"IndependenceDesk", "roomFor", "(LIndependenceDesk$Rule;III)I"⟩, 12) := ⟨⟨by decide +kernel, by decide +kernel⟩, List.mem_of_getElem? (i := 15) (by decide +kernel), List.mem_of_getElem? (i := 618) (by decide +kernel), List.mem_of_getElem? (i := 619) (by decide +kernel)⟩
def lw_privs_2 : List (MethodName × Nat) := [(⟨"IndependenceDesk$Vectors", "modulo", "(I)I"⟩, 5), (⟨"IndependenceDesk$Vectors", "firstNotZero", "([I)I"⟩, 5), (⟨"IndependenceDesk", "addDerived", "(IIII)I"⟩, 12), (⟨"IndependenceDesk", "ruleAt", "(I)LIndependenceDesk$Rule;"⟩, 12), (⟨"IndependenceDesk", "isSet", "(I)Z"⟩, 12), (⟨"IndependenceDesk", "thingsThatMayGo", "(LIndependenceDesk$Rule;II)I"⟩, 12), (⟨"IndependenceDesk", "nextByWeight", "(IZ)I"⟩, 12), (⟨"IndependenceDesk", "goesAhead", "(IIZ)Z"⟩, 12), (⟨"IndependenceDesk", "mostCommon", "(LIndependenceDesk$Rule;LIndependenceDesk$Rule;LIndependenceDesk$Rule;)I"⟩, 12), (⟨"IndependenceDesk", "weightOf", "(I)I"⟩, 12), (⟨"IndependenceDesk", "mostCrowded", "(LIndependenceDesk$Rule;)I"⟩, 12), (⟨"IndependenceDesk", "heapsNeeded", "(LIndependenceDesk$Rule;I)I"⟩, 12), (⟨"IndependenceDesk", "numberInDeal", "(LIndependenceDesk$Rule;I)I"⟩, 12), (⟨"IndependenceDesk", "heapThatMayTake", "(LIndependenceDesk$Rule;III)I"⟩, 12), (⟨"IndependenceDesk", "restCanBeDealt", "(LIndependenceDesk$Rule;III)Z"⟩, 12), (⟨"IndependenceDesk", "roomFor", "(LIndependenceDesk$Rule;III)I"⟩, 12)]
theorem lw_r2 : ∀ q ∈ lw_privs_2, lw_okq q := List.forall_mem_cons.mpr ⟨lw_p16, List.forall_mem_cons.mpr ⟨lw_p17, List.forall_mem_cons.mpr ⟨lw_p18, List.forall_mem_cons.mpr ⟨lw_p19, List.forall_mem_cons.mpr ⟨lw_p20, List.forall_mem_cons.mpr ⟨lw_p21, List.forall_mem_cons.mpr ⟨lw_p22, List.forall_mem_cons.mpr ⟨lw_p23, List.forall_mem_cons.mpr ⟨lw_p24, List.forall_mem_cons.mpr ⟨lw_p25, List.forall_mem_cons.mpr ⟨lw_p26, List.forall_mem_cons.mpr ⟨lw_p27, List.forall_mem_cons.mpr ⟨lw_p28, List.forall_mem_cons.mpr ⟨lw_p29, List.forall_mem_cons.mpr ⟨lw_p30, List.forall_mem_cons.mpr ⟨lw_p31, fun _ h => absurd h List.not_mem_nil⟩⟩⟩⟩⟩⟩⟩⟩⟩⟩⟩⟩⟩⟩⟩⟩
theorem lw_p32 : lw_okq (⟨"IndependenceDesk", "slotsWithRow", "()I"⟩, 12) := ⟨⟨by decide +kernel, by decide +kernel⟩, List.mem_of_getElem? (i := 15) (by decide +kernel), List.mem_of_getElem? (i := 639) (by decide +kernel), List.mem_of_getElem? (i := 640) (by decide +kernel)⟩
theorem lw_p33 : lw_okq (⟨"IndependenceDeskModel", "anew", "(I)V"⟩, 26) := ⟨⟨by decide +kernel, by decide +kernel⟩, List.mem_of_getElem? (i := 643) (by decide +kernel), List.mem_of_getElem? (i := 650) (by decide +kernel), List.mem_of_getElem? (i := 651) (by decide +kernel)⟩
theorem lw_p34 : lw_okq (⟨"IndependenceDeskModel", "isThing", "(I)Z"⟩, 26) := ⟨⟨by decide +kernel, by decide +kernel⟩, List.mem_of_getElem? (i := 643) (by decide +kernel), List.mem_of_getElem? (i := 742) (by decide +kernel), List.mem_of_getElem? (i := 743) (by decide +kernel)⟩
theorem lw_p35 : lw_okq (⟨"IndependenceDeskModel", "wrong", "(II)I"⟩, 26) := ⟨⟨by decide +kernel, by decide +kernel⟩, List.mem_of_getElem? (i := 643) (by decide +kernel), List.mem_of_getElem? (i := 762) (by decide +kernel), List.mem_of_getElem? (i := 763) (by decide +kernel)⟩
theorem lw_p36 : lw_okq (⟨"IndependenceDeskModel", "readsTold", "()V"⟩, 26) := ⟨⟨by decide +kernel, by decide +kernel⟩, List.mem_of_getElem? (i := 643) (by decide +kernel), List.mem_of_getElem? (i := 778) (by decide +kernel), List.mem_of_getElem? (i := 779) (by decide +kernel)⟩
theorem lw_p37 : lw_okq (⟨"IndependenceDeskModel", "next", "(JJ)I"⟩, 26) := ⟨⟨by decide +kernel, by decide +kernel⟩, List.mem_of_getElem? (i := 643) (by decide +kernel), List.mem_of_getElem? (i := 783) (by decide +kernel), List.mem_of_getElem? (i := 784) (by decide +kernel)⟩
theorem lw_p38 : lw_okq (⟨"IndependenceDeskModel", "allow", "(I)V"⟩, 26) := ⟨⟨by decide +kernel, by decide +kernel⟩, List.mem_of_getElem? (i := 643) (by decide +kernel), List.mem_of_getElem? (i := 787) (by decide +kernel), List.mem_of_getElem? (i := 788) (by decide +kernel)⟩
theorem lw_p39 : lw_okq (⟨"IndependenceDeskModel", "breaks", "()Z"⟩, 26) := ⟨⟨by decide +kernel, by decide +kernel⟩, List.mem_of_getElem? (i := 643) (by decide +kernel), List.mem_of_getElem? (i := 791) (by decide +kernel), List.mem_of_getElem? (i := 792) (by decide +kernel)⟩
theorem lw_p40 : lw_okq (⟨"IndependenceDeskModel", "isAllowed", "(II)Z"⟩, 26) := ⟨⟨by decide +kernel, by decide +kernel⟩, List.mem_of_getElem? (i := 643) (by decide +kernel), List.mem_of_getElem? (i := 795) (by decide +kernel), List.mem_of_getElem? (i := 796) (by decide +kernel)⟩
theorem lw_p41 : lw_okq (⟨"IndependenceDeskModel", "breaks", "(III)Z"⟩, 26) := ⟨⟨by decide +kernel, by decide +kernel⟩, List.mem_of_getElem? (i := 643) (by decide +kernel), List.mem_of_getElem? (i := 799) (by decide +kernel), List.mem_of_getElem? (i := 800) (by decide +kernel)⟩
theorem lw_p42 : lw_okq (⟨"IndependenceDeskModel", "readsEven", "()V"⟩, 26) := ⟨⟨by decide +kernel, by decide +kernel⟩, List.mem_of_getElem? (i := 643) (by decide +kernel), List.mem_of_getElem? (i := 806) (by decide +kernel), List.mem_of_getElem? (i := 807) (by decide +kernel)⟩
theorem lw_p43 : lw_okq (⟨"IndependenceDeskModel", "readsParts", "()V"⟩, 26) := ⟨⟨by decide +kernel, by decide +kernel⟩, List.mem_of_getElem? (i := 643) (by decide +kernel), List.mem_of_getElem? (i := 811) (by decide +kernel), List.mem_of_getElem? (i := 812) (by decide +kernel)⟩
theorem lw_p44 : lw_okq (⟨"IndependenceDeskModel", "readsNested", "()V"⟩, 26) := ⟨⟨by decide +kernel, by decide +kernel⟩, List.mem_of_getElem? (i := 643) (by decide +kernel), List.mem_of_getElem? (i := 817) (by decide +kernel), List.mem_of_getElem? (i := 818) (by decide +kernel)⟩
theorem lw_p45 : lw_okq (⟨"IndependenceDeskModel", "readsEdges", "()V"⟩, 26) := ⟨⟨by decide +kernel, by decide +kernel⟩, List.mem_of_getElem? (i := 643) (by decide +kernel), List.mem_of_getElem? (i := 822) (by decide +kernel), List.mem_of_getElem? (i := 823) (by decide +kernel)⟩
theorem lw_p46 : lw_okq (⟨"IndependenceDeskModel", "readsRows", "()V"⟩, 26) := ⟨⟨by decide +kernel, by decide +kernel⟩, List.mem_of_getElem? (i := 643) (by decide +kernel), List.mem_of_getElem? (i := 827) (by decide +kernel), List.mem_of_getElem? (i := 828) (by decide +kernel)⟩
theorem lw_p47 : lw_okq (⟨"IndependenceDeskModel", "isFree", "(III)Z"⟩, 26) := ⟨⟨by decide +kernel, by decide +kernel⟩, List.mem_of_getElem? (i := 643) (by decide +kernel), List.mem_of_getElem? (i := 834) (by decide +kernel), List.mem_of_getElem? (i := 835) (by decide +kernel)⟩
def lw_privs_3 : List (MethodName × Nat) := [(⟨"IndependenceDesk", "slotsWithRow", "()I"⟩, 12), (⟨"IndependenceDeskModel", "anew", "(I)V"⟩, 26), (⟨"IndependenceDeskModel", "isThing", "(I)Z"⟩, 26), (⟨"IndependenceDeskModel", "wrong", "(II)I"⟩, 26), (⟨"IndependenceDeskModel", "readsTold", "()V"⟩, 26), (⟨"IndependenceDeskModel", "next", "(JJ)I"⟩, 26), (⟨"IndependenceDeskModel", "allow", "(I)V"⟩, 26), (⟨"IndependenceDeskModel", "breaks", "()Z"⟩, 26), (⟨"IndependenceDeskModel", "isAllowed", "(II)Z"⟩, 26), (⟨"IndependenceDeskModel", "breaks", "(III)Z"⟩, 26), (⟨"IndependenceDeskModel", "readsEven", "()V"⟩, 26), (⟨"IndependenceDeskModel", "readsParts", "()V"⟩, 26), (⟨"IndependenceDeskModel", "readsNested", "()V"⟩, 26), (⟨"IndependenceDeskModel", "readsEdges", "()V"⟩, 26), (⟨"IndependenceDeskModel", "readsRows", "()V"⟩, 26), (⟨"IndependenceDeskModel", "isFree", "(III)Z"⟩, 26)]
theorem lw_r3 : ∀ q ∈ lw_privs_3, lw_okq q := List.forall_mem_cons.mpr ⟨lw_p32, List.forall_mem_cons.mpr ⟨lw_p33, List.forall_mem_cons.mpr ⟨lw_p34, List.forall_mem_cons.mpr ⟨lw_p35, List.forall_mem_cons.mpr ⟨lw_p36, List.forall_mem_cons.mpr ⟨lw_p37, List.forall_mem_cons.mpr ⟨lw_p38, List.forall_mem_cons.mpr ⟨lw_p39, List.forall_mem_cons.mpr ⟨lw_p40, List.forall_mem_cons.mpr ⟨lw_p41, List.forall_mem_cons.mpr ⟨lw_p42, List.forall_mem_cons.mpr ⟨lw_p43, List.forall_mem_cons.mpr ⟨lw_p44, List.forall_mem_cons.mpr ⟨lw_p45, List.forall_mem_cons.mpr ⟨lw_p46, List.forall_mem_cons.mpr ⟨lw_p47, fun _ h => absurd h List.not_mem_nil⟩⟩⟩⟩⟩⟩⟩⟩⟩⟩⟩⟩⟩⟩⟩⟩
theorem lw_p48 : lw_okq (⟨"IndependenceDeskModel", "lead", "(II)I"⟩, 26) := ⟨⟨by decide +kernel, by decide +kernel⟩, List.mem_of_getElem? (i := 643) (by decide +kernel), List.mem_of_getElem? (i := 838) (by decide +kernel), List.mem_of_getElem? (i := 839) (by decide +kernel)⟩
theorem lw_p49 : lw_okq (⟨"IndependenceDeskModel", "readsPlaces", "()V"⟩, 26) := ⟨⟨by decide +kernel, by decide +kernel⟩, List.mem_of_getElem? (i := 643) (by decide +kernel), List.mem_of_getElem? (i := 845) (by decide +kernel), List.mem_of_getElem? (i := 846) (by decide +kernel)⟩
theorem lw_p50 : lw_okq (⟨"IndependenceDeskModel", "made", "(IIII)I"⟩, 26) := ⟨⟨by decide +kernel, by decide +kernel⟩, List.mem_of_getElem? (i := 643) (by decide +kernel), List.mem_of_getElem? (i := 850) (by decide +kernel), List.mem_of_getElem? (i := 851) (by decide +kernel)⟩
theorem lw_p51 : lw_okq (⟨"IndependenceDeskModel", "rankOf", "(II)I"⟩, 26) := ⟨⟨by decide +kernel, by decide +kernel⟩, List.mem_of_getElem? (i := 643) (by decide +kernel), List.mem_of_getElem? (i := 854) (by decide +kernel), List.mem_of_getElem? (i := 855) (by decide +kernel)⟩
theorem lw_p52 : lw_okq (⟨"IndependenceDeskModel", "refused", "(II)I"⟩, 26) := ⟨⟨by decide +kernel, by decide +kernel⟩, List.mem_of_getElem? (i := 643) (by decide +kernel), List.mem_of_getElem? (i := 862) (by decide +kernel), List.mem_of_getElem? (i := 863) (by decide +kernel)⟩
theorem lw_p53 : lw_okq (⟨"IndependenceDeskModel", "isRule", "(I)Z"⟩, 26) := ⟨⟨by decide +kernel, by decide +kernel⟩, List.mem_of_getElem? (i := 643) (by decide +kernel), List.mem_of_getElem? (i := 866) (by decide +kernel), List.mem_of_getElem? (i := 867) (by decide +kernel)⟩
theorem lw_p54 : lw_okq (⟨"IndependenceDeskModel", "isSet", "(I)Z"⟩, 26) := ⟨⟨by decide +kernel, by decide +kernel⟩, List.mem_of_getElem? (i := 643) (by decide +kernel), List.mem_of_getElem? (i := 870) (by decide +kernel), List.mem_of_getElem? (i := 871) (by decide +kernel)⟩
theorem lw_p55 : lw_okq (⟨"IndependenceDeskModel", "table", "(IZ)V"⟩, 26) := ⟨⟨by decide +kernel, by decide +kernel⟩, List.mem_of_getElem? (i := 643) (by decide +kernel), List.mem_of_getElem? (i := 874) (by decide +kernel), List.mem_of_getElem? (i := 875) (by decide +kernel)⟩
theorem lw_p56 : lw_okq (⟨"IndependenceDeskModel", "isFull", "(II)Z"⟩, 26) := ⟨⟨by decide +kernel, by decide +kernel⟩, List.mem_of_getElem? (i := 643) (by decide +kernel), List.mem_of_getElem? (i := 922) (by decide +kernel), List.mem_of_getElem? (i := 923) (by decide +kernel)⟩
theorem lw_p57 : lw_okq (⟨"IndependenceDeskModel", "isBetter", "(IIZ)Z"⟩, 26) := ⟨⟨by decide +kernel, by decide +kernel⟩, List.mem_of_getElem? (i := 643) (by decide +kernel), List.mem_of_getElem? (i := 926) (by decide +kernel), List.mem_of_getElem? (i := 927) (by decide +kernel)⟩
theorem lw_p58 : lw_okq (⟨"IndependenceDeskModel", "weightOf", "(I)I"⟩, 26) := ⟨⟨by decide +kernel, by decide +kernel⟩, List.mem_of_getElem? (i := 643) (by decide +kernel), List.mem_of_getElem? (i := 930) (by decide +kernel), List.mem_of_getElem? (i := 931) (by decide +kernel)⟩
theorem lw_p59 : lw_okq (⟨"IndependenceDeskModel", "undealt", "(I)I"⟩, 26) := ⟨⟨by decide +kernel, by decide +kernel⟩, List.mem_of_getElem? (i := 643) (by decide +kernel), List.mem_of_getElem? (i := 955) (by decide +kernel), List.mem_of_getElem? (i := 956) (by decide +kernel)⟩
theorem lw_p60 : lw_okq (⟨"IndependenceDeskModel", "fewestOf", "(I)I"⟩, 26) := ⟨⟨by decide +kernel, by decide +kernel⟩, List.mem_of_getElem? (i := 643) (by decide +kernel), List.mem_of_getElem? (i := 959) (by decide +kernel), List.mem_of_getElem? (i := 960) (by decide +kernel)⟩
theorem lw_p61 : lw_okq (⟨"IndependenceDeskModel", "deals", "(III)Z"⟩, 26) := ⟨⟨by decide +kernel, by decide +kernel⟩, List.mem_of_getElem? (i := 643) (by decide +kernel), List.mem_of_getElem? (i := 968) (by decide +kernel), List.mem_of_getElem? (i := 969) (by decide +kernel)⟩
def lw_privs_4 : List (MethodName × Nat) := [(⟨"IndependenceDeskModel", "lead", "(II)I"⟩, 26), (⟨"IndependenceDeskModel", "readsPlaces", "()V"⟩, 26), (⟨"IndependenceDeskModel", "made", "(IIII)I"⟩, 26), (⟨"IndependenceDeskModel", "rankOf", "(II)I"⟩, 26), (⟨"IndependenceDeskModel", "refused", "(II)I"⟩, 26), (⟨"IndependenceDeskModel", "isRule", "(I)Z"⟩, 26), (⟨"IndependenceDeskModel", "isSet", "(I)Z"⟩, 26), (⟨"IndependenceDeskModel", "table", "(IZ)V"⟩, 26), (⟨"IndependenceDeskModel", "isFull", "(II)Z"⟩, 26), (⟨"IndependenceDeskModel", "isBetter", "(IIZ)Z"⟩, 26), (⟨"IndependenceDeskModel", "weightOf", "(I)I"⟩, 26), (⟨"IndependenceDeskModel", "undealt", "(I)I"⟩, 26), (⟨"IndependenceDeskModel", "fewestOf", "(I)I"⟩, 26), (⟨"IndependenceDeskModel", "deals", "(III)Z"⟩, 26)]
theorem lw_r4 : ∀ q ∈ lw_privs_4, lw_okq q := List.forall_mem_cons.mpr ⟨lw_p48, List.forall_mem_cons.mpr ⟨lw_p49, List.forall_mem_cons.mpr ⟨lw_p50, List.forall_mem_cons.mpr ⟨lw_p51, List.forall_mem_cons.mpr ⟨lw_p52, List.forall_mem_cons.mpr ⟨lw_p53, List.forall_mem_cons.mpr ⟨lw_p54, List.forall_mem_cons.mpr ⟨lw_p55, List.forall_mem_cons.mpr ⟨lw_p56, List.forall_mem_cons.mpr ⟨lw_p57, List.forall_mem_cons.mpr ⟨lw_p58, List.forall_mem_cons.mpr ⟨lw_p59, List.forall_mem_cons.mpr ⟨lw_p60, List.forall_mem_cons.mpr ⟨lw_p61, fun _ h => absurd h List.not_mem_nil⟩⟩⟩⟩⟩⟩⟩⟩⟩⟩⟩⟩⟩⟩
def lw_privs : List (MethodName × Nat) := lw_privs_1 ++ (lw_privs_2 ++ (lw_privs_3 ++ (lw_privs_4)))
def lw_tbl : List Cond := k2_sels lw_privs ++ tables_1
theorem lw_privs_ok : ∀ q ∈ lw_privs, lw_okq q := by
  show ∀ q ∈ lw_privs_1 ++ (lw_privs_2 ++ (lw_privs_3 ++ (lw_privs_4))), lw_okq q
  exact List.forall_mem_append.mpr ⟨lw_r1, List.forall_mem_append.mpr ⟨lw_r2, List.forall_mem_append.mpr ⟨lw_r3, lw_r4⟩⟩⟩
def RX0 : String := "IndependenceDesk$Bounds"
def TX0 : u_T := fun k => match k with
  | 0 => ("IndependenceDesk$Bounds", "sets", "[I", true)
  | 1 => ("IndependenceDesk$Bounds", "limits", "[I", true)
  | _ => ("IndependenceDesk$Bounds", "size", "I", false)
def tyX0 : Nat → FieldType := fun k => match k with
  | 0 => .array .int
  | 1 => .array .int
  | _ => .int
abbrev wsX00 : List Cond := u_ws RX0 TX0 3
theorem nmX0 : ∀ a, a < 3 → ∀ b, b < 3 → a ≠ b → (TX0 a).2.1 ≠ (TX0 b).2.1 := by decide +kernel
theorem tyX0_ok : ∀ k, k < 3 → parseFieldDescriptor (TX0 k).2.2.1 = some (tyX0 k) := by decide +kernel
abbrev cX0_init : ByteArray := prog_2_method_1_code
def yX0_init : MethodName := ⟨RX0, "<init>", "()V"⟩
abbrev cX0_readEven : ByteArray := prog_2_method_2_code
def yX0_readEven : MethodName := ⟨RX0, "readEven", "(LIndependenceDesk$Reading;I)V"⟩
abbrev cX0_readParts : ByteArray := prog_2_method_3_code
def yX0_readParts : MethodName := ⟨RX0, "readParts", "(LIndependenceDesk$Reading;I)V"⟩
abbrev cX0_readNested : ByteArray := prog_2_method_4_code
def yX0_readNested : MethodName := ⟨RX0, "readNested", "(LIndependenceDesk$Reading;I)V"⟩
abbrev cX0_lieNested : ByteArray := prog_2_method_5_code
def yX0_lieNested : MethodName := ⟨RX0, "lieNested", "()Z"⟩
abbrev cX0_fits : ByteArray := prog_2_method_6_code
def yX0_fits : MethodName := ⟨RX0, "fits", "(I)Z"⟩
def RX1 : String := "IndependenceDesk$Check"
def TX1 : u_T := fun k => match k with
  | _ => ("", "", "", false)
def tyX1 : Nat → FieldType := fun k => match k with
  | _ => .int
abbrev wsX10 : List Cond := u_ws RX1 TX1 0
theorem nmX1 : ∀ a, a < 0 → ∀ b, b < 0 → a ≠ b → (TX1 a).2.1 ≠ (TX1 b).2.1 := by decide +kernel
theorem tyX1_ok : ∀ k, k < 0 → parseFieldDescriptor (TX1 k).2.2.1 = some (tyX1 k) := by decide +kernel
def RX2 : String := "IndependenceDesk$Derived"
def TX2 : u_T := fun k => match k with
  | 0 => ("IndependenceDesk$Derived", "kind", "I", true)
  | 1 => ("IndependenceDesk$Derived", "first", "LIndependenceDesk$Rule;", true)
  | 2 => ("IndependenceDesk$Derived", "second", "LIndependenceDesk$Rule;", true)
  | 3 => ("IndependenceDesk$Derived", "t", "I", true)
  | _ => ("IndependenceDesk$Derived", "all", "I", true)
def tyX2 : Nat → FieldType := fun k => match k with
  | 0 => .int
  | 1 => .object "IndependenceDesk$Rule"
  | 2 => .object "IndependenceDesk$Rule"
  | 3 => .int
  | _ => .int
abbrev wsX20 : List Cond := u_ws RX2 TX2 5
theorem nmX2 : ∀ a, a < 5 → ∀ b, b < 5 → a ≠ b → (TX2 a).2.1 ≠ (TX2 b).2.1 := by decide +kernel
theorem tyX2_ok : ∀ k, k < 5 → parseFieldDescriptor (TX2 k).2.2.1 = some (tyX2 k) := by decide +kernel
abbrev cX2_init : ByteArray := prog_4_method_1_code
def yX2_init : MethodName := ⟨RX2, "<init>", "(ILIndependenceDesk$Rule;LIndependenceDesk$Rule;II)V"⟩
abbrev cX2_fits : ByteArray := prog_4_method_2_code
def yX2_fits : MethodName := ⟨RX2, "fits", "(I)Z"⟩
def RX3 : String := "IndependenceDesk$Reaches"
def TX3 : u_T := fun k => match k with
  | 0 => ("IndependenceDesk$Reaches", "reached", "[I", true)
  | _ => ("IndependenceDesk$Reaches", "spare", "I", false)
def tyX3 : Nat → FieldType := fun k => match k with
  | 0 => .array .int
  | _ => .int
abbrev wsX30 : List Cond := u_ws RX3 TX3 2
theorem nmX3 : ∀ a, a < 2 → ∀ b, b < 2 → a ≠ b → (TX3 a).2.1 ≠ (TX3 b).2.1 := by decide +kernel
theorem tyX3_ok : ∀ k, k < 2 → parseFieldDescriptor (TX3 k).2.2.1 = some (tyX3 k) := by decide +kernel
abbrev cX3_init : ByteArray := prog_5_method_1_code
def yX3_init : MethodName := ⟨RX3, "<init>", "()V"⟩
abbrev cX3_readEdges : ByteArray := prog_5_method_2_code
def yX3_readEdges : MethodName := ⟨RX3, "readEdges", "(LIndependenceDesk$Reading;I)V"⟩
abbrev cX3_readPlaces : ByteArray := prog_5_method_3_code
def yX3_readPlaces : MethodName := ⟨RX3, "readPlaces", "(LIndependenceDesk$Reading;I)V"⟩
abbrev cX3_fits : ByteArray := prog_5_method_4_code
def yX3_fits : MethodName := ⟨RX3, "fits", "(I)Z"⟩
def RX4 : String := "IndependenceDesk$Reading"
def TX4 : u_T := fun k => match k with
  | 0 => ("IndependenceDesk$Reading", "source", "LIndependenceDesk$Slot;", false)
  | 1 => ("IndependenceDesk$Reading", "at", "I", false)
  | _ => ("IndependenceDesk$Reading", "refusal", "I", false)
def tyX4 : Nat → FieldType := fun k => match k with
  | 0 => .object "IndependenceDesk$Slot"
  | 1 => .int
  | _ => .int
abbrev wsX40 : List Cond := u_ws RX4 TX4 3
theorem nmX4 : ∀ a, a < 3 → ∀ b, b < 3 → a ≠ b → (TX4 a).2.1 ≠ (TX4 b).2.1 := by decide +kernel
theorem tyX4_ok : ∀ k, k < 3 → parseFieldDescriptor (TX4 k).2.2.1 = some (tyX4 k) := by decide +kernel
abbrev cX4_init : ByteArray := prog_6_method_1_code
def yX4_init : MethodName := ⟨RX4, "<init>", "()V"⟩
abbrev cX4_start : ByteArray := prog_6_method_2_code
def yX4_start : MethodName := ⟨RX4, "start", "(LIndependenceDesk$Slot;)V"⟩
abbrev cX4_next : ByteArray := prog_6_method_3_code
def yX4_next : MethodName := ⟨RX4, "next", "(II)I"⟩
abbrev cX4_refuseLast : ByteArray := prog_6_method_4_code
def yX4_refuseLast : MethodName := ⟨RX4, "refuseLast", "()V"⟩
def RX5 : String := "IndependenceDesk$Rule"
def TX5 : u_T := fun k => match k with
  | 0 => ("IndependenceDesk$Rule", "kind", "I", false)
  | 1 => ("IndependenceDesk$Rule", "first", "I", false)
  | 2 => ("IndependenceDesk$Rule", "second", "I", false)
  | 3 => ("IndependenceDesk$Rule", "depth", "I", false)
  | _ => ("IndependenceDesk$Rule", "ranks", "[B", false)
def tyX5 : Nat → FieldType := fun k => match k with
  | 0 => .int
  | 1 => .int
  | 2 => .int
  | 3 => .int
  | _ => .array .byte
abbrev wsX50 : List Cond := u_ws RX5 TX5 5
theorem nmX5 : ∀ a, a < 5 → ∀ b, b < 5 → a ≠ b → (TX5 a).2.1 ≠ (TX5 b).2.1 := by decide +kernel
theorem tyX5_ok : ∀ k, k < 5 → parseFieldDescriptor (TX5 k).2.2.1 = some (tyX5 k) := by decide +kernel
abbrev cX5_init : ByteArray := prog_7_method_1_code
def yX5_init : MethodName := ⟨RX5, "<init>", "()V"⟩
abbrev cX5_fill : ByteArray := prog_7_method_2_code
def yX5_fill : MethodName := ⟨RX5, "fill", "(ILIndependenceDesk$Check;)V"⟩
abbrev cX5_rankByParts : ByteArray := prog_7_method_3_code
def yX5_rankByParts : MethodName := ⟨RX5, "rankByParts", "(ILIndependenceDesk$Check;)I"⟩
abbrev cX5_rankOf : ByteArray := prog_7_method_4_code
def yX5_rankOf : MethodName := ⟨RX5, "rankOf", "(I)I"⟩
abbrev cX5_permits : ByteArray := prog_7_method_5_code
def yX5_permits : MethodName := ⟨RX5, "permits", "(I)Z"⟩
abbrev cX5_permitsEachAlone : ByteArray := prog_7_method_6_code
def yX5_permitsEachAlone : MethodName := ⟨RX5, "permitsEachAlone", "(I)Z"⟩
abbrev cX5_allowedSets : ByteArray := prog_7_method_7_code
def yX5_allowedSets : MethodName := ⟨RX5, "allowedSets", "(I)I"⟩
def RX6 : String := "IndependenceDesk$Slot"
def TX6 : u_T := fun k => match k with
  | 0 => ("IndependenceDesk$Slot", "numbers", "[J", true)
  | 1 => ("IndependenceDesk$Slot", "width", "I", false)
  | _ => ("IndependenceDesk$Slot", "size", "I", false)
def tyX6 : Nat → FieldType := fun k => match k with
  | 0 => .array .long
  | 1 => .int
  | _ => .int
abbrev wsX60 : List Cond := u_ws RX6 TX6 3
theorem nmX6 : ∀ a, a < 3 → ∀ b, b < 3 → a ≠ b → (TX6 a).2.1 ≠ (TX6 b).2.1 := by decide +kernel
theorem tyX6_ok : ∀ k, k < 3 → parseFieldDescriptor (TX6 k).2.2.1 = some (tyX6 k) := by decide +kernel
abbrev cX6_init : ByteArray := prog_8_method_1_code
def yX6_init : MethodName := ⟨RX6, "<init>", "()V"⟩
abbrev cX6_hasRow : ByteArray := prog_8_method_2_code
def yX6_hasRow : MethodName := ⟨RX6, "hasRow", "()Z"⟩
abbrev cX6_lay : ByteArray := prog_8_method_3_code
def yX6_lay : MethodName := ⟨RX6, "lay", "(II)V"⟩
abbrev cX6_clear : ByteArray := prog_8_method_4_code
def yX6_clear : MethodName := ⟨RX6, "clear", "()V"⟩
abbrev cX6_hasStretch : ByteArray := prog_8_method_5_code
def yX6_hasStretch : MethodName := ⟨RX6, "hasStretch", "(II)Z"⟩
abbrev cX6_number : ByteArray := prog_8_method_6_code
def yX6_number : MethodName := ⟨RX6, "number", "(I)J"⟩
abbrev cX6_put : ByteArray := prog_8_method_7_code
def yX6_put : MethodName := ⟨RX6, "put", "(IJ)V"⟩
abbrev cX6_cut : ByteArray := prog_8_method_8_code
def yX6_cut : MethodName := ⟨RX6, "cut", "(J)J"⟩
def RX7 : String := "IndependenceDesk$Told"
def TX7 : u_T := fun k => match k with
  | 0 => ("IndependenceDesk$Told", "marks", "[J", true)
  | 1 => ("IndependenceDesk$Told", "sets", "[I", true)
  | 2 => ("IndependenceDesk$Told", "size", "I", false)
  | 3 => ("IndependenceDesk$Told", "brokenPart", "I", false)
  | 4 => ("IndependenceDesk$Told", "brokenFirst", "I", false)
  | _ => ("IndependenceDesk$Told", "brokenSecond", "I", false)
def tyX7 : Nat → FieldType := fun k => match k with
  | 0 => .array .long
  | 1 => .array .int
  | 2 => .int
  | 3 => .int
  | 4 => .int
  | _ => .int
abbrev wsX70 : List Cond := u_ws RX7 TX7 6
theorem nmX7 : ∀ a, a < 6 → ∀ b, b < 6 → a ≠ b → (TX7 a).2.1 ≠ (TX7 b).2.1 := by decide +kernel
theorem tyX7_ok : ∀ k, k < 6 → parseFieldDescriptor (TX7 k).2.2.1 = some (tyX7 k) := by decide +kernel
abbrev cX7_init : ByteArray := prog_9_method_1_code
def yX7_init : MethodName := ⟨RX7, "<init>", "()V"⟩
abbrev cX7_forgetBreach : ByteArray := prog_9_method_2_code
def yX7_forgetBreach : MethodName := ⟨RX7, "forgetBreach", "()V"⟩
abbrev cX7_readSets : ByteArray := prog_9_method_3_code
def yX7_readSets : MethodName := ⟨RX7, "readSets", "(LIndependenceDesk$Reading;I)V"⟩
abbrev cX7_fits : ByteArray := prog_9_method_4_code
def yX7_fits : MethodName := ⟨RX7, "fits", "(I)Z"⟩
abbrev cX7_breaksLaw : ByteArray := prog_9_method_5_code
def yX7_breaksLaw : MethodName := ⟨RX7, "breaksLaw", "(I)Z"⟩
abbrev cX7_noteBreach : ByteArray := prog_9_method_6_code
def yX7_noteBreach : MethodName := ⟨RX7, "noteBreach", "(III)V"⟩
abbrev cX7_listSets : ByteArray := prog_9_method_7_code
def yX7_listSets : MethodName := ⟨RX7, "listSets", "(I)V"⟩
abbrev cX7_lacksPart : ByteArray := prog_9_method_8_code
def yX7_lacksPart : MethodName := ⟨RX7, "lacksPart", "()Z"⟩
abbrev cX7_leastPartNotTold : ByteArray := prog_9_method_9_code
def yX7_leastPartNotTold : MethodName := ⟨RX7, "leastPartNotTold", "(I)I"⟩
abbrev cX7_lacksExchange : ByteArray := prog_9_method_10_code
def yX7_lacksExchange : MethodName := ⟨RX7, "lacksExchange", "(I)Z"⟩
abbrev cX7_leastWithNoneToCome : ByteArray := prog_9_method_11_code
def yX7_leastWithNoneToCome : MethodName := ⟨RX7, "leastWithNoneToCome", "(II)I"⟩
abbrev cX7_thingsThatMayCome : ByteArray := prog_9_method_12_code
def yX7_thingsThatMayCome : MethodName := ⟨RX7, "thingsThatMayCome", "(II)I"⟩
def RX8 : String := "IndependenceDesk$Vectors"
def TX8 : u_T := fun k => match k with
  | 0 => ("IndependenceDesk$Vectors", "rows", "[[I", true)
  | 1 => ("IndependenceDesk$Vectors", "reduced", "[[I", true)
  | 2 => ("IndependenceDesk$Vectors", "leads", "[I", true)
  | 3 => ("IndependenceDesk$Vectors", "prime", "I", false)
  | _ => ("IndependenceDesk$Vectors", "columns", "I", false)
def tyX8 : Nat → FieldType := fun k => match k with
  | 0 => .array (.array .int)
  | 1 => .array (.array .int)
  | 2 => .array .int
  | 3 => .int
  | _ => .int
abbrev wsX80 : List Cond := u_ws RX8 TX8 5
theorem nmX8 : ∀ a, a < 5 → ∀ b, b < 5 → a ≠ b → (TX8 a).2.1 ≠ (TX8 b).2.1 := by decide +kernel
theorem tyX8_ok : ∀ k, k < 5 → parseFieldDescriptor (TX8 k).2.2.1 = some (tyX8 k) := by decide +kernel
abbrev cX8_init : ByteArray := prog_10_method_1_code
def yX8_init : MethodName := ⟨RX8, "<init>", "()V"⟩
abbrev cX8_readRows : ByteArray := prog_10_method_2_code
def yX8_readRows : MethodName := ⟨RX8, "readRows", "(LIndependenceDesk$Reading;I)V"⟩
abbrev cX8_fits : ByteArray := prog_10_method_3_code
def yX8_fits : MethodName := ⟨RX8, "fits", "(I)Z"⟩
abbrev cX8_clearLead : ByteArray := prog_10_method_4_code
def yX8_clearLead : MethodName := ⟨RX8, "clearLead", "([I[II)V"⟩
abbrev cX8_modulo : ByteArray := prog_10_method_5_code
def yX8_modulo : MethodName := ⟨RX8, "modulo", "(I)I"⟩
abbrev cX8_firstNotZero : ByteArray := prog_10_method_6_code
def yX8_firstNotZero : MethodName := ⟨RX8, "firstNotZero", "([I)I"⟩
def RX9 : String := "IndependenceDesk"
def TX9 : u_T := fun k => match k with
  | 0 => ("IndependenceDesk", "slots", "[LIndependenceDesk$Slot;", true)
  | 1 => ("IndependenceDesk", "rules", "[LIndependenceDesk$Rule;", true)
  | 2 => ("IndependenceDesk", "weights", "[I", true)
  | 3 => ("IndependenceDesk", "heaps", "[I", true)
  | 4 => ("IndependenceDesk", "reading", "LIndependenceDesk$Reading;", true)
  | 5 => ("IndependenceDesk", "told", "LIndependenceDesk$Told;", true)
  | 6 => ("IndependenceDesk", "bounds", "LIndependenceDesk$Bounds;", true)
  | 7 => ("IndependenceDesk", "reaches", "LIndependenceDesk$Reaches;", true)
  | 8 => ("IndependenceDesk", "vectors", "LIndependenceDesk$Vectors;", true)
  | 9 => ("IndependenceDesk", "things", "I", false)
  | 10 => ("IndependenceDesk", "all", "I", false)
  | _ => ("IndependenceDesk", "made", "I", false)
def tyX9 : Nat → FieldType := fun k => match k with
  | 0 => .array (.object "IndependenceDesk$Slot")
  | 1 => .array (.object "IndependenceDesk$Rule")
  | 2 => .array .int
  | 3 => .array .int
  | 4 => .object "IndependenceDesk$Reading"
  | 5 => .object "IndependenceDesk$Told"
  | 6 => .object "IndependenceDesk$Bounds"
  | 7 => .object "IndependenceDesk$Reaches"
  | 8 => .object "IndependenceDesk$Vectors"
  | 9 => .int
  | 10 => .int
  | _ => .int
abbrev wsX90 : List Cond := u_ws RX9 TX9 12
theorem nmX9 : ∀ a, a < 12 → ∀ b, b < 12 → a ≠ b → (TX9 a).2.1 ≠ (TX9 b).2.1 := by decide +kernel
theorem tyX9_ok : ∀ k, k < 12 → parseFieldDescriptor (TX9 k).2.2.1 = some (tyX9 k) := by decide +kernel
abbrev cX9_init : ByteArray := prog_1_method_1_code
def yX9_init : MethodName := ⟨RX9, "<init>", "()V"⟩
abbrev cX9_fresh : ByteArray := prog_1_method_2_code
def yX9_fresh : MethodName := ⟨RX9, "fresh", "(I)Z"⟩
abbrev cX9_weight : ByteArray := prog_1_method_3_code
def yX9_weight : MethodName := ⟨RX9, "weight", "(II)I"⟩
abbrev cX9_row : ByteArray := prog_1_method_4_code
def yX9_row : MethodName := ⟨RX9, "row", "(III)I"⟩
abbrev cX9_tear : ByteArray := prog_1_method_5_code
def yX9_tear : MethodName := ⟨RX9, "tear", "(I)Z"⟩
abbrev cX9_write : ByteArray := prog_1_method_6_code
def yX9_write : MethodName := ⟨RX9, "write", "(IIJ)I"⟩
abbrev cX9_read : ByteArray := prog_1_method_7_code
def yX9_read : MethodName := ⟨RX9, "read", "(II)J"⟩
abbrev cX9_copy : ByteArray := prog_1_method_8_code
def yX9_copy : MethodName := ⟨RX9, "copy", "(IIIII)I"⟩
abbrev cX9_rule : ByteArray := prog_1_method_9_code
def yX9_rule : MethodName := ⟨RX9, "rule", "(II)I"⟩
abbrev cX9_less : ByteArray := prog_1_method_10_code
def yX9_less : MethodName := ⟨RX9, "less", "(II)I"⟩
abbrev cX9_take : ByteArray := prog_1_method_11_code
def yX9_take : MethodName := ⟨RX9, "take", "(II)I"⟩
abbrev cX9_turn : ByteArray := prog_1_method_12_code
def yX9_turn : MethodName := ⟨RX9, "turn", "(I)I"⟩
abbrev cX9_join : ByteArray := prog_1_method_13_code
def yX9_join : MethodName := ⟨RX9, "join", "(II)I"⟩
abbrev cX9_broken : ByteArray := prog_1_method_14_code
def yX9_broken : MethodName := ⟨RX9, "broken", "(I)I"⟩
abbrev cX9_look : ByteArray := prog_1_method_15_code
def yX9_look : MethodName := ⟨RX9, "look", "(II)I"⟩
abbrev cX9_allows : ByteArray := prog_1_method_16_code
def yX9_allows : MethodName := ⟨RX9, "allows", "(II)I"⟩
abbrev cX9_rank : ByteArray := prog_1_method_17_code
def yX9_rank : MethodName := ⟨RX9, "rank", "(II)I"⟩
abbrev cX9_span : ByteArray := prog_1_method_18_code
def yX9_span : MethodName := ⟨RX9, "span", "(II)I"⟩
abbrev cX9_ring : ByteArray := prog_1_method_19_code
def yX9_ring : MethodName := ⟨RX9, "ring", "(II)I"⟩
abbrev cX9_exchange : ByteArray := prog_1_method_20_code
def yX9_exchange : MethodName := ⟨RX9, "exchange", "(III)I"⟩
abbrev cX9_full : ByteArray := prog_1_method_21_code
def yX9_full : MethodName := ⟨RX9, "full", "(IZ)I"⟩
abbrev cX9_both : ByteArray := prog_1_method_22_code
def yX9_both : MethodName := ⟨RX9, "both", "(II)I"⟩
abbrev cX9_split : ByteArray := prog_1_method_23_code
def yX9_split : MethodName := ⟨RX9, "split", "(II)I"⟩
abbrev cX9_most : ByteArray := prog_1_method_24_code
def yX9_most : MethodName := ⟨RX9, "most", "(III)I"⟩
abbrev cX9_three : ByteArray := prog_1_method_25_code
def yX9_three : MethodName := ⟨RX9, "three", "(III)I"⟩
abbrev cX9_fewest : ByteArray := prog_1_method_26_code
def yX9_fewest : MethodName := ⟨RX9, "fewest", "(I)I"⟩
abbrev cX9_dealt : ByteArray := prog_1_method_27_code
def yX9_dealt : MethodName := ⟨RX9, "dealt", "(II)I"⟩
abbrev cX9_crowd : ByteArray := prog_1_method_28_code
def yX9_crowd : MethodName := ⟨RX9, "crowd", "(I)I"⟩
abbrev cX9_pack : ByteArray := prog_1_method_29_code
def yX9_pack : MethodName := ⟨RX9, "pack", "(I)I"⟩
abbrev cX9_same : ByteArray := prog_1_method_30_code
def yX9_same : MethodName := ⟨RX9, "same", "(II)I"⟩
abbrev cX9_count : ByteArray := prog_1_method_31_code
def yX9_count : MethodName := ⟨RX9, "count", "(I)I"⟩
abbrev cX9_startAnew : ByteArray := prog_1_method_32_code
def yX9_startAnew : MethodName := ⟨RX9, "startAnew", "(I)V"⟩
abbrev cX9_isThing : ByteArray := prog_1_method_33_code
def yX9_isThing : MethodName := ⟨RX9, "isThing", "(I)Z"⟩
abbrev cX9_isSet : ByteArray := prog_1_method_34_code
def yX9_isSet : MethodName := ⟨RX9, "isSet", "(I)Z"⟩
abbrev cX9_slotAt : ByteArray := prog_1_method_35_code
def yX9_slotAt : MethodName := ⟨RX9, "slotAt", "(I)LIndependenceDesk$Slot;"⟩
abbrev cX9_ruleAt : ByteArray := prog_1_method_36_code
def yX9_ruleAt : MethodName := ⟨RX9, "ruleAt", "(I)LIndependenceDesk$Rule;"⟩
abbrev cX9_slotsWithRow : ByteArray := prog_1_method_37_code
def yX9_slotsWithRow : MethodName := ⟨RX9, "slotsWithRow", "()I"⟩
abbrev cX9_numberRefusal : ByteArray := prog_1_method_38_code
def yX9_numberRefusal : MethodName := ⟨RX9, "numberRefusal", "(II)I"⟩
abbrev cX9_weightOf : ByteArray := prog_1_method_39_code
def yX9_weightOf : MethodName := ⟨RX9, "weightOf", "(I)I"⟩
abbrev cX9_checkFromNumbers : ByteArray := prog_1_method_40_code
def yX9_checkFromNumbers : MethodName := ⟨RX9, "checkFromNumbers", "(I)LIndependenceDesk$Check;"⟩
abbrev cX9_addDerived : ByteArray := prog_1_method_41_code
def yX9_addDerived : MethodName := ⟨RX9, "addDerived", "(IIII)I"⟩
abbrev cX9_addRule : ByteArray := prog_1_method_42_code
def yX9_addRule : MethodName := ⟨RX9, "addRule", "(IIIILIndependenceDesk$Check;)I"⟩
abbrev cX9_thingsThatMayGo : ByteArray := prog_1_method_43_code
def yX9_thingsThatMayGo : MethodName := ⟨RX9, "thingsThatMayGo", "(LIndependenceDesk$Rule;II)I"⟩
abbrev cX9_nextByWeight : ByteArray := prog_1_method_44_code
def yX9_nextByWeight : MethodName := ⟨RX9, "nextByWeight", "(IZ)I"⟩
abbrev cX9_goesAhead : ByteArray := prog_1_method_45_code
def yX9_goesAhead : MethodName := ⟨RX9, "goesAhead", "(IIZ)Z"⟩
abbrev cX9_mostCommon : ByteArray := prog_1_method_46_code
def yX9_mostCommon : MethodName := ⟨RX9, "mostCommon", "(LIndependenceDesk$Rule;LIndependenceDesk$Rule;LIndependenceDesk$Rule;)I"⟩
abbrev cX9_heapsNeeded : ByteArray := prog_1_method_47_code
def yX9_heapsNeeded : MethodName := ⟨RX9, "heapsNeeded", "(LIndependenceDesk$Rule;I)I"⟩
abbrev cX9_mostCrowded : ByteArray := prog_1_method_48_code
def yX9_mostCrowded : MethodName := ⟨RX9, "mostCrowded", "(LIndependenceDesk$Rule;)I"⟩
abbrev cX9_numberInDeal : ByteArray := prog_1_method_49_code
def yX9_numberInDeal : MethodName := ⟨RX9, "numberInDeal", "(LIndependenceDesk$Rule;I)I"⟩
abbrev cX9_heapThatMayTake : ByteArray := prog_1_method_50_code
def yX9_heapThatMayTake : MethodName := ⟨RX9, "heapThatMayTake", "(LIndependenceDesk$Rule;III)I"⟩
abbrev cX9_restCanBeDealt : ByteArray := prog_1_method_51_code
def yX9_restCanBeDealt : MethodName := ⟨RX9, "restCanBeDealt", "(LIndependenceDesk$Rule;III)Z"⟩
abbrev cX9_roomFor : ByteArray := prog_1_method_52_code
def yX9_roomFor : MethodName := ⟨RX9, "roomFor", "(LIndependenceDesk$Rule;III)I"⟩
def RX10 : String := "IndependenceDeskModel"
def TX10 : u_T := fun k => match k with
  | 0 => ("IndependenceDeskModel", "n", "I", false)
  | 1 => ("IndependenceDeskModel", "all", "I", false)
  | 2 => ("IndependenceDeskModel", "weights", "[I", true)
  | 3 => ("IndependenceDeskModel", "rules", "I", false)
  | 4 => ("IndependenceDeskModel", "allowed", "[Z", true)
  | 5 => ("IndependenceDeskModel", "ranks", "[B", true)
  | 6 => ("IndependenceDeskModel", "kinds", "[I", true)
  | 7 => ("IndependenceDeskModel", "firstOf", "[I", true)
  | 8 => ("IndependenceDeskModel", "secondOf", "[I", true)
  | 9 => ("IndependenceDeskModel", "deep", "[I", true)
  | 10 => ("IndependenceDeskModel", "broken", "[I", true)
  | 11 => ("IndependenceDeskModel", "ends", "[I", true)
  | 12 => ("IndependenceDeskModel", "widths", "[I", true)
  | 13 => ("IndependenceDeskModel", "numbers", "[J", true)
  | 14 => ("IndependenceDeskModel", "taken", "[J", true)
  | 15 => ("IndependenceDeskModel", "slot", "I", false)
  | 16 => ("IndependenceDeskModel", "read", "I", false)
  | 17 => ("IndependenceDeskModel", "status", "I", false)
  | 18 => ("IndependenceDeskModel", "told", "[I", true)
  | 19 => ("IndependenceDeskModel", "bounds", "[I", true)
  | 20 => ("IndependenceDeskModel", "group", "[I", true)
  | 21 => ("IndependenceDeskModel", "cells", "[I", true)
  | 22 => ("IndependenceDeskModel", "work", "[I", true)
  | 23 => ("IndependenceDeskModel", "few", "[B", true)
  | 24 => ("IndependenceDeskModel", "deal", "[I", true)
  | _ => ("IndependenceDeskModel", "heap", "[I", true)
def tyX10 : Nat → FieldType := fun k => match k with
  | 0 => .int
  | 1 => .int
  | 2 => .array .int
  | 3 => .int
  | 4 => .array .boolean
  | 5 => .array .byte
  | 6 => .array .int
  | 7 => .array .int
  | 8 => .array .int
  | 9 => .array .int
  | 10 => .array .int
  | 11 => .array .int
  | 12 => .array .int
  | 13 => .array .long
  | 14 => .array .long
  | 15 => .int
  | 16 => .int
  | 17 => .int
  | 18 => .array .int
  | 19 => .array .int
  | 20 => .array .int
  | 21 => .array .int
  | 22 => .array .int
  | 23 => .array .byte
  | 24 => .array .int
  | _ => .array .int
abbrev wsX100 : List Cond := u_ws RX10 TX10 26
theorem nmX10 : ∀ a, a < 26 → ∀ b, b < 26 → a ≠ b → (TX10 a).2.1 ≠ (TX10 b).2.1 := by decide +kernel
theorem tyX10_ok : ∀ k, k < 26 → parseFieldDescriptor (TX10 k).2.2.1 = some (tyX10 k) := by decide +kernel
abbrev cX10_init : ByteArray := prog_12_method_1_code
def yX10_init : MethodName := ⟨RX10, "<init>", "()V"⟩
abbrev cX10_anew : ByteArray := prog_12_method_2_code
def yX10_anew : MethodName := ⟨RX10, "anew", "(I)V"⟩
abbrev cX10_fresh : ByteArray := prog_12_method_3_code
def yX10_fresh : MethodName := ⟨RX10, "fresh", "(I)Z"⟩
abbrev cX10_isThing : ByteArray := prog_12_method_4_code
def yX10_isThing : MethodName := ⟨RX10, "isThing", "(I)Z"⟩
abbrev cX10_isSet : ByteArray := prog_12_method_5_code
def yX10_isSet : MethodName := ⟨RX10, "isSet", "(I)Z"⟩
abbrev cX10_isRule : ByteArray := prog_12_method_6_code
def yX10_isRule : MethodName := ⟨RX10, "isRule", "(I)Z"⟩
abbrev cX10_weight : ByteArray := prog_12_method_7_code
def yX10_weight : MethodName := ⟨RX10, "weight", "(II)I"⟩
abbrev cX10_isSlot : ByteArray := prog_12_method_8_code
def yX10_isSlot : MethodName := ⟨RX10, "isSlot", "(I)Z"⟩
abbrev cX10_row : ByteArray := prog_12_method_9_code
def yX10_row : MethodName := ⟨RX10, "row", "(III)I"⟩
abbrev cX10_tear : ByteArray := prog_12_method_10_code
def yX10_tear : MethodName := ⟨RX10, "tear", "(I)Z"⟩
abbrev cX10_wrong : ByteArray := prog_12_method_11_code
def yX10_wrong : MethodName := ⟨RX10, "wrong", "(II)I"⟩
abbrev cX10_write : ByteArray := prog_12_method_12_code
def yX10_write : MethodName := ⟨RX10, "write", "(IIJ)I"⟩
abbrev cX10_read : ByteArray := prog_12_method_13_code
def yX10_read : MethodName := ⟨RX10, "read", "(II)J"⟩
abbrev cX10_copy : ByteArray := prog_12_method_14_code
def yX10_copy : MethodName := ⟨RX10, "copy", "(IIIII)I"⟩
abbrev cX10_bitsOf : ByteArray := prog_12_method_15_code
def yX10_bitsOf : MethodName := ⟨RX10, "bitsOf", "(I)I"⟩
abbrev cX10_isAllowed : ByteArray := prog_12_method_16_code
def yX10_isAllowed : MethodName := ⟨RX10, "isAllowed", "(II)Z"⟩
abbrev cX10_rankOf : ByteArray := prog_12_method_17_code
def yX10_rankOf : MethodName := ⟨RX10, "rankOf", "(II)I"⟩
abbrev cX10_made : ByteArray := prog_12_method_18_code
def yX10_made : MethodName := ⟨RX10, "made", "(IIII)I"⟩
abbrev cX10_next : ByteArray := prog_12_method_19_code
def yX10_next : MethodName := ⟨RX10, "next", "(JJ)I"⟩
abbrev cX10_rule : ByteArray := prog_12_method_20_code
def yX10_rule : MethodName := ⟨RX10, "rule", "(II)I"⟩
abbrev cX10_allow : ByteArray := prog_12_method_21_code
def yX10_allow : MethodName := ⟨RX10, "allow", "(I)V"⟩
abbrev cX10_readsTold : ByteArray := prog_12_method_22_code
def yX10_readsTold : MethodName := ⟨RX10, "readsTold", "()V"⟩
abbrev cX10_breaks : ByteArray := prog_12_method_23_code
def yX10_breaks : MethodName := ⟨RX10, "breaks", "(III)Z"⟩
abbrev cX10_breaks_ : ByteArray := prog_12_method_24_code
def yX10_breaks_ : MethodName := ⟨RX10, "breaks", "()Z"⟩
abbrev cX10_readsEven : ByteArray := prog_12_method_25_code
def yX10_readsEven : MethodName := ⟨RX10, "readsEven", "()V"⟩
abbrev cX10_readsParts : ByteArray := prog_12_method_26_code
def yX10_readsParts : MethodName := ⟨RX10, "readsParts", "()V"⟩
abbrev cX10_readsNested : ByteArray := prog_12_method_27_code
def yX10_readsNested : MethodName := ⟨RX10, "readsNested", "()V"⟩
abbrev cX10_readsEdges : ByteArray := prog_12_method_28_code
def yX10_readsEdges : MethodName := ⟨RX10, "readsEdges", "()V"⟩
abbrev cX10_readsRows : ByteArray := prog_12_method_29_code
def yX10_readsRows : MethodName := ⟨RX10, "readsRows", "()V"⟩
abbrev cX10_isFree : ByteArray := prog_12_method_30_code
def yX10_isFree : MethodName := ⟨RX10, "isFree", "(III)Z"⟩
abbrev cX10_lead : ByteArray := prog_12_method_31_code
def yX10_lead : MethodName := ⟨RX10, "lead", "(II)I"⟩
abbrev cX10_readsPlaces : ByteArray := prog_12_method_32_code
def yX10_readsPlaces : MethodName := ⟨RX10, "readsPlaces", "()V"⟩
abbrev cX10_refused : ByteArray := prog_12_method_33_code
def yX10_refused : MethodName := ⟨RX10, "refused", "(II)I"⟩
abbrev cX10_table : ByteArray := prog_12_method_34_code
def yX10_table : MethodName := ⟨RX10, "table", "(IZ)V"⟩
abbrev cX10_less : ByteArray := prog_12_method_35_code
def yX10_less : MethodName := ⟨RX10, "less", "(II)I"⟩
abbrev cX10_take : ByteArray := prog_12_method_36_code
def yX10_take : MethodName := ⟨RX10, "take", "(II)I"⟩
abbrev cX10_turn : ByteArray := prog_12_method_37_code
def yX10_turn : MethodName := ⟨RX10, "turn", "(I)I"⟩
abbrev cX10_join : ByteArray := prog_12_method_38_code
def yX10_join : MethodName := ⟨RX10, "join", "(II)I"⟩
abbrev cX10_broken : ByteArray := prog_12_method_39_code
def yX10_broken : MethodName := ⟨RX10, "broken", "(I)I"⟩
abbrev cX10_look : ByteArray := prog_12_method_40_code
def yX10_look : MethodName := ⟨RX10, "look", "(II)I"⟩
abbrev cX10_allows : ByteArray := prog_12_method_41_code
def yX10_allows : MethodName := ⟨RX10, "allows", "(II)I"⟩
abbrev cX10_rank : ByteArray := prog_12_method_42_code
def yX10_rank : MethodName := ⟨RX10, "rank", "(II)I"⟩
abbrev cX10_span : ByteArray := prog_12_method_43_code
def yX10_span : MethodName := ⟨RX10, "span", "(II)I"⟩
abbrev cX10_ring : ByteArray := prog_12_method_44_code
def yX10_ring : MethodName := ⟨RX10, "ring", "(II)I"⟩
abbrev cX10_exchange : ByteArray := prog_12_method_45_code
def yX10_exchange : MethodName := ⟨RX10, "exchange", "(III)I"⟩
abbrev cX10_weightOf : ByteArray := prog_12_method_46_code
def yX10_weightOf : MethodName := ⟨RX10, "weightOf", "(I)I"⟩
abbrev cX10_isBetter : ByteArray := prog_12_method_47_code
def yX10_isBetter : MethodName := ⟨RX10, "isBetter", "(IIZ)Z"⟩
abbrev cX10_isFull : ByteArray := prog_12_method_48_code
def yX10_isFull : MethodName := ⟨RX10, "isFull", "(II)Z"⟩
abbrev cX10_full : ByteArray := prog_12_method_49_code
def yX10_full : MethodName := ⟨RX10, "full", "(IZ)I"⟩
abbrev cX10_both : ByteArray := prog_12_method_50_code
def yX10_both : MethodName := ⟨RX10, "both", "(II)I"⟩
abbrev cX10_split : ByteArray := prog_12_method_51_code
def yX10_split : MethodName := ⟨RX10, "split", "(II)I"⟩
abbrev cX10_most : ByteArray := prog_12_method_52_code
def yX10_most : MethodName := ⟨RX10, "most", "(III)I"⟩
abbrev cX10_three : ByteArray := prog_12_method_53_code
def yX10_three : MethodName := ⟨RX10, "three", "(III)I"⟩
abbrev cX10_undealt : ByteArray := prog_12_method_54_code
def yX10_undealt : MethodName := ⟨RX10, "undealt", "(I)I"⟩
abbrev cX10_fewestOf : ByteArray := prog_12_method_55_code
def yX10_fewestOf : MethodName := ⟨RX10, "fewestOf", "(I)I"⟩
abbrev cX10_fewest : ByteArray := prog_12_method_56_code
def yX10_fewest : MethodName := ⟨RX10, "fewest", "(I)I"⟩
abbrev cX10_deals : ByteArray := prog_12_method_57_code
def yX10_deals : MethodName := ⟨RX10, "deals", "(III)Z"⟩
abbrev cX10_dealt : ByteArray := prog_12_method_58_code
def yX10_dealt : MethodName := ⟨RX10, "dealt", "(II)I"⟩
abbrev cX10_crowd : ByteArray := prog_12_method_59_code
def yX10_crowd : MethodName := ⟨RX10, "crowd", "(I)I"⟩
abbrev cX10_pack : ByteArray := prog_12_method_60_code
def yX10_pack : MethodName := ⟨RX10, "pack", "(I)I"⟩
abbrev cX10_same : ByteArray := prog_12_method_61_code
def yX10_same : MethodName := ⟨RX10, "same", "(II)I"⟩
abbrev cX10_count : ByteArray := prog_12_method_62_code
def yX10_count : MethodName := ⟨RX10, "count", "(I)I"⟩
def RJ6 : String := "java/lang/Integer"
abbrev cJ6_bitCount_0f7a4 : ByteArray := prog_13_method_49_code
def yJ6_bitCount_0f7a4 : MethodName := ⟨RJ6, "bitCount", "(I)I"⟩
def RJ9 : String := "java/lang/Math"
abbrev cJ9_floorMod_7cf53 : ByteArray := prog_14_method_50_code
def yJ9_floorMod_7cf53 : MethodName := ⟨RJ9, "floorMod", "(II)I"⟩
abbrev cJ9_max_7cf53 : ByteArray := prog_14_method_65_code
def yJ9_max_7cf53 : MethodName := ⟨RJ9, "max", "(II)I"⟩
abbrev cJ9_min_7cf53 : ByteArray := prog_14_method_69_code
def yJ9_min_7cf53 : MethodName := ⟨RJ9, "min", "(II)I"⟩
def RJ10 : String := "java/lang/System"
def RL : String := "IndependenceDeskLaw"
abbrev cL_law : ByteArray := code
def yL_law : MethodName := ⟨RL, "law", "([I)Z"⟩
abbrev vwCl : List vw_C := [(RX0, TX0, 3), (RX2, TX2, 5), (RX3, TX3, 2), (RX4, TX4, 3), (RX5, TX5, 5), (RX6, TX6, 3), (RX7, TX7, 6), (RX8, TX8, 5), (RX9, TX9, 12), (RX10, TX10, 26)]
end
section
theorem dX0_init_0 : decode cX0_init 0 = .ok (.aload_n 0, 1) := by decide +kernel
theorem dX0_init_1 : decode cX0_init 1 = .ok (.invokespecial 3, 3) := by decide +kernel
theorem dX0_init_4 : decode cX0_init 4 = .ok (.aload_n 0, 1) := by decide +kernel
theorem dX0_init_5 : decode cX0_init 5 = .ok (.bipush 40, 2) := by decide +kernel
theorem dX0_init_7 : decode cX0_init 7 = .ok (.newarray .int, 2) := by decide +kernel
theorem dX0_init_9 : decode cX0_init 9 = .ok (.putfield 9, 3) := by decide +kernel
theorem dX0_init_12 : decode cX0_init 12 = .ok (.aload_n 0, 1) := by decide +kernel
theorem dX0_init_13 : decode cX0_init 13 = .ok (.bipush 40, 2) := by decide +kernel
theorem dX0_init_15 : decode cX0_init 15 = .ok (.newarray .int, 2) := by decide +kernel
theorem dX0_init_17 : decode cX0_init 17 = .ok (.putfield 15, 3) := by decide +kernel
theorem dX0_init_20 : decode cX0_init 20 = .ok (.return_, 1) := by decide +kernel
theorem dX0_readEven_0 : decode cX0_readEven 0 = .ok (.aload_n 0, 1) := by decide +kernel
theorem dX0_readEven_1 : decode cX0_readEven 1 = .ok (.iconst 1, 1) := by decide +kernel
theorem dX0_readEven_2 : decode cX0_readEven 2 = .ok (.putfield 18, 3) := by decide +kernel
theorem dX0_readEven_5 : decode cX0_readEven 5 = .ok (.aload_n 0, 1) := by decide +kernel
theorem dX0_readEven_6 : decode cX0_readEven 6 = .ok (.getfield 9, 3) := by decide +kernel
theorem dX0_readEven_9 : decode cX0_readEven 9 = .ok (.iconst 0, 1) := by decide +kernel
theorem dX0_readEven_10 : decode cX0_readEven 10 = .ok (.iload_n 2, 1) := by decide +kernel
theorem dX0_readEven_11 : decode cX0_readEven 11 = .ok (.iastore, 1) := by decide +kernel
theorem dX0_readEven_12 : decode cX0_readEven 12 = .ok (.aload_n 0, 1) := by decide +kernel
theorem dX0_readEven_13 : decode cX0_readEven 13 = .ok (.getfield 15, 3) := by decide +kernel
theorem dX0_readEven_16 : decode cX0_readEven 16 = .ok (.iconst 0, 1) := by decide +kernel
theorem dX0_readEven_17 : decode cX0_readEven 17 = .ok (.aload_n 1, 1) := by decide +kernel
theorem dX0_readEven_18 : decode cX0_readEven 18 = .ok (.iconst 0, 1) := by decide +kernel
theorem dX0_readEven_19 : decode cX0_readEven 19 = .ok (.bipush 12, 2) := by decide +kernel
theorem dX0_readEven_21 : decode cX0_readEven 21 = .ok (.invokevirtual 22, 3) := by decide +kernel
theorem dX0_readEven_24 : decode cX0_readEven 24 = .ok (.iastore, 1) := by decide +kernel
theorem dX0_readEven_25 : decode cX0_readEven 25 = .ok (.return_, 1) := by decide +kernel
theorem dX0_readParts_0 : decode cX0_readParts 0 = .ok (.iconst 0, 1) := by decide +kernel
theorem dX0_readParts_1 : decode cX0_readParts 1 = .ok (.istore_n 3, 1) := by decide +kernel
theorem dX0_readParts_2 : decode cX0_readParts 2 = .ok (.iload_n 3, 1) := by decide +kernel
theorem dX0_readParts_3 : decode cX0_readParts 3 = .ok (.aload_n 0, 1) := by decide +kernel
theorem dX0_readParts_4 : decode cX0_readParts 4 = .ok (.getfield 9, 3) := by decide +kernel
theorem dX0_readParts_7 : decode cX0_readParts 7 = .ok (.arraylength, 1) := by decide +kernel
theorem dX0_readParts_8 : decode cX0_readParts 8 = .ok (.if_icmp .ge 16, 3) := by decide +kernel
theorem dX0_readParts_11 : decode cX0_readParts 11 = .ok (.aload_n 0, 1) := by decide +kernel
theorem dX0_readParts_12 : decode cX0_readParts 12 = .ok (.getfield 9, 3) := by decide +kernel
theorem dX0_readParts_15 : decode cX0_readParts 15 = .ok (.iload_n 3, 1) := by decide +kernel
theorem dX0_readParts_16 : decode cX0_readParts 16 = .ok (.iconst 0, 1) := by decide +kernel
theorem dX0_readParts_17 : decode cX0_readParts 17 = .ok (.iastore, 1) := by decide +kernel
theorem dX0_readParts_18 : decode cX0_readParts 18 = .ok (.iinc 3 1, 3) := by decide +kernel
theorem dX0_readParts_21 : decode cX0_readParts 21 = .ok (.goto (-19), 3) := by decide +kernel
theorem dX0_readParts_24 : decode cX0_readParts 24 = .ok (.aload_n 0, 1) := by decide +kernel
theorem dX0_readParts_25 : decode cX0_readParts 25 = .ok (.iconst 0, 1) := by decide +kernel
theorem dX0_readParts_26 : decode cX0_readParts 26 = .ok (.putfield 18, 3) := by decide +kernel
theorem dX0_readParts_29 : decode cX0_readParts 29 = .ok (.iconst 0, 1) := by decide +kernel
theorem dX0_readParts_30 : decode cX0_readParts 30 = .ok (.istore_n 3, 1) := by decide +kernel
theorem dX0_readParts_31 : decode cX0_readParts 31 = .ok (.iload_n 3, 1) := by decide +kernel
theorem dX0_readParts_32 : decode cX0_readParts 32 = .ok (.iload_n 2, 1) := by decide +kernel
theorem dX0_readParts_33 : decode cX0_readParts 33 = .ok (.if_icmp .ge 46, 3) := by decide +kernel
theorem dX0_readParts_36 : decode cX0_readParts 36 = .ok (.aload_n 1, 1) := by decide +kernel
theorem dX0_readParts_37 : decode cX0_readParts 37 = .ok (.iconst 0, 1) := by decide +kernel
theorem dX0_readParts_38 : decode cX0_readParts 38 = .ok (.bipush 11, 2) := by decide +kernel
theorem dX0_readParts_40 : decode cX0_readParts 40 = .ok (.invokevirtual 22, 3) := by decide +kernel
theorem dX0_readParts_43 : decode cX0_readParts 43 = .ok (.istore 4, 2) := by decide +kernel
theorem dX0_readParts_45 : decode cX0_readParts 45 = .ok (.aload_n 0, 1) := by decide +kernel
theorem dX0_readParts_46 : decode cX0_readParts 46 = .ok (.getfield 9, 3) := by decide +kernel
theorem dX0_readParts_49 : decode cX0_readParts 49 = .ok (.iload 4, 2) := by decide +kernel
theorem dX0_readParts_51 : decode cX0_readParts 51 = .ok (.dup2, 1) := by decide +kernel
theorem dX0_readParts_52 : decode cX0_readParts 52 = .ok (.iaload, 1) := by decide +kernel
theorem dX0_readParts_53 : decode cX0_readParts 53 = .ok (.iconst 1, 1) := by decide +kernel
theorem dX0_readParts_54 : decode cX0_readParts 54 = .ok (.iload_n 3, 1) := by decide +kernel
theorem dX0_readParts_55 : decode cX0_readParts 55 = .ok (.ishl, 1) := by decide +kernel
theorem dX0_readParts_56 : decode cX0_readParts 56 = .ok (.ior, 1) := by decide +kernel
theorem dX0_readParts_57 : decode cX0_readParts 57 = .ok (.iastore, 1) := by decide +kernel
theorem dX0_readParts_58 : decode cX0_readParts 58 = .ok (.aload_n 0, 1) := by decide +kernel
theorem dX0_readParts_59 : decode cX0_readParts 59 = .ok (.aload_n 0, 1) := by decide +kernel
theorem dX0_readParts_60 : decode cX0_readParts 60 = .ok (.getfield 18, 3) := by decide +kernel
theorem dX0_readParts_63 : decode cX0_readParts 63 = .ok (.iload 4, 2) := by decide +kernel
theorem dX0_readParts_65 : decode cX0_readParts 65 = .ok (.iconst 1, 1) := by decide +kernel
theorem dX0_readParts_66 : decode cX0_readParts 66 = .ok (.iadd, 1) := by decide +kernel
theorem dX0_readParts_67 : decode cX0_readParts 67 = .ok (.invokestatic 28, 3) := by decide +kernel
theorem dX0_readParts_70 : decode cX0_readParts 70 = .ok (.putfield 18, 3) := by decide +kernel
theorem dX0_readParts_73 : decode cX0_readParts 73 = .ok (.iinc 3 1, 3) := by decide +kernel
theorem dX0_readParts_76 : decode cX0_readParts 76 = .ok (.goto (-45), 3) := by decide +kernel
theorem dX0_readParts_79 : decode cX0_readParts 79 = .ok (.iconst 0, 1) := by decide +kernel
theorem dX0_readParts_80 : decode cX0_readParts 80 = .ok (.istore_n 3, 1) := by decide +kernel
theorem dX0_readParts_81 : decode cX0_readParts 81 = .ok (.iload_n 3, 1) := by decide +kernel
theorem dX0_readParts_82 : decode cX0_readParts 82 = .ok (.aload_n 0, 1) := by decide +kernel
theorem dX0_readParts_83 : decode cX0_readParts 83 = .ok (.getfield 18, 3) := by decide +kernel
theorem dX0_readParts_86 : decode cX0_readParts 86 = .ok (.if_icmp .ge 22, 3) := by decide +kernel
theorem dX0_readParts_89 : decode cX0_readParts 89 = .ok (.aload_n 0, 1) := by decide +kernel
theorem dX0_readParts_90 : decode cX0_readParts 90 = .ok (.getfield 15, 3) := by decide +kernel
theorem dX0_readParts_93 : decode cX0_readParts 93 = .ok (.iload_n 3, 1) := by decide +kernel
theorem dX0_readParts_94 : decode cX0_readParts 94 = .ok (.aload_n 1, 1) := by decide +kernel
theorem dX0_readParts_95 : decode cX0_readParts 95 = .ok (.iconst 0, 1) := by decide +kernel
theorem dX0_readParts_96 : decode cX0_readParts 96 = .ok (.bipush 12, 2) := by decide +kernel
theorem dX0_readParts_98 : decode cX0_readParts 98 = .ok (.invokevirtual 22, 3) := by decide +kernel
theorem dX0_readParts_101 : decode cX0_readParts 101 = .ok (.iastore, 1) := by decide +kernel
theorem dX0_readParts_102 : decode cX0_readParts 102 = .ok (.iinc 3 1, 3) := by decide +kernel
theorem dX0_readParts_105 : decode cX0_readParts 105 = .ok (.goto (-24), 3) := by decide +kernel
theorem dX0_readParts_108 : decode cX0_readParts 108 = .ok (.return_, 1) := by decide +kernel
theorem dX0_readNested_0 : decode cX0_readNested 0 = .ok (.aload_n 0, 1) := by decide +kernel
theorem dX0_readNested_1 : decode cX0_readNested 1 = .ok (.aload_n 1, 1) := by decide +kernel
theorem dX0_readNested_2 : decode cX0_readNested 2 = .ok (.iconst 0, 1) := by decide +kernel
theorem dX0_readNested_3 : decode cX0_readNested 3 = .ok (.bipush 40, 2) := by decide +kernel
theorem dX0_readNested_5 : decode cX0_readNested 5 = .ok (.invokevirtual 22, 3) := by decide +kernel
theorem dX0_readNested_8 : decode cX0_readNested 8 = .ok (.putfield 18, 3) := by decide +kernel
theorem dX0_readNested_11 : decode cX0_readNested 11 = .ok (.iconst 0, 1) := by decide +kernel
theorem dX0_readNested_12 : decode cX0_readNested 12 = .ok (.istore_n 3, 1) := by decide +kernel
theorem dX0_readNested_13 : decode cX0_readNested 13 = .ok (.iload_n 3, 1) := by decide +kernel
theorem dX0_readNested_14 : decode cX0_readNested 14 = .ok (.aload_n 0, 1) := by decide +kernel
theorem dX0_readNested_15 : decode cX0_readNested 15 = .ok (.getfield 18, 3) := by decide +kernel
theorem dX0_readNested_18 : decode cX0_readNested 18 = .ok (.if_icmp .ge 34, 3) := by decide +kernel
theorem dX0_readNested_21 : decode cX0_readNested 21 = .ok (.aload_n 0, 1) := by decide +kernel
theorem dX0_readNested_22 : decode cX0_readNested 22 = .ok (.getfield 9, 3) := by decide +kernel
theorem dX0_readNested_25 : decode cX0_readNested 25 = .ok (.iload_n 3, 1) := by decide +kernel
theorem dX0_readNested_26 : decode cX0_readNested 26 = .ok (.aload_n 1, 1) := by decide +kernel
theorem dX0_readNested_27 : decode cX0_readNested 27 = .ok (.iconst 0, 1) := by decide +kernel
theorem dX0_readNested_28 : decode cX0_readNested 28 = .ok (.iload_n 2, 1) := by decide +kernel
theorem dX0_readNested_29 : decode cX0_readNested 29 = .ok (.invokevirtual 22, 3) := by decide +kernel
theorem dX0_readNested_32 : decode cX0_readNested 32 = .ok (.iastore, 1) := by decide +kernel
theorem dX0_readNested_33 : decode cX0_readNested 33 = .ok (.aload_n 0, 1) := by decide +kernel
theorem dX0_readNested_34 : decode cX0_readNested 34 = .ok (.getfield 15, 3) := by decide +kernel
theorem dX0_readNested_37 : decode cX0_readNested 37 = .ok (.iload_n 3, 1) := by decide +kernel
theorem dX0_readNested_38 : decode cX0_readNested 38 = .ok (.aload_n 1, 1) := by decide +kernel
theorem dX0_readNested_39 : decode cX0_readNested 39 = .ok (.iconst 0, 1) := by decide +kernel
theorem dX0_readNested_40 : decode cX0_readNested 40 = .ok (.bipush 12, 2) := by decide +kernel
theorem dX0_readNested_42 : decode cX0_readNested 42 = .ok (.invokevirtual 22, 3) := by decide +kernel
theorem dX0_readNested_45 : decode cX0_readNested 45 = .ok (.iastore, 1) := by decide +kernel
theorem dX0_readNested_46 : decode cX0_readNested 46 = .ok (.iinc 3 1, 3) := by decide +kernel
theorem dX0_readNested_49 : decode cX0_readNested 49 = .ok (.goto (-36), 3) := by decide +kernel
theorem dX0_readNested_52 : decode cX0_readNested 52 = .ok (.return_, 1) := by decide +kernel
theorem dX0_lieNested_0 : decode cX0_lieNested 0 = .ok (.iconst 0, 1) := by decide +kernel
theorem dX0_lieNested_1 : decode cX0_lieNested 1 = .ok (.istore_n 1, 1) := by decide +kernel
theorem dX0_lieNested_2 : decode cX0_lieNested 2 = .ok (.iload_n 1, 1) := by decide +kernel
theorem dX0_lieNested_3 : decode cX0_lieNested 3 = .ok (.aload_n 0, 1) := by decide +kernel
theorem dX0_lieNested_4 : decode cX0_lieNested 4 = .ok (.getfield 18, 3) := by decide +kernel
theorem dX0_lieNested_7 : decode cX0_lieNested 7 = .ok (.if_icmp .ge 62, 3) := by decide +kernel
theorem dX0_lieNested_10 : decode cX0_lieNested 10 = .ok (.iconst 0, 1) := by decide +kernel
theorem dX0_lieNested_11 : decode cX0_lieNested 11 = .ok (.istore_n 2, 1) := by decide +kernel
theorem dX0_lieNested_12 : decode cX0_lieNested 12 = .ok (.iload_n 2, 1) := by decide +kernel
theorem dX0_lieNested_13 : decode cX0_lieNested 13 = .ok (.iload_n 1, 1) := by decide +kernel
theorem dX0_lieNested_14 : decode cX0_lieNested 14 = .ok (.if_icmp .ge 49, 3) := by decide +kernel
theorem dX0_lieNested_17 : decode cX0_lieNested 17 = .ok (.aload_n 0, 1) := by decide +kernel
theorem dX0_lieNested_18 : decode cX0_lieNested 18 = .ok (.getfield 9, 3) := by decide +kernel
theorem dX0_lieNested_21 : decode cX0_lieNested 21 = .ok (.iload_n 1, 1) := by decide +kernel
theorem dX0_lieNested_22 : decode cX0_lieNested 22 = .ok (.iaload, 1) := by decide +kernel
theorem dX0_lieNested_23 : decode cX0_lieNested 23 = .ok (.aload_n 0, 1) := by decide +kernel
theorem dX0_lieNested_24 : decode cX0_lieNested 24 = .ok (.getfield 9, 3) := by decide +kernel
theorem dX0_lieNested_27 : decode cX0_lieNested 27 = .ok (.iload_n 2, 1) := by decide +kernel
theorem dX0_lieNested_28 : decode cX0_lieNested 28 = .ok (.iaload, 1) := by decide +kernel
theorem dX0_lieNested_29 : decode cX0_lieNested 29 = .ok (.iand, 1) := by decide +kernel
theorem dX0_lieNested_30 : decode cX0_lieNested 30 = .ok (.istore_n 3, 1) := by decide +kernel
theorem dX0_lieNested_31 : decode cX0_lieNested 31 = .ok (.iload_n 3, 1) := by decide +kernel
theorem dX0_lieNested_32 : decode cX0_lieNested 32 = .ok (.ifCond .eq 25, 3) := by decide +kernel
theorem dX0_lieNested_35 : decode cX0_lieNested 35 = .ok (.iload_n 3, 1) := by decide +kernel
theorem dX0_lieNested_36 : decode cX0_lieNested 36 = .ok (.aload_n 0, 1) := by decide +kernel
theorem dX0_lieNested_37 : decode cX0_lieNested 37 = .ok (.getfield 9, 3) := by decide +kernel
theorem dX0_lieNested_40 : decode cX0_lieNested 40 = .ok (.iload_n 1, 1) := by decide +kernel
theorem dX0_lieNested_41 : decode cX0_lieNested 41 = .ok (.iaload, 1) := by decide +kernel
theorem dX0_lieNested_42 : decode cX0_lieNested 42 = .ok (.if_icmp .eq 15, 3) := by decide +kernel
theorem dX0_lieNested_45 : decode cX0_lieNested 45 = .ok (.iload_n 3, 1) := by decide +kernel
theorem dX0_lieNested_46 : decode cX0_lieNested 46 = .ok (.aload_n 0, 1) := by decide +kernel
theorem dX0_lieNested_47 : decode cX0_lieNested 47 = .ok (.getfield 9, 3) := by decide +kernel
theorem dX0_lieNested_50 : decode cX0_lieNested 50 = .ok (.iload_n 2, 1) := by decide +kernel
theorem dX0_lieNested_51 : decode cX0_lieNested 51 = .ok (.iaload, 1) := by decide +kernel
theorem dX0_lieNested_52 : decode cX0_lieNested 52 = .ok (.if_icmp .eq 5, 3) := by decide +kernel
theorem dX0_lieNested_55 : decode cX0_lieNested 55 = .ok (.iconst 0, 1) := by decide +kernel
theorem dX0_lieNested_56 : decode cX0_lieNested 56 = .ok (.ireturn, 1) := by decide +kernel
theorem dX0_lieNested_57 : decode cX0_lieNested 57 = .ok (.iinc 2 1, 3) := by decide +kernel
theorem dX0_lieNested_60 : decode cX0_lieNested 60 = .ok (.goto (-48), 3) := by decide +kernel
theorem dX0_lieNested_63 : decode cX0_lieNested 63 = .ok (.iinc 1 1, 3) := by decide +kernel
theorem dX0_lieNested_66 : decode cX0_lieNested 66 = .ok (.goto (-64), 3) := by decide +kernel
theorem dX0_lieNested_69 : decode cX0_lieNested 69 = .ok (.iconst 1, 1) := by decide +kernel
theorem dX0_lieNested_70 : decode cX0_lieNested 70 = .ok (.ireturn, 1) := by decide +kernel
theorem dX0_fits_0 : decode cX0_fits 0 = .ok (.iconst 0, 1) := by decide +kernel
theorem dX0_fits_1 : decode cX0_fits 1 = .ok (.istore_n 2, 1) := by decide +kernel
theorem dX0_fits_2 : decode cX0_fits 2 = .ok (.iload_n 2, 1) := by decide +kernel
theorem dX0_fits_3 : decode cX0_fits 3 = .ok (.aload_n 0, 1) := by decide +kernel
theorem dX0_fits_4 : decode cX0_fits 4 = .ok (.getfield 18, 3) := by decide +kernel
theorem dX0_fits_7 : decode cX0_fits 7 = .ok (.if_icmp .ge 31, 3) := by decide +kernel
theorem dX0_fits_10 : decode cX0_fits 10 = .ok (.iload_n 1, 1) := by decide +kernel
theorem dX0_fits_11 : decode cX0_fits 11 = .ok (.aload_n 0, 1) := by decide +kernel
theorem dX0_fits_12 : decode cX0_fits 12 = .ok (.getfield 9, 3) := by decide +kernel
theorem dX0_fits_15 : decode cX0_fits 15 = .ok (.iload_n 2, 1) := by decide +kernel
theorem dX0_fits_16 : decode cX0_fits 16 = .ok (.iaload, 1) := by decide +kernel
theorem dX0_fits_17 : decode cX0_fits 17 = .ok (.iand, 1) := by decide +kernel
theorem dX0_fits_18 : decode cX0_fits 18 = .ok (.invokestatic 33, 3) := by decide +kernel
theorem dX0_fits_21 : decode cX0_fits 21 = .ok (.aload_n 0, 1) := by decide +kernel
theorem dX0_fits_22 : decode cX0_fits 22 = .ok (.getfield 15, 3) := by decide +kernel
theorem dX0_fits_25 : decode cX0_fits 25 = .ok (.iload_n 2, 1) := by decide +kernel
theorem dX0_fits_26 : decode cX0_fits 26 = .ok (.iaload, 1) := by decide +kernel
theorem dX0_fits_27 : decode cX0_fits 27 = .ok (.if_icmp .le 5, 3) := by decide +kernel
theorem dX0_fits_30 : decode cX0_fits 30 = .ok (.iconst 0, 1) := by decide +kernel
theorem dX0_fits_31 : decode cX0_fits 31 = .ok (.ireturn, 1) := by decide +kernel
theorem dX0_fits_32 : decode cX0_fits 32 = .ok (.iinc 2 1, 3) := by decide +kernel
theorem dX0_fits_35 : decode cX0_fits 35 = .ok (.goto (-33), 3) := by decide +kernel
theorem dX0_fits_38 : decode cX0_fits 38 = .ok (.iconst 1, 1) := by decide +kernel
theorem dX0_fits_39 : decode cX0_fits 39 = .ok (.ireturn, 1) := by decide +kernel
theorem dX2_init_0 : decode cX2_init 0 = .ok (.aload_n 0, 1) := by decide +kernel
theorem dX2_init_1 : decode cX2_init 1 = .ok (.invokespecial 3, 3) := by decide +kernel
theorem dX2_init_4 : decode cX2_init 4 = .ok (.aload_n 0, 1) := by decide +kernel
theorem dX2_init_5 : decode cX2_init 5 = .ok (.iload_n 1, 1) := by decide +kernel
theorem dX2_init_6 : decode cX2_init 6 = .ok (.putfield 9, 3) := by decide +kernel
theorem dX2_init_9 : decode cX2_init 9 = .ok (.aload_n 0, 1) := by decide +kernel
theorem dX2_init_10 : decode cX2_init 10 = .ok (.aload_n 2, 1) := by decide +kernel
theorem dX2_init_11 : decode cX2_init 11 = .ok (.putfield 15, 3) := by decide +kernel
theorem dX2_init_14 : decode cX2_init 14 = .ok (.aload_n 0, 1) := by decide +kernel
theorem dX2_init_15 : decode cX2_init 15 = .ok (.aload_n 3, 1) := by decide +kernel
theorem dX2_init_16 : decode cX2_init 16 = .ok (.putfield 19, 3) := by decide +kernel
theorem dX2_init_19 : decode cX2_init 19 = .ok (.aload_n 0, 1) := by decide +kernel
theorem dX2_init_20 : decode cX2_init 20 = .ok (.iload 4, 2) := by decide +kernel
theorem dX2_init_22 : decode cX2_init 22 = .ok (.putfield 22, 3) := by decide +kernel
theorem dX2_init_25 : decode cX2_init 25 = .ok (.aload_n 0, 1) := by decide +kernel
theorem dX2_init_26 : decode cX2_init 26 = .ok (.iload 5, 2) := by decide +kernel
theorem dX2_init_28 : decode cX2_init 28 = .ok (.putfield 25, 3) := by decide +kernel
theorem dX2_init_31 : decode cX2_init 31 = .ok (.return_, 1) := by decide +kernel
theorem dX2_fits_0 : decode cX2_fits 0 = .ok (.iload_n 1, 1) := by decide +kernel
theorem dX2_fits_1 : decode cX2_fits 1 = .ok (.invokestatic 28, 3) := by decide +kernel
theorem dX2_fits_4 : decode cX2_fits 4 = .ok (.istore_n 2, 1) := by decide +kernel
theorem dX2_fits_5 : decode cX2_fits 5 = .ok (.aload_n 0, 1) := by decide +kernel
theorem dX2_fits_6 : decode cX2_fits 6 = .ok (.getfield 9, 3) := by decide +kernel
theorem dX2_fits_9 : decode cX2_fits 9 = .ok (.tableswitch 133 7 9 #[27, 54, 98], 27) := by decide +kernel
theorem dX2_fits_36 : decode cX2_fits 36 = .ok (.iload_n 1, 1) := by decide +kernel
theorem dX2_fits_37 : decode cX2_fits 37 = .ok (.aload_n 0, 1) := by decide +kernel
theorem dX2_fits_38 : decode cX2_fits 38 = .ok (.getfield 22, 3) := by decide +kernel
theorem dX2_fits_41 : decode cX2_fits 41 = .ok (.iand, 1) := by decide +kernel
theorem dX2_fits_42 : decode cX2_fits 42 = .ok (.ifCond .ne 19, 3) := by decide +kernel
theorem dX2_fits_45 : decode cX2_fits 45 = .ok (.aload_n 0, 1) := by decide +kernel
theorem dX2_fits_46 : decode cX2_fits 46 = .ok (.getfield 15, 3) := by decide +kernel
theorem dX2_fits_49 : decode cX2_fits 49 = .ok (.iload_n 1, 1) := by decide +kernel
theorem dX2_fits_50 : decode cX2_fits 50 = .ok (.invokevirtual 34, 3) := by decide +kernel
theorem dX2_fits_53 : decode cX2_fits 53 = .ok (.iload_n 2, 1) := by decide +kernel
theorem dX2_fits_54 : decode cX2_fits 54 = .ok (.if_icmp .ne 7, 3) := by decide +kernel
theorem dX2_fits_57 : decode cX2_fits 57 = .ok (.iconst 1, 1) := by decide +kernel
theorem dX2_fits_58 : decode cX2_fits 58 = .ok (.goto 4, 3) := by decide +kernel
theorem dX2_fits_61 : decode cX2_fits 61 = .ok (.iconst 0, 1) := by decide +kernel
theorem dX2_fits_62 : decode cX2_fits 62 = .ok (.ireturn, 1) := by decide +kernel
theorem dX2_fits_63 : decode cX2_fits 63 = .ok (.iload_n 1, 1) := by decide +kernel
theorem dX2_fits_64 : decode cX2_fits 64 = .ok (.aload_n 0, 1) := by decide +kernel
theorem dX2_fits_65 : decode cX2_fits 65 = .ok (.getfield 22, 3) := by decide +kernel
theorem dX2_fits_68 : decode cX2_fits 68 = .ok (.iand, 1) := by decide +kernel
theorem dX2_fits_69 : decode cX2_fits 69 = .ok (.ifCond .ne 36, 3) := by decide +kernel
theorem dX2_fits_72 : decode cX2_fits 72 = .ok (.aload_n 0, 1) := by decide +kernel
theorem dX2_fits_73 : decode cX2_fits 73 = .ok (.getfield 15, 3) := by decide +kernel
theorem dX2_fits_76 : decode cX2_fits 76 = .ok (.iload_n 1, 1) := by decide +kernel
theorem dX2_fits_77 : decode cX2_fits 77 = .ok (.aload_n 0, 1) := by decide +kernel
theorem dX2_fits_78 : decode cX2_fits 78 = .ok (.getfield 22, 3) := by decide +kernel
theorem dX2_fits_81 : decode cX2_fits 81 = .ok (.ior, 1) := by decide +kernel
theorem dX2_fits_82 : decode cX2_fits 82 = .ok (.invokevirtual 34, 3) := by decide +kernel
theorem dX2_fits_85 : decode cX2_fits 85 = .ok (.aload_n 0, 1) := by decide +kernel
theorem dX2_fits_86 : decode cX2_fits 86 = .ok (.getfield 15, 3) := by decide +kernel
theorem dX2_fits_89 : decode cX2_fits 89 = .ok (.aload_n 0, 1) := by decide +kernel
theorem dX2_fits_90 : decode cX2_fits 90 = .ok (.getfield 22, 3) := by decide +kernel
theorem dX2_fits_93 : decode cX2_fits 93 = .ok (.invokevirtual 34, 3) := by decide +kernel
theorem dX2_fits_96 : decode cX2_fits 96 = .ok (.iload_n 2, 1) := by decide +kernel
theorem dX2_fits_97 : decode cX2_fits 97 = .ok (.iadd, 1) := by decide +kernel
theorem dX2_fits_98 : decode cX2_fits 98 = .ok (.if_icmp .ne 7, 3) := by decide +kernel
theorem dX2_fits_101 : decode cX2_fits 101 = .ok (.iconst 1, 1) := by decide +kernel
theorem dX2_fits_102 : decode cX2_fits 102 = .ok (.goto 4, 3) := by decide +kernel
theorem dX2_fits_105 : decode cX2_fits 105 = .ok (.iconst 0, 1) := by decide +kernel
theorem dX2_fits_106 : decode cX2_fits 106 = .ok (.ireturn, 1) := by decide +kernel
theorem dX2_fits_107 : decode cX2_fits 107 = .ok (.aload_n 0, 1) := by decide +kernel
theorem dX2_fits_108 : decode cX2_fits 108 = .ok (.getfield 15, 3) := by decide +kernel
theorem dX2_fits_111 : decode cX2_fits 111 = .ok (.aload_n 0, 1) := by decide +kernel
theorem dX2_fits_112 : decode cX2_fits 112 = .ok (.getfield 25, 3) := by decide +kernel
theorem dX2_fits_115 : decode cX2_fits 115 = .ok (.iload_n 1, 1) := by decide +kernel
theorem dX2_fits_116 : decode cX2_fits 116 = .ok (.iconst (-1), 1) := by decide +kernel
theorem dX2_fits_117 : decode cX2_fits 117 = .ok (.ixor, 1) := by decide +kernel
theorem dX2_fits_118 : decode cX2_fits 118 = .ok (.iand, 1) := by decide +kernel
theorem dX2_fits_119 : decode cX2_fits 119 = .ok (.invokevirtual 34, 3) := by decide +kernel
theorem dX2_fits_122 : decode cX2_fits 122 = .ok (.aload_n 0, 1) := by decide +kernel
theorem dX2_fits_123 : decode cX2_fits 123 = .ok (.getfield 15, 3) := by decide +kernel
theorem dX2_fits_126 : decode cX2_fits 126 = .ok (.aload_n 0, 1) := by decide +kernel
theorem dX2_fits_127 : decode cX2_fits 127 = .ok (.getfield 25, 3) := by decide +kernel
theorem dX2_fits_130 : decode cX2_fits 130 = .ok (.invokevirtual 34, 3) := by decide +kernel
theorem dX2_fits_133 : decode cX2_fits 133 = .ok (.if_icmp .ne 7, 3) := by decide +kernel
theorem dX2_fits_136 : decode cX2_fits 136 = .ok (.iconst 1, 1) := by decide +kernel
theorem dX2_fits_137 : decode cX2_fits 137 = .ok (.goto 4, 3) := by decide +kernel
theorem dX2_fits_140 : decode cX2_fits 140 = .ok (.iconst 0, 1) := by decide +kernel
theorem dX2_fits_141 : decode cX2_fits 141 = .ok (.ireturn, 1) := by decide +kernel
theorem dX2_fits_142 : decode cX2_fits 142 = .ok (.aload_n 0, 1) := by decide +kernel
theorem dX2_fits_143 : decode cX2_fits 143 = .ok (.getfield 15, 3) := by decide +kernel
theorem dX2_fits_146 : decode cX2_fits 146 = .ok (.iload_n 1, 1) := by decide +kernel
theorem dX2_fits_147 : decode cX2_fits 147 = .ok (.invokevirtual 34, 3) := by decide +kernel
theorem dX2_fits_150 : decode cX2_fits 150 = .ok (.aload_n 0, 1) := by decide +kernel
theorem dX2_fits_151 : decode cX2_fits 151 = .ok (.getfield 19, 3) := by decide +kernel
theorem dX2_fits_154 : decode cX2_fits 154 = .ok (.iload_n 1, 1) := by decide +kernel
theorem dX2_fits_155 : decode cX2_fits 155 = .ok (.invokevirtual 34, 3) := by decide +kernel
theorem dX2_fits_158 : decode cX2_fits 158 = .ok (.iadd, 1) := by decide +kernel
theorem dX2_fits_159 : decode cX2_fits 159 = .ok (.iload_n 2, 1) := by decide +kernel
theorem dX2_fits_160 : decode cX2_fits 160 = .ok (.if_icmp .lt 7, 3) := by decide +kernel
theorem dX2_fits_163 : decode cX2_fits 163 = .ok (.iconst 1, 1) := by decide +kernel
theorem dX2_fits_164 : decode cX2_fits 164 = .ok (.goto 4, 3) := by decide +kernel
theorem dX2_fits_167 : decode cX2_fits 167 = .ok (.iconst 0, 1) := by decide +kernel
theorem dX2_fits_168 : decode cX2_fits 168 = .ok (.ireturn, 1) := by decide +kernel
theorem dX3_init_0 : decode cX3_init 0 = .ok (.aload_n 0, 1) := by decide +kernel
theorem dX3_init_1 : decode cX3_init 1 = .ok (.invokespecial 3, 3) := by decide +kernel
theorem dX3_init_4 : decode cX3_init 4 = .ok (.aload_n 0, 1) := by decide +kernel
theorem dX3_init_5 : decode cX3_init 5 = .ok (.bipush 12, 2) := by decide +kernel
theorem dX3_init_7 : decode cX3_init 7 = .ok (.newarray .int, 2) := by decide +kernel
theorem dX3_init_9 : decode cX3_init 9 = .ok (.putfield 9, 3) := by decide +kernel
theorem dX3_init_12 : decode cX3_init 12 = .ok (.return_, 1) := by decide +kernel
theorem dX3_readEdges_0 : decode cX3_readEdges 0 = .ok (.aload_n 0, 1) := by decide +kernel
theorem dX3_readEdges_1 : decode cX3_readEdges 1 = .ok (.iconst 1, 1) := by decide +kernel
theorem dX3_readEdges_2 : decode cX3_readEdges 2 = .ok (.putfield 15, 3) := by decide +kernel
theorem dX3_readEdges_5 : decode cX3_readEdges 5 = .ok (.iconst 0, 1) := by decide +kernel
theorem dX3_readEdges_6 : decode cX3_readEdges 6 = .ok (.istore_n 3, 1) := by decide +kernel
theorem dX3_readEdges_7 : decode cX3_readEdges 7 = .ok (.iload_n 3, 1) := by decide +kernel
theorem dX3_readEdges_8 : decode cX3_readEdges 8 = .ok (.iload_n 2, 1) := by decide +kernel
theorem dX3_readEdges_9 : decode cX3_readEdges 9 = .ok (.if_icmp .ge 51, 3) := by decide +kernel
theorem dX3_readEdges_12 : decode cX3_readEdges 12 = .ok (.iload_n 3, 1) := by decide +kernel
theorem dX3_readEdges_13 : decode cX3_readEdges 13 = .ok (.aload_n 0, 1) := by decide +kernel
theorem dX3_readEdges_14 : decode cX3_readEdges 14 = .ok (.getfield 9, 3) := by decide +kernel
theorem dX3_readEdges_17 : decode cX3_readEdges 17 = .ok (.arraylength, 1) := by decide +kernel
theorem dX3_readEdges_18 : decode cX3_readEdges 18 = .ok (.if_icmp .ge 42, 3) := by decide +kernel
theorem dX3_readEdges_21 : decode cX3_readEdges 21 = .ok (.aload_n 1, 1) := by decide +kernel
theorem dX3_readEdges_22 : decode cX3_readEdges 22 = .ok (.iconst 0, 1) := by decide +kernel
theorem dX3_readEdges_23 : decode cX3_readEdges 23 = .ok (.bipush 15, 2) := by decide +kernel
theorem dX3_readEdges_25 : decode cX3_readEdges 25 = .ok (.invokevirtual 19, 3) := by decide +kernel
theorem dX3_readEdges_28 : decode cX3_readEdges 28 = .ok (.istore 4, 2) := by decide +kernel
theorem dX3_readEdges_30 : decode cX3_readEdges 30 = .ok (.aload_n 1, 1) := by decide +kernel
theorem dX3_readEdges_31 : decode cX3_readEdges 31 = .ok (.iconst 0, 1) := by decide +kernel
theorem dX3_readEdges_32 : decode cX3_readEdges 32 = .ok (.bipush 15, 2) := by decide +kernel
theorem dX3_readEdges_34 : decode cX3_readEdges 34 = .ok (.invokevirtual 19, 3) := by decide +kernel
theorem dX3_readEdges_37 : decode cX3_readEdges 37 = .ok (.istore 5, 2) := by decide +kernel
theorem dX3_readEdges_39 : decode cX3_readEdges 39 = .ok (.aload_n 0, 1) := by decide +kernel
theorem dX3_readEdges_40 : decode cX3_readEdges 40 = .ok (.getfield 9, 3) := by decide +kernel
theorem dX3_readEdges_43 : decode cX3_readEdges 43 = .ok (.iload_n 3, 1) := by decide +kernel
theorem dX3_readEdges_44 : decode cX3_readEdges 44 = .ok (.iconst 1, 1) := by decide +kernel
theorem dX3_readEdges_45 : decode cX3_readEdges 45 = .ok (.iload 4, 2) := by decide +kernel
theorem dX3_readEdges_47 : decode cX3_readEdges 47 = .ok (.ishl, 1) := by decide +kernel
theorem dX3_readEdges_48 : decode cX3_readEdges 48 = .ok (.iconst 1, 1) := by decide +kernel
theorem dX3_readEdges_49 : decode cX3_readEdges 49 = .ok (.iload 5, 2) := by decide +kernel
theorem dX3_readEdges_51 : decode cX3_readEdges 51 = .ok (.ishl, 1) := by decide +kernel
theorem dX3_readEdges_52 : decode cX3_readEdges 52 = .ok (.ior, 1) := by decide +kernel
theorem dX3_readEdges_53 : decode cX3_readEdges 53 = .ok (.iastore, 1) := by decide +kernel
theorem dX3_readEdges_54 : decode cX3_readEdges 54 = .ok (.iinc 3 1, 3) := by decide +kernel
theorem dX3_readEdges_57 : decode cX3_readEdges 57 = .ok (.goto (-50), 3) := by decide +kernel
theorem dX3_readEdges_60 : decode cX3_readEdges 60 = .ok (.return_, 1) := by decide +kernel
theorem dX3_readPlaces_0 : decode cX3_readPlaces 0 = .ok (.aload_n 0, 1) := by decide +kernel
theorem dX3_readPlaces_1 : decode cX3_readPlaces 1 = .ok (.iconst 0, 1) := by decide +kernel
theorem dX3_readPlaces_2 : decode cX3_readPlaces 2 = .ok (.putfield 15, 3) := by decide +kernel
theorem dX3_readPlaces_5 : decode cX3_readPlaces 5 = .ok (.iconst 0, 1) := by decide +kernel
theorem dX3_readPlaces_6 : decode cX3_readPlaces 6 = .ok (.istore_n 3, 1) := by decide +kernel
theorem dX3_readPlaces_7 : decode cX3_readPlaces 7 = .ok (.iload_n 3, 1) := by decide +kernel
theorem dX3_readPlaces_8 : decode cX3_readPlaces 8 = .ok (.iload_n 2, 1) := by decide +kernel
theorem dX3_readPlaces_9 : decode cX3_readPlaces 9 = .ok (.if_icmp .ge 32, 3) := by decide +kernel
theorem dX3_readPlaces_12 : decode cX3_readPlaces 12 = .ok (.iload_n 3, 1) := by decide +kernel
theorem dX3_readPlaces_13 : decode cX3_readPlaces 13 = .ok (.aload_n 0, 1) := by decide +kernel
theorem dX3_readPlaces_14 : decode cX3_readPlaces 14 = .ok (.getfield 9, 3) := by decide +kernel
theorem dX3_readPlaces_17 : decode cX3_readPlaces 17 = .ok (.arraylength, 1) := by decide +kernel
theorem dX3_readPlaces_18 : decode cX3_readPlaces 18 = .ok (.if_icmp .ge 23, 3) := by decide +kernel
theorem dX3_readPlaces_21 : decode cX3_readPlaces 21 = .ok (.aload_n 0, 1) := by decide +kernel
theorem dX3_readPlaces_22 : decode cX3_readPlaces 22 = .ok (.getfield 9, 3) := by decide +kernel
theorem dX3_readPlaces_25 : decode cX3_readPlaces 25 = .ok (.iload_n 3, 1) := by decide +kernel
theorem dX3_readPlaces_26 : decode cX3_readPlaces 26 = .ok (.aload_n 1, 1) := by decide +kernel
theorem dX3_readPlaces_27 : decode cX3_readPlaces 27 = .ok (.iconst 0, 1) := by decide +kernel
theorem dX3_readPlaces_28 : decode cX3_readPlaces 28 = .ok (.sipush 4095, 3) := by decide +kernel
theorem dX3_readPlaces_31 : decode cX3_readPlaces 31 = .ok (.invokevirtual 19, 3) := by decide +kernel
theorem dX3_readPlaces_34 : decode cX3_readPlaces 34 = .ok (.iastore, 1) := by decide +kernel
theorem dX3_readPlaces_35 : decode cX3_readPlaces 35 = .ok (.iinc 3 1, 3) := by decide +kernel
theorem dX3_readPlaces_38 : decode cX3_readPlaces 38 = .ok (.goto (-31), 3) := by decide +kernel
theorem dX3_readPlaces_41 : decode cX3_readPlaces 41 = .ok (.return_, 1) := by decide +kernel
theorem dX3_fits_0 : decode cX3_fits 0 = .ok (.iconst 0, 1) := by decide +kernel
theorem dX3_fits_1 : decode cX3_fits 1 = .ok (.istore_n 2, 1) := by decide +kernel
theorem dX3_fits_2 : decode cX3_fits 2 = .ok (.iconst 0, 1) := by decide +kernel
theorem dX3_fits_3 : decode cX3_fits 3 = .ok (.istore_n 3, 1) := by decide +kernel
theorem dX3_fits_4 : decode cX3_fits 4 = .ok (.iload_n 3, 1) := by decide +kernel
theorem dX3_fits_5 : decode cX3_fits 5 = .ok (.aload_n 0, 1) := by decide +kernel
theorem dX3_fits_6 : decode cX3_fits 6 = .ok (.getfield 9, 3) := by decide +kernel
theorem dX3_fits_9 : decode cX3_fits 9 = .ok (.arraylength, 1) := by decide +kernel
theorem dX3_fits_10 : decode cX3_fits 10 = .ok (.if_icmp .ge 26, 3) := by decide +kernel
theorem dX3_fits_13 : decode cX3_fits 13 = .ok (.iload_n 1, 1) := by decide +kernel
theorem dX3_fits_14 : decode cX3_fits 14 = .ok (.iload_n 3, 1) := by decide +kernel
theorem dX3_fits_15 : decode cX3_fits 15 = .ok (.ishr, 1) := by decide +kernel
theorem dX3_fits_16 : decode cX3_fits 16 = .ok (.iconst 1, 1) := by decide +kernel
theorem dX3_fits_17 : decode cX3_fits 17 = .ok (.iand, 1) := by decide +kernel
theorem dX3_fits_18 : decode cX3_fits 18 = .ok (.ifCond .eq 12, 3) := by decide +kernel
theorem dX3_fits_21 : decode cX3_fits 21 = .ok (.iload_n 2, 1) := by decide +kernel
theorem dX3_fits_22 : decode cX3_fits 22 = .ok (.aload_n 0, 1) := by decide +kernel
theorem dX3_fits_23 : decode cX3_fits 23 = .ok (.getfield 9, 3) := by decide +kernel
theorem dX3_fits_26 : decode cX3_fits 26 = .ok (.iload_n 3, 1) := by decide +kernel
theorem dX3_fits_27 : decode cX3_fits 27 = .ok (.iaload, 1) := by decide +kernel
theorem dX3_fits_28 : decode cX3_fits 28 = .ok (.ior, 1) := by decide +kernel
theorem dX3_fits_29 : decode cX3_fits 29 = .ok (.istore_n 2, 1) := by decide +kernel
theorem dX3_fits_30 : decode cX3_fits 30 = .ok (.iinc 3 1, 3) := by decide +kernel
theorem dX3_fits_33 : decode cX3_fits 33 = .ok (.goto (-29), 3) := by decide +kernel
theorem dX3_fits_36 : decode cX3_fits 36 = .ok (.iload_n 2, 1) := by decide +kernel
theorem dX3_fits_37 : decode cX3_fits 37 = .ok (.invokestatic 25, 3) := by decide +kernel
theorem dX3_fits_40 : decode cX3_fits 40 = .ok (.iload_n 1, 1) := by decide +kernel
theorem dX3_fits_41 : decode cX3_fits 41 = .ok (.invokestatic 25, 3) := by decide +kernel
theorem dX3_fits_44 : decode cX3_fits 44 = .ok (.aload_n 0, 1) := by decide +kernel
theorem dX3_fits_45 : decode cX3_fits 45 = .ok (.getfield 15, 3) := by decide +kernel
theorem dX3_fits_48 : decode cX3_fits 48 = .ok (.iadd, 1) := by decide +kernel
theorem dX3_fits_49 : decode cX3_fits 49 = .ok (.if_icmp .lt 7, 3) := by decide +kernel
theorem dX3_fits_52 : decode cX3_fits 52 = .ok (.iconst 1, 1) := by decide +kernel
theorem dX3_fits_53 : decode cX3_fits 53 = .ok (.goto 4, 3) := by decide +kernel
theorem dX3_fits_56 : decode cX3_fits 56 = .ok (.iconst 0, 1) := by decide +kernel
theorem dX3_fits_57 : decode cX3_fits 57 = .ok (.ireturn, 1) := by decide +kernel
theorem dX4_init_0 : decode cX4_init 0 = .ok (.aload_n 0, 1) := by decide +kernel
theorem dX4_init_1 : decode cX4_init 1 = .ok (.invokespecial 3, 3) := by decide +kernel
theorem dX4_init_4 : decode cX4_init 4 = .ok (.return_, 1) := by decide +kernel
theorem dX4_start_0 : decode cX4_start 0 = .ok (.aload_n 0, 1) := by decide +kernel
theorem dX4_start_1 : decode cX4_start 1 = .ok (.aload_n 1, 1) := by decide +kernel
theorem dX4_start_2 : decode cX4_start 2 = .ok (.putfield 9, 3) := by decide +kernel
theorem dX4_start_5 : decode cX4_start 5 = .ok (.aload_n 0, 1) := by decide +kernel
theorem dX4_start_6 : decode cX4_start 6 = .ok (.iconst 0, 1) := by decide +kernel
theorem dX4_start_7 : decode cX4_start 7 = .ok (.putfield 15, 3) := by decide +kernel
theorem dX4_start_10 : decode cX4_start 10 = .ok (.aload_n 0, 1) := by decide +kernel
theorem dX4_start_11 : decode cX4_start 11 = .ok (.iconst 0, 1) := by decide +kernel
theorem dX4_start_12 : decode cX4_start 12 = .ok (.putfield 19, 3) := by decide +kernel
theorem dX4_start_15 : decode cX4_start 15 = .ok (.return_, 1) := by decide +kernel
theorem dX4_next_0 : decode cX4_next 0 = .ok (.aload_n 0, 1) := by decide +kernel
theorem dX4_next_1 : decode cX4_next 1 = .ok (.getfield 19, 3) := by decide +kernel
theorem dX4_next_4 : decode cX4_next 4 = .ok (.ifCond .eq 5, 3) := by decide +kernel
theorem dX4_next_7 : decode cX4_next 7 = .ok (.iload_n 1, 1) := by decide +kernel
theorem dX4_next_8 : decode cX4_next 8 = .ok (.ireturn, 1) := by decide +kernel
theorem dX4_next_9 : decode cX4_next 9 = .ok (.aload_n 0, 1) := by decide +kernel
theorem dX4_next_10 : decode cX4_next 10 = .ok (.getfield 9, 3) := by decide +kernel
theorem dX4_next_13 : decode cX4_next 13 = .ok (.ifnull 18, 3) := by decide +kernel
theorem dX4_next_16 : decode cX4_next 16 = .ok (.aload_n 0, 1) := by decide +kernel
theorem dX4_next_17 : decode cX4_next 17 = .ok (.getfield 9, 3) := by decide +kernel
theorem dX4_next_20 : decode cX4_next 20 = .ok (.aload_n 0, 1) := by decide +kernel
theorem dX4_next_21 : decode cX4_next 21 = .ok (.getfield 15, 3) := by decide +kernel
theorem dX4_next_24 : decode cX4_next 24 = .ok (.iconst 1, 1) := by decide +kernel
theorem dX4_next_25 : decode cX4_next 25 = .ok (.invokevirtual 22, 3) := by decide +kernel
theorem dX4_next_28 : decode cX4_next 28 = .ok (.ifCond .ne 11, 3) := by decide +kernel
theorem dX4_next_31 : decode cX4_next 31 = .ok (.aload_n 0, 1) := by decide +kernel
theorem dX4_next_32 : decode cX4_next 32 = .ok (.bipush (-6), 2) := by decide +kernel
theorem dX4_next_34 : decode cX4_next 34 = .ok (.putfield 19, 3) := by decide +kernel
theorem dX4_next_37 : decode cX4_next 37 = .ok (.iload_n 1, 1) := by decide +kernel
theorem dX4_next_38 : decode cX4_next 38 = .ok (.ireturn, 1) := by decide +kernel
theorem dX4_next_39 : decode cX4_next 39 = .ok (.aload_n 0, 1) := by decide +kernel
theorem dX4_next_40 : decode cX4_next 40 = .ok (.getfield 9, 3) := by decide +kernel
theorem dX4_next_43 : decode cX4_next 43 = .ok (.aload_n 0, 1) := by decide +kernel
theorem dX4_next_44 : decode cX4_next 44 = .ok (.getfield 15, 3) := by decide +kernel
theorem dX4_next_47 : decode cX4_next 47 = .ok (.invokevirtual 28, 3) := by decide +kernel
theorem dX4_next_50 : decode cX4_next 50 = .ok (.lstore_n 3, 1) := by decide +kernel
theorem dX4_next_51 : decode cX4_next 51 = .ok (.aload_n 0, 1) := by decide +kernel
theorem dX4_next_52 : decode cX4_next 52 = .ok (.dup, 1) := by decide +kernel
theorem dX4_next_53 : decode cX4_next 53 = .ok (.getfield 15, 3) := by decide +kernel
theorem dX4_next_56 : decode cX4_next 56 = .ok (.iconst 1, 1) := by decide +kernel
theorem dX4_next_57 : decode cX4_next 57 = .ok (.iadd, 1) := by decide +kernel
theorem dX4_next_58 : decode cX4_next 58 = .ok (.putfield 15, 3) := by decide +kernel
theorem dX4_next_61 : decode cX4_next 61 = .ok (.lload_n 3, 1) := by decide +kernel
theorem dX4_next_62 : decode cX4_next 62 = .ok (.iload_n 1, 1) := by decide +kernel
theorem dX4_next_63 : decode cX4_next 63 = .ok (.i2l, 1) := by decide +kernel
theorem dX4_next_64 : decode cX4_next 64 = .ok (.lcmp, 1) := by decide +kernel
theorem dX4_next_65 : decode cX4_next 65 = .ok (.ifCond .lt 10, 3) := by decide +kernel
theorem dX4_next_68 : decode cX4_next 68 = .ok (.lload_n 3, 1) := by decide +kernel
theorem dX4_next_69 : decode cX4_next 69 = .ok (.iload_n 2, 1) := by decide +kernel
theorem dX4_next_70 : decode cX4_next 70 = .ok (.i2l, 1) := by decide +kernel
theorem dX4_next_71 : decode cX4_next 71 = .ok (.lcmp, 1) := by decide +kernel
theorem dX4_next_72 : decode cX4_next 72 = .ok (.ifCond .le 11, 3) := by decide +kernel
theorem dX4_next_75 : decode cX4_next 75 = .ok (.aload_n 0, 1) := by decide +kernel
theorem dX4_next_76 : decode cX4_next 76 = .ok (.bipush (-4), 2) := by decide +kernel
theorem dX4_next_78 : decode cX4_next 78 = .ok (.putfield 19, 3) := by decide +kernel
theorem dX4_next_81 : decode cX4_next 81 = .ok (.iload_n 1, 1) := by decide +kernel
theorem dX4_next_82 : decode cX4_next 82 = .ok (.ireturn, 1) := by decide +kernel
theorem dX4_next_83 : decode cX4_next 83 = .ok (.lload_n 3, 1) := by decide +kernel
theorem dX4_next_84 : decode cX4_next 84 = .ok (.l2i, 1) := by decide +kernel
theorem dX4_next_85 : decode cX4_next 85 = .ok (.ireturn, 1) := by decide +kernel
theorem dX4_refuseLast_0 : decode cX4_refuseLast 0 = .ok (.aload_n 0, 1) := by decide +kernel
theorem dX4_refuseLast_1 : decode cX4_refuseLast 1 = .ok (.getfield 19, 3) := by decide +kernel
theorem dX4_refuseLast_4 : decode cX4_refuseLast 4 = .ok (.ifCond .ne 9, 3) := by decide +kernel
theorem dX4_refuseLast_7 : decode cX4_refuseLast 7 = .ok (.aload_n 0, 1) := by decide +kernel
theorem dX4_refuseLast_8 : decode cX4_refuseLast 8 = .ok (.bipush (-4), 2) := by decide +kernel
theorem dX4_refuseLast_10 : decode cX4_refuseLast 10 = .ok (.putfield 19, 3) := by decide +kernel
theorem dX4_refuseLast_13 : decode cX4_refuseLast 13 = .ok (.return_, 1) := by decide +kernel
theorem dX5_init_0 : decode cX5_init 0 = .ok (.aload_n 0, 1) := by decide +kernel
theorem dX5_init_1 : decode cX5_init 1 = .ok (.invokespecial 1, 3) := by decide +kernel
theorem dX5_init_4 : decode cX5_init 4 = .ok (.aload_n 0, 1) := by decide +kernel
theorem dX5_init_5 : decode cX5_init 5 = .ok (.iconst 1, 1) := by decide +kernel
theorem dX5_init_6 : decode cX5_init 6 = .ok (.newarray .byte, 2) := by decide +kernel
theorem dX5_init_8 : decode cX5_init 8 = .ok (.putfield 7, 3) := by decide +kernel
theorem dX5_init_11 : decode cX5_init 11 = .ok (.return_, 1) := by decide +kernel
theorem dX5_fill_0 : decode cX5_fill 0 = .ok (.iload_n 1, 1) := by decide +kernel
theorem dX5_fill_1 : decode cX5_fill 1 = .ok (.aload_n 0, 1) := by decide +kernel
theorem dX5_fill_2 : decode cX5_fill 2 = .ok (.getfield 7, 3) := by decide +kernel
theorem dX5_fill_5 : decode cX5_fill 5 = .ok (.arraylength, 1) := by decide +kernel
theorem dX5_fill_6 : decode cX5_fill 6 = .ok (.if_icmp .lt 12, 3) := by decide +kernel
theorem dX5_fill_9 : decode cX5_fill 9 = .ok (.aload_n 0, 1) := by decide +kernel
theorem dX5_fill_10 : decode cX5_fill 10 = .ok (.iload_n 1, 1) := by decide +kernel
theorem dX5_fill_11 : decode cX5_fill 11 = .ok (.iconst 1, 1) := by decide +kernel
theorem dX5_fill_12 : decode cX5_fill 12 = .ok (.iadd, 1) := by decide +kernel
theorem dX5_fill_13 : decode cX5_fill 13 = .ok (.newarray .byte, 2) := by decide +kernel
theorem dX5_fill_15 : decode cX5_fill 15 = .ok (.putfield 7, 3) := by decide +kernel
theorem dX5_fill_18 : decode cX5_fill 18 = .ok (.aload_n 0, 1) := by decide +kernel
theorem dX5_fill_19 : decode cX5_fill 19 = .ok (.getfield 7, 3) := by decide +kernel
theorem dX5_fill_22 : decode cX5_fill 22 = .ok (.iconst 0, 1) := by decide +kernel
theorem dX5_fill_23 : decode cX5_fill 23 = .ok (.iconst 0, 1) := by decide +kernel
theorem dX5_fill_24 : decode cX5_fill 24 = .ok (.bastore, 1) := by decide +kernel
theorem dX5_fill_25 : decode cX5_fill 25 = .ok (.iconst 1, 1) := by decide +kernel
theorem dX5_fill_26 : decode cX5_fill 26 = .ok (.istore_n 3, 1) := by decide +kernel
theorem dX5_fill_27 : decode cX5_fill 27 = .ok (.iload_n 3, 1) := by decide +kernel
theorem dX5_fill_28 : decode cX5_fill 28 = .ok (.iload_n 1, 1) := by decide +kernel
theorem dX5_fill_29 : decode cX5_fill 29 = .ok (.if_icmp .gt 31, 3) := by decide +kernel
theorem dX5_fill_32 : decode cX5_fill 32 = .ok (.iload_n 3, 1) := by decide +kernel
theorem dX5_fill_33 : decode cX5_fill 33 = .ok (.aload_n 0, 1) := by decide +kernel
theorem dX5_fill_34 : decode cX5_fill 34 = .ok (.getfield 7, 3) := by decide +kernel
theorem dX5_fill_37 : decode cX5_fill 37 = .ok (.arraylength, 1) := by decide +kernel
theorem dX5_fill_38 : decode cX5_fill 38 = .ok (.if_icmp .ge 22, 3) := by decide +kernel
theorem dX5_fill_41 : decode cX5_fill 41 = .ok (.aload_n 0, 1) := by decide +kernel
theorem dX5_fill_42 : decode cX5_fill 42 = .ok (.getfield 7, 3) := by decide +kernel
theorem dX5_fill_45 : decode cX5_fill 45 = .ok (.iload_n 3, 1) := by decide +kernel
theorem dX5_fill_46 : decode cX5_fill 46 = .ok (.aload_n 0, 1) := by decide +kernel
theorem dX5_fill_47 : decode cX5_fill 47 = .ok (.iload_n 3, 1) := by decide +kernel
theorem dX5_fill_48 : decode cX5_fill 48 = .ok (.aload_n 2, 1) := by decide +kernel
theorem dX5_fill_49 : decode cX5_fill 49 = .ok (.invokevirtual 13, 3) := by decide +kernel
theorem dX5_fill_52 : decode cX5_fill 52 = .ok (.i2b, 1) := by decide +kernel
theorem dX5_fill_53 : decode cX5_fill 53 = .ok (.bastore, 1) := by decide +kernel
theorem dX5_fill_54 : decode cX5_fill 54 = .ok (.iinc 3 1, 3) := by decide +kernel
theorem dX5_fill_57 : decode cX5_fill 57 = .ok (.goto (-30), 3) := by decide +kernel
theorem dX5_fill_60 : decode cX5_fill 60 = .ok (.return_, 1) := by decide +kernel
theorem dX5_rankByParts_0 : decode cX5_rankByParts 0 = .ok (.iload_n 1, 1) := by decide +kernel
theorem dX5_rankByParts_1 : decode cX5_rankByParts 1 = .ok (.invokestatic 17, 3) := by decide +kernel
theorem dX5_rankByParts_4 : decode cX5_rankByParts 4 = .ok (.istore_n 3, 1) := by decide +kernel
theorem dX5_rankByParts_5 : decode cX5_rankByParts 5 = .ok (.iconst 0, 1) := by decide +kernel
theorem dX5_rankByParts_6 : decode cX5_rankByParts 6 = .ok (.istore 4, 2) := by decide +kernel
theorem dX5_rankByParts_8 : decode cX5_rankByParts 8 = .ok (.iload_n 3, 1) := by decide +kernel
theorem dX5_rankByParts_9 : decode cX5_rankByParts 9 = .ok (.istore 5, 2) := by decide +kernel
theorem dX5_rankByParts_11 : decode cX5_rankByParts 11 = .ok (.iconst 1, 1) := by decide +kernel
theorem dX5_rankByParts_12 : decode cX5_rankByParts 12 = .ok (.istore 6, 2) := by decide +kernel
theorem dX5_rankByParts_14 : decode cX5_rankByParts 14 = .ok (.iload 6, 2) := by decide +kernel
theorem dX5_rankByParts_16 : decode cX5_rankByParts 16 = .ok (.iload_n 1, 1) := by decide +kernel
theorem dX5_rankByParts_17 : decode cX5_rankByParts 17 = .ok (.if_icmp .gt 49, 3) := by decide +kernel
theorem dX5_rankByParts_20 : decode cX5_rankByParts 20 = .ok (.iload_n 1, 1) := by decide +kernel
theorem dX5_rankByParts_21 : decode cX5_rankByParts 21 = .ok (.iload 6, 2) := by decide +kernel
theorem dX5_rankByParts_23 : decode cX5_rankByParts 23 = .ok (.iand, 1) := by decide +kernel
theorem dX5_rankByParts_24 : decode cX5_rankByParts 24 = .ok (.ifCond .eq 33, 3) := by decide +kernel
theorem dX5_rankByParts_27 : decode cX5_rankByParts 27 = .ok (.aload_n 0, 1) := by decide +kernel
theorem dX5_rankByParts_28 : decode cX5_rankByParts 28 = .ok (.iload_n 1, 1) := by decide +kernel
theorem dX5_rankByParts_29 : decode cX5_rankByParts 29 = .ok (.iload 6, 2) := by decide +kernel
theorem dX5_rankByParts_31 : decode cX5_rankByParts 31 = .ok (.iconst (-1), 1) := by decide +kernel
theorem dX5_rankByParts_32 : decode cX5_rankByParts 32 = .ok (.ixor, 1) := by decide +kernel
theorem dX5_rankByParts_33 : decode cX5_rankByParts 33 = .ok (.iand, 1) := by decide +kernel
theorem dX5_rankByParts_34 : decode cX5_rankByParts 34 = .ok (.invokevirtual 23, 3) := by decide +kernel
theorem dX5_rankByParts_37 : decode cX5_rankByParts 37 = .ok (.istore 7, 2) := by decide +kernel
theorem dX5_rankByParts_39 : decode cX5_rankByParts 39 = .ok (.iload 4, 2) := by decide +kernel
theorem dX5_rankByParts_41 : decode cX5_rankByParts 41 = .ok (.iload 7, 2) := by decide +kernel
theorem dX5_rankByParts_43 : decode cX5_rankByParts 43 = .ok (.invokestatic 26, 3) := by decide +kernel
theorem dX5_rankByParts_46 : decode cX5_rankByParts 46 = .ok (.istore 4, 2) := by decide +kernel
theorem dX5_rankByParts_48 : decode cX5_rankByParts 48 = .ok (.iload 5, 2) := by decide +kernel
theorem dX5_rankByParts_50 : decode cX5_rankByParts 50 = .ok (.iload 7, 2) := by decide +kernel
theorem dX5_rankByParts_52 : decode cX5_rankByParts 52 = .ok (.invokestatic 32, 3) := by decide +kernel
theorem dX5_rankByParts_55 : decode cX5_rankByParts 55 = .ok (.istore 5, 2) := by decide +kernel
theorem dX5_rankByParts_57 : decode cX5_rankByParts 57 = .ok (.iload 6, 2) := by decide +kernel
theorem dX5_rankByParts_59 : decode cX5_rankByParts 59 = .ok (.iconst 1, 1) := by decide +kernel
theorem dX5_rankByParts_60 : decode cX5_rankByParts 60 = .ok (.ishl, 1) := by decide +kernel
theorem dX5_rankByParts_61 : decode cX5_rankByParts 61 = .ok (.istore 6, 2) := by decide +kernel
theorem dX5_rankByParts_63 : decode cX5_rankByParts 63 = .ok (.goto (-49), 3) := by decide +kernel
theorem dX5_rankByParts_66 : decode cX5_rankByParts 66 = .ok (.iload 5, 2) := by decide +kernel
theorem dX5_rankByParts_68 : decode cX5_rankByParts 68 = .ok (.iload_n 3, 1) := by decide +kernel
theorem dX5_rankByParts_69 : decode cX5_rankByParts 69 = .ok (.iconst 1, 1) := by decide +kernel
theorem dX5_rankByParts_70 : decode cX5_rankByParts 70 = .ok (.isub, 1) := by decide +kernel
theorem dX5_rankByParts_71 : decode cX5_rankByParts 71 = .ok (.if_icmp .ne 17, 3) := by decide +kernel
theorem dX5_rankByParts_74 : decode cX5_rankByParts 74 = .ok (.aload_n 2, 1) := by decide +kernel
theorem dX5_rankByParts_75 : decode cX5_rankByParts 75 = .ok (.iload_n 1, 1) := by decide +kernel
theorem dX5_rankByParts_76 : decode cX5_rankByParts 76 = .ok (.invokeinterface 35 2, 5) := by decide +kernel
theorem dX5_rankByParts_81 : decode cX5_rankByParts 81 = .ok (.ifCond .eq 7, 3) := by decide +kernel
theorem dX5_rankByParts_84 : decode cX5_rankByParts 84 = .ok (.iload_n 3, 1) := by decide +kernel
theorem dX5_rankByParts_85 : decode cX5_rankByParts 85 = .ok (.goto 5, 3) := by decide +kernel
theorem dX5_rankByParts_88 : decode cX5_rankByParts 88 = .ok (.iload 4, 2) := by decide +kernel
theorem dX5_rankByParts_90 : decode cX5_rankByParts 90 = .ok (.ireturn, 1) := by decide +kernel
theorem dX5_rankOf_0 : decode cX5_rankOf 0 = .ok (.iload_n 1, 1) := by decide +kernel
theorem dX5_rankOf_1 : decode cX5_rankOf 1 = .ok (.ifCond .lt 21, 3) := by decide +kernel
theorem dX5_rankOf_4 : decode cX5_rankOf 4 = .ok (.iload_n 1, 1) := by decide +kernel
theorem dX5_rankOf_5 : decode cX5_rankOf 5 = .ok (.aload_n 0, 1) := by decide +kernel
theorem dX5_rankOf_6 : decode cX5_rankOf 6 = .ok (.getfield 7, 3) := by decide +kernel
theorem dX5_rankOf_9 : decode cX5_rankOf 9 = .ok (.arraylength, 1) := by decide +kernel
theorem dX5_rankOf_10 : decode cX5_rankOf 10 = .ok (.if_icmp .ge 12, 3) := by decide +kernel
theorem dX5_rankOf_13 : decode cX5_rankOf 13 = .ok (.aload_n 0, 1) := by decide +kernel
theorem dX5_rankOf_14 : decode cX5_rankOf 14 = .ok (.getfield 7, 3) := by decide +kernel
theorem dX5_rankOf_17 : decode cX5_rankOf 17 = .ok (.iload_n 1, 1) := by decide +kernel
theorem dX5_rankOf_18 : decode cX5_rankOf 18 = .ok (.baload, 1) := by decide +kernel
theorem dX5_rankOf_19 : decode cX5_rankOf 19 = .ok (.goto 4, 3) := by decide +kernel
theorem dX5_rankOf_22 : decode cX5_rankOf 22 = .ok (.iconst 0, 1) := by decide +kernel
theorem dX5_rankOf_23 : decode cX5_rankOf 23 = .ok (.ireturn, 1) := by decide +kernel
theorem dX5_permits_0 : decode cX5_permits 0 = .ok (.aload_n 0, 1) := by decide +kernel
theorem dX5_permits_1 : decode cX5_permits 1 = .ok (.iload_n 1, 1) := by decide +kernel
theorem dX5_permits_2 : decode cX5_permits 2 = .ok (.invokevirtual 23, 3) := by decide +kernel
theorem dX5_permits_5 : decode cX5_permits 5 = .ok (.iload_n 1, 1) := by decide +kernel
theorem dX5_permits_6 : decode cX5_permits 6 = .ok (.invokestatic 17, 3) := by decide +kernel
theorem dX5_permits_9 : decode cX5_permits 9 = .ok (.if_icmp .ne 7, 3) := by decide +kernel
theorem dX5_permits_12 : decode cX5_permits 12 = .ok (.iconst 1, 1) := by decide +kernel
theorem dX5_permits_13 : decode cX5_permits 13 = .ok (.goto 4, 3) := by decide +kernel
theorem dX5_permits_16 : decode cX5_permits 16 = .ok (.iconst 0, 1) := by decide +kernel
theorem dX5_permits_17 : decode cX5_permits 17 = .ok (.ireturn, 1) := by decide +kernel
theorem dX5_permitsEachAlone_0 : decode cX5_permitsEachAlone 0 = .ok (.iconst 0, 1) := by decide +kernel
theorem dX5_permitsEachAlone_1 : decode cX5_permitsEachAlone 1 = .ok (.istore_n 2, 1) := by decide +kernel
theorem dX5_permitsEachAlone_2 : decode cX5_permitsEachAlone 2 = .ok (.iload_n 2, 1) := by decide +kernel
theorem dX5_permitsEachAlone_3 : decode cX5_permitsEachAlone 3 = .ok (.iload_n 1, 1) := by decide +kernel
theorem dX5_permitsEachAlone_4 : decode cX5_permitsEachAlone 4 = .ok (.if_icmp .ge 21, 3) := by decide +kernel
theorem dX5_permitsEachAlone_7 : decode cX5_permitsEachAlone 7 = .ok (.aload_n 0, 1) := by decide +kernel
theorem dX5_permitsEachAlone_8 : decode cX5_permitsEachAlone 8 = .ok (.iconst 1, 1) := by decide +kernel
theorem dX5_permitsEachAlone_9 : decode cX5_permitsEachAlone 9 = .ok (.iload_n 2, 1) := by decide +kernel
theorem dX5_permitsEachAlone_10 : decode cX5_permitsEachAlone 10 = .ok (.ishl, 1) := by decide +kernel
theorem dX5_permitsEachAlone_11 : decode cX5_permitsEachAlone 11 = .ok (.invokevirtual 41, 3) := by decide +kernel
theorem dX5_permitsEachAlone_14 : decode cX5_permitsEachAlone 14 = .ok (.ifCond .ne 5, 3) := by decide +kernel
theorem dX5_permitsEachAlone_17 : decode cX5_permitsEachAlone 17 = .ok (.iconst 0, 1) := by decide +kernel
theorem dX5_permitsEachAlone_18 : decode cX5_permitsEachAlone 18 = .ok (.ireturn, 1) := by decide +kernel
theorem dX5_permitsEachAlone_19 : decode cX5_permitsEachAlone 19 = .ok (.iinc 2 1, 3) := by decide +kernel
theorem dX5_permitsEachAlone_22 : decode cX5_permitsEachAlone 22 = .ok (.goto (-20), 3) := by decide +kernel
theorem dX5_permitsEachAlone_25 : decode cX5_permitsEachAlone 25 = .ok (.iconst 1, 1) := by decide +kernel
theorem dX5_permitsEachAlone_26 : decode cX5_permitsEachAlone 26 = .ok (.ireturn, 1) := by decide +kernel
theorem dX5_allowedSets_0 : decode cX5_allowedSets 0 = .ok (.iconst 0, 1) := by decide +kernel
theorem dX5_allowedSets_1 : decode cX5_allowedSets 1 = .ok (.istore_n 2, 1) := by decide +kernel
theorem dX5_allowedSets_2 : decode cX5_allowedSets 2 = .ok (.iconst 0, 1) := by decide +kernel
theorem dX5_allowedSets_3 : decode cX5_allowedSets 3 = .ok (.istore_n 3, 1) := by decide +kernel
theorem dX5_allowedSets_4 : decode cX5_allowedSets 4 = .ok (.iload_n 3, 1) := by decide +kernel
theorem dX5_allowedSets_5 : decode cX5_allowedSets 5 = .ok (.iload_n 1, 1) := by decide +kernel
theorem dX5_allowedSets_6 : decode cX5_allowedSets 6 = .ok (.if_icmp .gt 20, 3) := by decide +kernel
theorem dX5_allowedSets_9 : decode cX5_allowedSets 9 = .ok (.aload_n 0, 1) := by decide +kernel
theorem dX5_allowedSets_10 : decode cX5_allowedSets 10 = .ok (.iload_n 3, 1) := by decide +kernel
theorem dX5_allowedSets_11 : decode cX5_allowedSets 11 = .ok (.invokevirtual 41, 3) := by decide +kernel
theorem dX5_allowedSets_14 : decode cX5_allowedSets 14 = .ok (.ifCond .eq 6, 3) := by decide +kernel
theorem dX5_allowedSets_17 : decode cX5_allowedSets 17 = .ok (.iinc 2 1, 3) := by decide +kernel
theorem dX5_allowedSets_20 : decode cX5_allowedSets 20 = .ok (.iinc 3 1, 3) := by decide +kernel
theorem dX5_allowedSets_23 : decode cX5_allowedSets 23 = .ok (.goto (-19), 3) := by decide +kernel
theorem dX5_allowedSets_26 : decode cX5_allowedSets 26 = .ok (.iload_n 2, 1) := by decide +kernel
theorem dX5_allowedSets_27 : decode cX5_allowedSets 27 = .ok (.ireturn, 1) := by decide +kernel
theorem dX6_init_0 : decode cX6_init 0 = .ok (.aload_n 0, 1) := by decide +kernel
theorem dX6_init_1 : decode cX6_init 1 = .ok (.invokespecial 3, 3) := by decide +kernel
theorem dX6_init_4 : decode cX6_init 4 = .ok (.aload_n 0, 1) := by decide +kernel
theorem dX6_init_5 : decode cX6_init 5 = .ok (.sipush 200, 3) := by decide +kernel
theorem dX6_init_8 : decode cX6_init 8 = .ok (.newarray .long, 2) := by decide +kernel
theorem dX6_init_10 : decode cX6_init 10 = .ok (.putfield 9, 3) := by decide +kernel
theorem dX6_init_13 : decode cX6_init 13 = .ok (.aload_n 0, 1) := by decide +kernel
theorem dX6_init_14 : decode cX6_init 14 = .ok (.iconst (-1), 1) := by decide +kernel
theorem dX6_init_15 : decode cX6_init 15 = .ok (.putfield 15, 3) := by decide +kernel
theorem dX6_init_18 : decode cX6_init 18 = .ok (.return_, 1) := by decide +kernel
theorem dX6_hasRow_0 : decode cX6_hasRow 0 = .ok (.aload_n 0, 1) := by decide +kernel
theorem dX6_hasRow_1 : decode cX6_hasRow 1 = .ok (.getfield 15, 3) := by decide +kernel
theorem dX6_hasRow_4 : decode cX6_hasRow 4 = .ok (.iconst (-1), 1) := by decide +kernel
theorem dX6_hasRow_5 : decode cX6_hasRow 5 = .ok (.if_icmp .eq 7, 3) := by decide +kernel
theorem dX6_hasRow_8 : decode cX6_hasRow 8 = .ok (.iconst 1, 1) := by decide +kernel
theorem dX6_hasRow_9 : decode cX6_hasRow 9 = .ok (.goto 4, 3) := by decide +kernel
theorem dX6_hasRow_12 : decode cX6_hasRow 12 = .ok (.iconst 0, 1) := by decide +kernel
theorem dX6_hasRow_13 : decode cX6_hasRow 13 = .ok (.ireturn, 1) := by decide +kernel
theorem dX6_lay_0 : decode cX6_lay 0 = .ok (.aload_n 0, 1) := by decide +kernel
theorem dX6_lay_1 : decode cX6_lay 1 = .ok (.iload_n 1, 1) := by decide +kernel
theorem dX6_lay_2 : decode cX6_lay 2 = .ok (.putfield 15, 3) := by decide +kernel
theorem dX6_lay_5 : decode cX6_lay 5 = .ok (.aload_n 0, 1) := by decide +kernel
theorem dX6_lay_6 : decode cX6_lay 6 = .ok (.iload_n 2, 1) := by decide +kernel
theorem dX6_lay_7 : decode cX6_lay 7 = .ok (.aload_n 0, 1) := by decide +kernel
theorem dX6_lay_8 : decode cX6_lay 8 = .ok (.getfield 9, 3) := by decide +kernel
theorem dX6_lay_11 : decode cX6_lay 11 = .ok (.arraylength, 1) := by decide +kernel
theorem dX6_lay_12 : decode cX6_lay 12 = .ok (.invokestatic 19, 3) := by decide +kernel
theorem dX6_lay_15 : decode cX6_lay 15 = .ok (.putfield 25, 3) := by decide +kernel
theorem dX6_lay_18 : decode cX6_lay 18 = .ok (.iconst 0, 1) := by decide +kernel
theorem dX6_lay_19 : decode cX6_lay 19 = .ok (.istore_n 3, 1) := by decide +kernel
theorem dX6_lay_20 : decode cX6_lay 20 = .ok (.iload_n 3, 1) := by decide +kernel
theorem dX6_lay_21 : decode cX6_lay 21 = .ok (.aload_n 0, 1) := by decide +kernel
theorem dX6_lay_22 : decode cX6_lay 22 = .ok (.getfield 25, 3) := by decide +kernel
theorem dX6_lay_25 : decode cX6_lay 25 = .ok (.if_icmp .ge 16, 3) := by decide +kernel
theorem dX6_lay_28 : decode cX6_lay 28 = .ok (.aload_n 0, 1) := by decide +kernel
theorem dX6_lay_29 : decode cX6_lay 29 = .ok (.getfield 9, 3) := by decide +kernel
theorem dX6_lay_32 : decode cX6_lay 32 = .ok (.iload_n 3, 1) := by decide +kernel
theorem dX6_lay_33 : decode cX6_lay 33 = .ok (.lconst 0, 1) := by decide +kernel
theorem dX6_lay_34 : decode cX6_lay 34 = .ok (.lastore, 1) := by decide +kernel
theorem dX6_lay_35 : decode cX6_lay 35 = .ok (.iinc 3 1, 3) := by decide +kernel
theorem dX6_lay_38 : decode cX6_lay 38 = .ok (.goto (-18), 3) := by decide +kernel
theorem dX6_lay_41 : decode cX6_lay 41 = .ok (.return_, 1) := by decide +kernel
theorem dX6_clear_0 : decode cX6_clear 0 = .ok (.aload_n 0, 1) := by decide +kernel
theorem dX6_clear_1 : decode cX6_clear 1 = .ok (.iconst (-1), 1) := by decide +kernel
theorem dX6_clear_2 : decode cX6_clear 2 = .ok (.putfield 15, 3) := by decide +kernel
theorem dX6_clear_5 : decode cX6_clear 5 = .ok (.aload_n 0, 1) := by decide +kernel
theorem dX6_clear_6 : decode cX6_clear 6 = .ok (.iconst 0, 1) := by decide +kernel
theorem dX6_clear_7 : decode cX6_clear 7 = .ok (.putfield 25, 3) := by decide +kernel
theorem dX6_clear_10 : decode cX6_clear 10 = .ok (.return_, 1) := by decide +kernel
theorem dX6_hasStretch_0 : decode cX6_hasStretch 0 = .ok (.iload_n 1, 1) := by decide +kernel
theorem dX6_hasStretch_1 : decode cX6_hasStretch 1 = .ok (.ifCond .lt 29, 3) := by decide +kernel
theorem dX6_hasStretch_4 : decode cX6_hasStretch 4 = .ok (.iload_n 2, 1) := by decide +kernel
theorem dX6_hasStretch_5 : decode cX6_hasStretch 5 = .ok (.ifCond .lt 25, 3) := by decide +kernel
theorem dX6_hasStretch_8 : decode cX6_hasStretch 8 = .ok (.iload_n 2, 1) := by decide +kernel
theorem dX6_hasStretch_9 : decode cX6_hasStretch 9 = .ok (.aload_n 0, 1) := by decide +kernel
theorem dX6_hasStretch_10 : decode cX6_hasStretch 10 = .ok (.getfield 25, 3) := by decide +kernel
theorem dX6_hasStretch_13 : decode cX6_hasStretch 13 = .ok (.if_icmp .gt 17, 3) := by decide +kernel
theorem dX6_hasStretch_16 : decode cX6_hasStretch 16 = .ok (.iload_n 1, 1) := by decide +kernel
theorem dX6_hasStretch_17 : decode cX6_hasStretch 17 = .ok (.aload_n 0, 1) := by decide +kernel
theorem dX6_hasStretch_18 : decode cX6_hasStretch 18 = .ok (.getfield 25, 3) := by decide +kernel
theorem dX6_hasStretch_21 : decode cX6_hasStretch 21 = .ok (.iload_n 2, 1) := by decide +kernel
theorem dX6_hasStretch_22 : decode cX6_hasStretch 22 = .ok (.isub, 1) := by decide +kernel
theorem dX6_hasStretch_23 : decode cX6_hasStretch 23 = .ok (.if_icmp .gt 7, 3) := by decide +kernel
theorem dX6_hasStretch_26 : decode cX6_hasStretch 26 = .ok (.iconst 1, 1) := by decide +kernel
theorem dX6_hasStretch_27 : decode cX6_hasStretch 27 = .ok (.goto 4, 3) := by decide +kernel
theorem dX6_hasStretch_30 : decode cX6_hasStretch 30 = .ok (.iconst 0, 1) := by decide +kernel
theorem dX6_hasStretch_31 : decode cX6_hasStretch 31 = .ok (.ireturn, 1) := by decide +kernel
theorem dX6_number_0 : decode cX6_number 0 = .ok (.iload_n 1, 1) := by decide +kernel
theorem dX6_number_1 : decode cX6_number 1 = .ok (.ifCond .lt 20, 3) := by decide +kernel
theorem dX6_number_4 : decode cX6_number 4 = .ok (.iload_n 1, 1) := by decide +kernel
theorem dX6_number_5 : decode cX6_number 5 = .ok (.aload_n 0, 1) := by decide +kernel
theorem dX6_number_6 : decode cX6_number 6 = .ok (.getfield 25, 3) := by decide +kernel
theorem dX6_number_9 : decode cX6_number 9 = .ok (.if_icmp .ge 12, 3) := by decide +kernel
theorem dX6_number_12 : decode cX6_number 12 = .ok (.aload_n 0, 1) := by decide +kernel
theorem dX6_number_13 : decode cX6_number 13 = .ok (.getfield 9, 3) := by decide +kernel
theorem dX6_number_16 : decode cX6_number 16 = .ok (.iload_n 1, 1) := by decide +kernel
theorem dX6_number_17 : decode cX6_number 17 = .ok (.laload, 1) := by decide +kernel
theorem dX6_number_18 : decode cX6_number 18 = .ok (.goto 4, 3) := by decide +kernel
theorem dX6_number_21 : decode cX6_number 21 = .ok (.lconst 0, 1) := by decide +kernel
theorem dX6_number_22 : decode cX6_number 22 = .ok (.lreturn, 1) := by decide +kernel
theorem dX6_put_0 : decode cX6_put 0 = .ok (.iload_n 1, 1) := by decide +kernel
theorem dX6_put_1 : decode cX6_put 1 = .ok (.ifCond .lt 22, 3) := by decide +kernel
theorem dX6_put_4 : decode cX6_put 4 = .ok (.iload_n 1, 1) := by decide +kernel
theorem dX6_put_5 : decode cX6_put 5 = .ok (.aload_n 0, 1) := by decide +kernel
theorem dX6_put_6 : decode cX6_put 6 = .ok (.getfield 25, 3) := by decide +kernel
theorem dX6_put_9 : decode cX6_put 9 = .ok (.if_icmp .ge 14, 3) := by decide +kernel
theorem dX6_put_12 : decode cX6_put 12 = .ok (.aload_n 0, 1) := by decide +kernel
theorem dX6_put_13 : decode cX6_put 13 = .ok (.getfield 9, 3) := by decide +kernel
theorem dX6_put_16 : decode cX6_put 16 = .ok (.iload_n 1, 1) := by decide +kernel
theorem dX6_put_17 : decode cX6_put 17 = .ok (.aload_n 0, 1) := by decide +kernel
theorem dX6_put_18 : decode cX6_put 18 = .ok (.lload_n 2, 1) := by decide +kernel
theorem dX6_put_19 : decode cX6_put 19 = .ok (.invokevirtual 28, 3) := by decide +kernel
theorem dX6_put_22 : decode cX6_put 22 = .ok (.lastore, 1) := by decide +kernel
theorem dX6_put_23 : decode cX6_put 23 = .ok (.return_, 1) := by decide +kernel
theorem dX6_cut_0 : decode cX6_cut 0 = .ok (.aload_n 0, 1) := by decide +kernel
theorem dX6_cut_1 : decode cX6_cut 1 = .ok (.getfield 15, 3) := by decide +kernel
theorem dX6_cut_4 : decode cX6_cut 4 = .ok (.tableswitch 42 0 2 #[28, 33, 38], 28) := by decide +kernel
theorem dX6_cut_32 : decode cX6_cut 32 = .ok (.lload_n 1, 1) := by decide +kernel
theorem dX6_cut_33 : decode cX6_cut 33 = .ok (.l2i, 1) := by decide +kernel
theorem dX6_cut_34 : decode cX6_cut 34 = .ok (.i2b, 1) := by decide +kernel
theorem dX6_cut_35 : decode cX6_cut 35 = .ok (.i2l, 1) := by decide +kernel
theorem dX6_cut_36 : decode cX6_cut 36 = .ok (.lreturn, 1) := by decide +kernel
theorem dX6_cut_37 : decode cX6_cut 37 = .ok (.lload_n 1, 1) := by decide +kernel
theorem dX6_cut_38 : decode cX6_cut 38 = .ok (.l2i, 1) := by decide +kernel
theorem dX6_cut_39 : decode cX6_cut 39 = .ok (.i2s, 1) := by decide +kernel
theorem dX6_cut_40 : decode cX6_cut 40 = .ok (.i2l, 1) := by decide +kernel
theorem dX6_cut_41 : decode cX6_cut 41 = .ok (.lreturn, 1) := by decide +kernel
theorem dX6_cut_42 : decode cX6_cut 42 = .ok (.lload_n 1, 1) := by decide +kernel
theorem dX6_cut_43 : decode cX6_cut 43 = .ok (.l2i, 1) := by decide +kernel
theorem dX6_cut_44 : decode cX6_cut 44 = .ok (.i2l, 1) := by decide +kernel
theorem dX6_cut_45 : decode cX6_cut 45 = .ok (.lreturn, 1) := by decide +kernel
theorem dX6_cut_46 : decode cX6_cut 46 = .ok (.lload_n 1, 1) := by decide +kernel
theorem dX6_cut_47 : decode cX6_cut 47 = .ok (.lreturn, 1) := by decide +kernel
theorem dX7_init_0 : decode cX7_init 0 = .ok (.aload_n 0, 1) := by decide +kernel
theorem dX7_init_1 : decode cX7_init 1 = .ok (.invokespecial 3, 3) := by decide +kernel
theorem dX7_init_4 : decode cX7_init 4 = .ok (.aload_n 0, 1) := by decide +kernel
theorem dX7_init_5 : decode cX7_init 5 = .ok (.bipush 64, 2) := by decide +kernel
theorem dX7_init_7 : decode cX7_init 7 = .ok (.newarray .long, 2) := by decide +kernel
theorem dX7_init_9 : decode cX7_init 9 = .ok (.putfield 11, 3) := by decide +kernel
theorem dX7_init_12 : decode cX7_init 12 = .ok (.aload_n 0, 1) := by decide +kernel
theorem dX7_init_13 : decode cX7_init 13 = .ok (.sipush 150, 3) := by decide +kernel
theorem dX7_init_16 : decode cX7_init 16 = .ok (.newarray .int, 2) := by decide +kernel
theorem dX7_init_18 : decode cX7_init 18 = .ok (.putfield 15, 3) := by decide +kernel
theorem dX7_init_21 : decode cX7_init 21 = .ok (.return_, 1) := by decide +kernel
theorem dX7_forgetBreach_0 : decode cX7_forgetBreach 0 = .ok (.aload_n 0, 1) := by decide +kernel
theorem dX7_forgetBreach_1 : decode cX7_forgetBreach 1 = .ok (.iconst 0, 1) := by decide +kernel
theorem dX7_forgetBreach_2 : decode cX7_forgetBreach 2 = .ok (.iconst 0, 1) := by decide +kernel
theorem dX7_forgetBreach_3 : decode cX7_forgetBreach 3 = .ok (.iconst 0, 1) := by decide +kernel
theorem dX7_forgetBreach_4 : decode cX7_forgetBreach 4 = .ok (.invokevirtual 19, 3) := by decide +kernel
theorem dX7_forgetBreach_7 : decode cX7_forgetBreach 7 = .ok (.return_, 1) := by decide +kernel
theorem dX7_readSets_0 : decode cX7_readSets 0 = .ok (.iconst 0, 1) := by decide +kernel
theorem dX7_readSets_1 : decode cX7_readSets 1 = .ok (.istore_n 3, 1) := by decide +kernel
theorem dX7_readSets_2 : decode cX7_readSets 2 = .ok (.iload_n 3, 1) := by decide +kernel
theorem dX7_readSets_3 : decode cX7_readSets 3 = .ok (.aload_n 0, 1) := by decide +kernel
theorem dX7_readSets_4 : decode cX7_readSets 4 = .ok (.getfield 11, 3) := by decide +kernel
theorem dX7_readSets_7 : decode cX7_readSets 7 = .ok (.arraylength, 1) := by decide +kernel
theorem dX7_readSets_8 : decode cX7_readSets 8 = .ok (.if_icmp .ge 16, 3) := by decide +kernel
theorem dX7_readSets_11 : decode cX7_readSets 11 = .ok (.aload_n 0, 1) := by decide +kernel
theorem dX7_readSets_12 : decode cX7_readSets 12 = .ok (.getfield 11, 3) := by decide +kernel
theorem dX7_readSets_15 : decode cX7_readSets 15 = .ok (.iload_n 3, 1) := by decide +kernel
theorem dX7_readSets_16 : decode cX7_readSets 16 = .ok (.lconst 0, 1) := by decide +kernel
theorem dX7_readSets_17 : decode cX7_readSets 17 = .ok (.lastore, 1) := by decide +kernel
theorem dX7_readSets_18 : decode cX7_readSets 18 = .ok (.iinc 3 1, 3) := by decide +kernel
theorem dX7_readSets_21 : decode cX7_readSets 21 = .ok (.goto (-19), 3) := by decide +kernel
theorem dX7_readSets_24 : decode cX7_readSets 24 = .ok (.aload_n 1, 1) := by decide +kernel
theorem dX7_readSets_25 : decode cX7_readSets 25 = .ok (.iconst 0, 1) := by decide +kernel
theorem dX7_readSets_26 : decode cX7_readSets 26 = .ok (.sipush 150, 3) := by decide +kernel
theorem dX7_readSets_29 : decode cX7_readSets 29 = .ok (.invokevirtual 23, 3) := by decide +kernel
theorem dX7_readSets_32 : decode cX7_readSets 32 = .ok (.istore_n 3, 1) := by decide +kernel
theorem dX7_readSets_33 : decode cX7_readSets 33 = .ok (.iconst 0, 1) := by decide +kernel
theorem dX7_readSets_34 : decode cX7_readSets 34 = .ok (.istore 4, 2) := by decide +kernel
theorem dX7_readSets_36 : decode cX7_readSets 36 = .ok (.iload 4, 2) := by decide +kernel
theorem dX7_readSets_38 : decode cX7_readSets 38 = .ok (.iload_n 3, 1) := by decide +kernel
theorem dX7_readSets_39 : decode cX7_readSets 39 = .ok (.if_icmp .ge 50, 3) := by decide +kernel
theorem dX7_readSets_42 : decode cX7_readSets 42 = .ok (.aload_n 1, 1) := by decide +kernel
theorem dX7_readSets_43 : decode cX7_readSets 43 = .ok (.iconst 0, 1) := by decide +kernel
theorem dX7_readSets_44 : decode cX7_readSets 44 = .ok (.iload_n 2, 1) := by decide +kernel
theorem dX7_readSets_45 : decode cX7_readSets 45 = .ok (.invokevirtual 23, 3) := by decide +kernel
theorem dX7_readSets_48 : decode cX7_readSets 48 = .ok (.istore 5, 2) := by decide +kernel
theorem dX7_readSets_50 : decode cX7_readSets 50 = .ok (.iload 5, 2) := by decide +kernel
theorem dX7_readSets_52 : decode cX7_readSets 52 = .ok (.bipush 6, 2) := by decide +kernel
theorem dX7_readSets_54 : decode cX7_readSets 54 = .ok (.ishr, 1) := by decide +kernel
theorem dX7_readSets_55 : decode cX7_readSets 55 = .ok (.aload_n 0, 1) := by decide +kernel
theorem dX7_readSets_56 : decode cX7_readSets 56 = .ok (.getfield 11, 3) := by decide +kernel
theorem dX7_readSets_59 : decode cX7_readSets 59 = .ok (.arraylength, 1) := by decide +kernel
theorem dX7_readSets_60 : decode cX7_readSets 60 = .ok (.if_icmp .ge 23, 3) := by decide +kernel
theorem dX7_readSets_63 : decode cX7_readSets 63 = .ok (.aload_n 0, 1) := by decide +kernel
theorem dX7_readSets_64 : decode cX7_readSets 64 = .ok (.getfield 11, 3) := by decide +kernel
theorem dX7_readSets_67 : decode cX7_readSets 67 = .ok (.iload 5, 2) := by decide +kernel
theorem dX7_readSets_69 : decode cX7_readSets 69 = .ok (.bipush 6, 2) := by decide +kernel
theorem dX7_readSets_71 : decode cX7_readSets 71 = .ok (.ishr, 1) := by decide +kernel
theorem dX7_readSets_72 : decode cX7_readSets 72 = .ok (.dup2, 1) := by decide +kernel
theorem dX7_readSets_73 : decode cX7_readSets 73 = .ok (.laload, 1) := by decide +kernel
theorem dX7_readSets_74 : decode cX7_readSets 74 = .ok (.lconst 1, 1) := by decide +kernel
theorem dX7_readSets_75 : decode cX7_readSets 75 = .ok (.iload 5, 2) := by decide +kernel
theorem dX7_readSets_77 : decode cX7_readSets 77 = .ok (.bipush 63, 2) := by decide +kernel
theorem dX7_readSets_79 : decode cX7_readSets 79 = .ok (.iand, 1) := by decide +kernel
theorem dX7_readSets_80 : decode cX7_readSets 80 = .ok (.lshl, 1) := by decide +kernel
theorem dX7_readSets_81 : decode cX7_readSets 81 = .ok (.lor, 1) := by decide +kernel
theorem dX7_readSets_82 : decode cX7_readSets 82 = .ok (.lastore, 1) := by decide +kernel
theorem dX7_readSets_83 : decode cX7_readSets 83 = .ok (.iinc 4 1, 3) := by decide +kernel
theorem dX7_readSets_86 : decode cX7_readSets 86 = .ok (.goto (-50), 3) := by decide +kernel
theorem dX7_readSets_89 : decode cX7_readSets 89 = .ok (.return_, 1) := by decide +kernel
theorem dX7_fits_0 : decode cX7_fits 0 = .ok (.iload_n 1, 1) := by decide +kernel
theorem dX7_fits_1 : decode cX7_fits 1 = .ok (.ifCond .lt 35, 3) := by decide +kernel
theorem dX7_fits_4 : decode cX7_fits 4 = .ok (.iload_n 1, 1) := by decide +kernel
theorem dX7_fits_5 : decode cX7_fits 5 = .ok (.sipush 4096, 3) := by decide +kernel
theorem dX7_fits_8 : decode cX7_fits 8 = .ok (.if_icmp .ge 28, 3) := by decide +kernel
theorem dX7_fits_11 : decode cX7_fits 11 = .ok (.aload_n 0, 1) := by decide +kernel
theorem dX7_fits_12 : decode cX7_fits 12 = .ok (.getfield 11, 3) := by decide +kernel
theorem dX7_fits_15 : decode cX7_fits 15 = .ok (.iload_n 1, 1) := by decide +kernel
theorem dX7_fits_16 : decode cX7_fits 16 = .ok (.bipush 6, 2) := by decide +kernel
theorem dX7_fits_18 : decode cX7_fits 18 = .ok (.ishr, 1) := by decide +kernel
theorem dX7_fits_19 : decode cX7_fits 19 = .ok (.laload, 1) := by decide +kernel
theorem dX7_fits_20 : decode cX7_fits 20 = .ok (.iload_n 1, 1) := by decide +kernel
theorem dX7_fits_21 : decode cX7_fits 21 = .ok (.bipush 63, 2) := by decide +kernel
theorem dX7_fits_23 : decode cX7_fits 23 = .ok (.iand, 1) := by decide +kernel
theorem dX7_fits_24 : decode cX7_fits 24 = .ok (.lshr, 1) := by decide +kernel
theorem dX7_fits_25 : decode cX7_fits 25 = .ok (.lconst 1, 1) := by decide +kernel
theorem dX7_fits_26 : decode cX7_fits 26 = .ok (.land, 1) := by decide +kernel
theorem dX7_fits_27 : decode cX7_fits 27 = .ok (.lconst 0, 1) := by decide +kernel
theorem dX7_fits_28 : decode cX7_fits 28 = .ok (.lcmp, 1) := by decide +kernel
theorem dX7_fits_29 : decode cX7_fits 29 = .ok (.ifCond .eq 7, 3) := by decide +kernel
theorem dX7_fits_32 : decode cX7_fits 32 = .ok (.iconst 1, 1) := by decide +kernel
theorem dX7_fits_33 : decode cX7_fits 33 = .ok (.goto 4, 3) := by decide +kernel
theorem dX7_fits_36 : decode cX7_fits 36 = .ok (.iconst 0, 1) := by decide +kernel
theorem dX7_fits_37 : decode cX7_fits 37 = .ok (.ireturn, 1) := by decide +kernel
theorem dX7_breaksLaw_0 : decode cX7_breaksLaw 0 = .ok (.aload_n 0, 1) := by decide +kernel
theorem dX7_breaksLaw_1 : decode cX7_breaksLaw 1 = .ok (.iload_n 1, 1) := by decide +kernel
theorem dX7_breaksLaw_2 : decode cX7_breaksLaw 2 = .ok (.invokevirtual 29, 3) := by decide +kernel
theorem dX7_breaksLaw_5 : decode cX7_breaksLaw 5 = .ok (.aload_n 0, 1) := by decide +kernel
theorem dX7_breaksLaw_6 : decode cX7_breaksLaw 6 = .ok (.iconst 0, 1) := by decide +kernel
theorem dX7_breaksLaw_7 : decode cX7_breaksLaw 7 = .ok (.invokevirtual 33, 3) := by decide +kernel
theorem dX7_breaksLaw_10 : decode cX7_breaksLaw 10 = .ok (.ifCond .ne 12, 3) := by decide +kernel
theorem dX7_breaksLaw_13 : decode cX7_breaksLaw 13 = .ok (.aload_n 0, 1) := by decide +kernel
theorem dX7_breaksLaw_14 : decode cX7_breaksLaw 14 = .ok (.iconst 1, 1) := by decide +kernel
theorem dX7_breaksLaw_15 : decode cX7_breaksLaw 15 = .ok (.iconst 0, 1) := by decide +kernel
theorem dX7_breaksLaw_16 : decode cX7_breaksLaw 16 = .ok (.iconst 0, 1) := by decide +kernel
theorem dX7_breaksLaw_17 : decode cX7_breaksLaw 17 = .ok (.invokevirtual 19, 3) := by decide +kernel
theorem dX7_breaksLaw_20 : decode cX7_breaksLaw 20 = .ok (.iconst 1, 1) := by decide +kernel
theorem dX7_breaksLaw_21 : decode cX7_breaksLaw 21 = .ok (.ireturn, 1) := by decide +kernel
theorem dX7_breaksLaw_22 : decode cX7_breaksLaw 22 = .ok (.aload_n 0, 1) := by decide +kernel
theorem dX7_breaksLaw_23 : decode cX7_breaksLaw 23 = .ok (.invokevirtual 37, 3) := by decide +kernel
theorem dX7_breaksLaw_26 : decode cX7_breaksLaw 26 = .ok (.ifCond .ne 11, 3) := by decide +kernel
theorem dX7_breaksLaw_29 : decode cX7_breaksLaw 29 = .ok (.aload_n 0, 1) := by decide +kernel
theorem dX7_breaksLaw_30 : decode cX7_breaksLaw 30 = .ok (.iload_n 1, 1) := by decide +kernel
theorem dX7_breaksLaw_31 : decode cX7_breaksLaw 31 = .ok (.invokevirtual 41, 3) := by decide +kernel
theorem dX7_breaksLaw_34 : decode cX7_breaksLaw 34 = .ok (.ifCond .eq 7, 3) := by decide +kernel
theorem dX7_breaksLaw_37 : decode cX7_breaksLaw 37 = .ok (.iconst 1, 1) := by decide +kernel
theorem dX7_breaksLaw_38 : decode cX7_breaksLaw 38 = .ok (.goto 4, 3) := by decide +kernel
theorem dX7_breaksLaw_41 : decode cX7_breaksLaw 41 = .ok (.iconst 0, 1) := by decide +kernel
theorem dX7_breaksLaw_42 : decode cX7_breaksLaw 42 = .ok (.ireturn, 1) := by decide +kernel
theorem dX7_noteBreach_0 : decode cX7_noteBreach 0 = .ok (.aload_n 0, 1) := by decide +kernel
theorem dX7_noteBreach_1 : decode cX7_noteBreach 1 = .ok (.iload_n 1, 1) := by decide +kernel
theorem dX7_noteBreach_2 : decode cX7_noteBreach 2 = .ok (.putfield 44, 3) := by decide +kernel
theorem dX7_noteBreach_5 : decode cX7_noteBreach 5 = .ok (.aload_n 0, 1) := by decide +kernel
theorem dX7_noteBreach_6 : decode cX7_noteBreach 6 = .ok (.iload_n 2, 1) := by decide +kernel
theorem dX7_noteBreach_7 : decode cX7_noteBreach 7 = .ok (.putfield 48, 3) := by decide +kernel
theorem dX7_noteBreach_10 : decode cX7_noteBreach 10 = .ok (.aload_n 0, 1) := by decide +kernel
theorem dX7_noteBreach_11 : decode cX7_noteBreach 11 = .ok (.iload_n 3, 1) := by decide +kernel
theorem dX7_noteBreach_12 : decode cX7_noteBreach 12 = .ok (.putfield 51, 3) := by decide +kernel
theorem dX7_noteBreach_15 : decode cX7_noteBreach 15 = .ok (.return_, 1) := by decide +kernel
theorem dX7_listSets_0 : decode cX7_listSets 0 = .ok (.aload_n 0, 1) := by decide +kernel
theorem dX7_listSets_1 : decode cX7_listSets 1 = .ok (.iconst 0, 1) := by decide +kernel
theorem dX7_listSets_2 : decode cX7_listSets 2 = .ok (.putfield 54, 3) := by decide +kernel
theorem dX7_listSets_5 : decode cX7_listSets 5 = .ok (.iconst 0, 1) := by decide +kernel
theorem dX7_listSets_6 : decode cX7_listSets 6 = .ok (.istore_n 2, 1) := by decide +kernel
theorem dX7_listSets_7 : decode cX7_listSets 7 = .ok (.iload_n 2, 1) := by decide +kernel
theorem dX7_listSets_8 : decode cX7_listSets 8 = .ok (.iload_n 1, 1) := by decide +kernel
theorem dX7_listSets_9 : decode cX7_listSets 9 = .ok (.if_icmp .gt 49, 3) := by decide +kernel
theorem dX7_listSets_12 : decode cX7_listSets 12 = .ok (.aload_n 0, 1) := by decide +kernel
theorem dX7_listSets_13 : decode cX7_listSets 13 = .ok (.getfield 54, 3) := by decide +kernel
theorem dX7_listSets_16 : decode cX7_listSets 16 = .ok (.aload_n 0, 1) := by decide +kernel
theorem dX7_listSets_17 : decode cX7_listSets 17 = .ok (.getfield 15, 3) := by decide +kernel
theorem dX7_listSets_20 : decode cX7_listSets 20 = .ok (.arraylength, 1) := by decide +kernel
theorem dX7_listSets_21 : decode cX7_listSets 21 = .ok (.if_icmp .ge 37, 3) := by decide +kernel
theorem dX7_listSets_24 : decode cX7_listSets 24 = .ok (.aload_n 0, 1) := by decide +kernel
theorem dX7_listSets_25 : decode cX7_listSets 25 = .ok (.iload_n 2, 1) := by decide +kernel
theorem dX7_listSets_26 : decode cX7_listSets 26 = .ok (.invokevirtual 33, 3) := by decide +kernel
theorem dX7_listSets_29 : decode cX7_listSets 29 = .ok (.ifCond .eq 23, 3) := by decide +kernel
theorem dX7_listSets_32 : decode cX7_listSets 32 = .ok (.aload_n 0, 1) := by decide +kernel
theorem dX7_listSets_33 : decode cX7_listSets 33 = .ok (.getfield 15, 3) := by decide +kernel
theorem dX7_listSets_36 : decode cX7_listSets 36 = .ok (.aload_n 0, 1) := by decide +kernel
theorem dX7_listSets_37 : decode cX7_listSets 37 = .ok (.getfield 54, 3) := by decide +kernel
theorem dX7_listSets_40 : decode cX7_listSets 40 = .ok (.iload_n 2, 1) := by decide +kernel
theorem dX7_listSets_41 : decode cX7_listSets 41 = .ok (.iastore, 1) := by decide +kernel
theorem dX7_listSets_42 : decode cX7_listSets 42 = .ok (.aload_n 0, 1) := by decide +kernel
theorem dX7_listSets_43 : decode cX7_listSets 43 = .ok (.dup, 1) := by decide +kernel
theorem dX7_listSets_44 : decode cX7_listSets 44 = .ok (.getfield 54, 3) := by decide +kernel
theorem dX7_listSets_47 : decode cX7_listSets 47 = .ok (.iconst 1, 1) := by decide +kernel
theorem dX7_listSets_48 : decode cX7_listSets 48 = .ok (.iadd, 1) := by decide +kernel
theorem dX7_listSets_49 : decode cX7_listSets 49 = .ok (.putfield 54, 3) := by decide +kernel
theorem dX7_listSets_52 : decode cX7_listSets 52 = .ok (.iinc 2 1, 3) := by decide +kernel
theorem dX7_listSets_55 : decode cX7_listSets 55 = .ok (.goto (-48), 3) := by decide +kernel
theorem dX7_listSets_58 : decode cX7_listSets 58 = .ok (.return_, 1) := by decide +kernel
theorem dX7_lacksPart_0 : decode cX7_lacksPart 0 = .ok (.iconst 0, 1) := by decide +kernel
theorem dX7_lacksPart_1 : decode cX7_lacksPart 1 = .ok (.istore_n 1, 1) := by decide +kernel
theorem dX7_lacksPart_2 : decode cX7_lacksPart 2 = .ok (.iload_n 1, 1) := by decide +kernel
theorem dX7_lacksPart_3 : decode cX7_lacksPart 3 = .ok (.aload_n 0, 1) := by decide +kernel
theorem dX7_lacksPart_4 : decode cX7_lacksPart 4 = .ok (.getfield 54, 3) := by decide +kernel
theorem dX7_lacksPart_7 : decode cX7_lacksPart 7 = .ok (.if_icmp .ge 39, 3) := by decide +kernel
theorem dX7_lacksPart_10 : decode cX7_lacksPart 10 = .ok (.aload_n 0, 1) := by decide +kernel
theorem dX7_lacksPart_11 : decode cX7_lacksPart 11 = .ok (.aload_n 0, 1) := by decide +kernel
theorem dX7_lacksPart_12 : decode cX7_lacksPart 12 = .ok (.getfield 15, 3) := by decide +kernel
theorem dX7_lacksPart_15 : decode cX7_lacksPart 15 = .ok (.iload_n 1, 1) := by decide +kernel
theorem dX7_lacksPart_16 : decode cX7_lacksPart 16 = .ok (.iaload, 1) := by decide +kernel
theorem dX7_lacksPart_17 : decode cX7_lacksPart 17 = .ok (.invokevirtual 57, 3) := by decide +kernel
theorem dX7_lacksPart_20 : decode cX7_lacksPart 20 = .ok (.istore_n 2, 1) := by decide +kernel
theorem dX7_lacksPart_21 : decode cX7_lacksPart 21 = .ok (.iload_n 2, 1) := by decide +kernel
theorem dX7_lacksPart_22 : decode cX7_lacksPart 22 = .ok (.iconst (-1), 1) := by decide +kernel
theorem dX7_lacksPart_23 : decode cX7_lacksPart 23 = .ok (.if_icmp .eq 17, 3) := by decide +kernel
theorem dX7_lacksPart_26 : decode cX7_lacksPart 26 = .ok (.aload_n 0, 1) := by decide +kernel
theorem dX7_lacksPart_27 : decode cX7_lacksPart 27 = .ok (.iconst 2, 1) := by decide +kernel
theorem dX7_lacksPart_28 : decode cX7_lacksPart 28 = .ok (.aload_n 0, 1) := by decide +kernel
theorem dX7_lacksPart_29 : decode cX7_lacksPart 29 = .ok (.getfield 15, 3) := by decide +kernel
theorem dX7_lacksPart_32 : decode cX7_lacksPart 32 = .ok (.iload_n 1, 1) := by decide +kernel
theorem dX7_lacksPart_33 : decode cX7_lacksPart 33 = .ok (.iaload, 1) := by decide +kernel
theorem dX7_lacksPart_34 : decode cX7_lacksPart 34 = .ok (.iload_n 2, 1) := by decide +kernel
theorem dX7_lacksPart_35 : decode cX7_lacksPart 35 = .ok (.invokevirtual 19, 3) := by decide +kernel
theorem dX7_lacksPart_38 : decode cX7_lacksPart 38 = .ok (.iconst 1, 1) := by decide +kernel
theorem dX7_lacksPart_39 : decode cX7_lacksPart 39 = .ok (.ireturn, 1) := by decide +kernel
theorem dX7_lacksPart_40 : decode cX7_lacksPart 40 = .ok (.iinc 1 1, 3) := by decide +kernel
theorem dX7_lacksPart_43 : decode cX7_lacksPart 43 = .ok (.goto (-41), 3) := by decide +kernel
theorem dX7_lacksPart_46 : decode cX7_lacksPart 46 = .ok (.iconst 0, 1) := by decide +kernel
theorem dX7_lacksPart_47 : decode cX7_lacksPart 47 = .ok (.ireturn, 1) := by decide +kernel
theorem dX7_leastPartNotTold_0 : decode cX7_leastPartNotTold 0 = .ok (.iconst 0, 1) := by decide +kernel
theorem dX7_leastPartNotTold_1 : decode cX7_leastPartNotTold 1 = .ok (.istore_n 2, 1) := by decide +kernel
theorem dX7_leastPartNotTold_2 : decode cX7_leastPartNotTold 2 = .ok (.iconst 0, 1) := by decide +kernel
theorem dX7_leastPartNotTold_3 : decode cX7_leastPartNotTold 3 = .ok (.istore_n 3, 1) := by decide +kernel
theorem dX7_leastPartNotTold_4 : decode cX7_leastPartNotTold 4 = .ok (.iload_n 3, 1) := by decide +kernel
theorem dX7_leastPartNotTold_5 : decode cX7_leastPartNotTold 5 = .ok (.sipush 4096, 3) := by decide +kernel
theorem dX7_leastPartNotTold_8 : decode cX7_leastPartNotTold 8 = .ok (.if_icmp .ge 30, 3) := by decide +kernel
theorem dX7_leastPartNotTold_11 : decode cX7_leastPartNotTold 11 = .ok (.iload_n 2, 1) := by decide +kernel
theorem dX7_leastPartNotTold_12 : decode cX7_leastPartNotTold 12 = .ok (.iload_n 1, 1) := by decide +kernel
theorem dX7_leastPartNotTold_13 : decode cX7_leastPartNotTold 13 = .ok (.if_icmp .ge 25, 3) := by decide +kernel
theorem dX7_leastPartNotTold_16 : decode cX7_leastPartNotTold 16 = .ok (.aload_n 0, 1) := by decide +kernel
theorem dX7_leastPartNotTold_17 : decode cX7_leastPartNotTold 17 = .ok (.iload_n 2, 1) := by decide +kernel
theorem dX7_leastPartNotTold_18 : decode cX7_leastPartNotTold 18 = .ok (.invokevirtual 33, 3) := by decide +kernel
theorem dX7_leastPartNotTold_21 : decode cX7_leastPartNotTold 21 = .ok (.ifCond .ne 5, 3) := by decide +kernel
theorem dX7_leastPartNotTold_24 : decode cX7_leastPartNotTold 24 = .ok (.iload_n 2, 1) := by decide +kernel
theorem dX7_leastPartNotTold_25 : decode cX7_leastPartNotTold 25 = .ok (.ireturn, 1) := by decide +kernel
theorem dX7_leastPartNotTold_26 : decode cX7_leastPartNotTold 26 = .ok (.iload_n 2, 1) := by decide +kernel
theorem dX7_leastPartNotTold_27 : decode cX7_leastPartNotTold 27 = .ok (.iload_n 1, 1) := by decide +kernel
theorem dX7_leastPartNotTold_28 : decode cX7_leastPartNotTold 28 = .ok (.isub, 1) := by decide +kernel
theorem dX7_leastPartNotTold_29 : decode cX7_leastPartNotTold 29 = .ok (.iload_n 1, 1) := by decide +kernel
theorem dX7_leastPartNotTold_30 : decode cX7_leastPartNotTold 30 = .ok (.iand, 1) := by decide +kernel
theorem dX7_leastPartNotTold_31 : decode cX7_leastPartNotTold 31 = .ok (.istore_n 2, 1) := by decide +kernel
theorem dX7_leastPartNotTold_32 : decode cX7_leastPartNotTold 32 = .ok (.iinc 3 1, 3) := by decide +kernel
theorem dX7_leastPartNotTold_35 : decode cX7_leastPartNotTold 35 = .ok (.goto (-31), 3) := by decide +kernel
theorem dX7_leastPartNotTold_38 : decode cX7_leastPartNotTold 38 = .ok (.iconst (-1), 1) := by decide +kernel
theorem dX7_leastPartNotTold_39 : decode cX7_leastPartNotTold 39 = .ok (.ireturn, 1) := by decide +kernel
theorem dX7_lacksExchange_0 : decode cX7_lacksExchange 0 = .ok (.iconst 0, 1) := by decide +kernel
theorem dX7_lacksExchange_1 : decode cX7_lacksExchange 1 = .ok (.istore_n 2, 1) := by decide +kernel
theorem dX7_lacksExchange_2 : decode cX7_lacksExchange 2 = .ok (.iload_n 2, 1) := by decide +kernel
theorem dX7_lacksExchange_3 : decode cX7_lacksExchange 3 = .ok (.aload_n 0, 1) := by decide +kernel
theorem dX7_lacksExchange_4 : decode cX7_lacksExchange 4 = .ok (.getfield 54, 3) := by decide +kernel
theorem dX7_lacksExchange_7 : decode cX7_lacksExchange 7 = .ok (.if_icmp .ge 40, 3) := by decide +kernel
theorem dX7_lacksExchange_10 : decode cX7_lacksExchange 10 = .ok (.aload_n 0, 1) := by decide +kernel
theorem dX7_lacksExchange_11 : decode cX7_lacksExchange 11 = .ok (.aload_n 0, 1) := by decide +kernel
theorem dX7_lacksExchange_12 : decode cX7_lacksExchange 12 = .ok (.getfield 15, 3) := by decide +kernel
theorem dX7_lacksExchange_15 : decode cX7_lacksExchange 15 = .ok (.iload_n 2, 1) := by decide +kernel
theorem dX7_lacksExchange_16 : decode cX7_lacksExchange 16 = .ok (.iaload, 1) := by decide +kernel
theorem dX7_lacksExchange_17 : decode cX7_lacksExchange 17 = .ok (.iload_n 1, 1) := by decide +kernel
theorem dX7_lacksExchange_18 : decode cX7_lacksExchange 18 = .ok (.invokevirtual 61, 3) := by decide +kernel
theorem dX7_lacksExchange_21 : decode cX7_lacksExchange 21 = .ok (.istore_n 3, 1) := by decide +kernel
theorem dX7_lacksExchange_22 : decode cX7_lacksExchange 22 = .ok (.iload_n 3, 1) := by decide +kernel
theorem dX7_lacksExchange_23 : decode cX7_lacksExchange 23 = .ok (.iconst (-1), 1) := by decide +kernel
theorem dX7_lacksExchange_24 : decode cX7_lacksExchange 24 = .ok (.if_icmp .eq 17, 3) := by decide +kernel
theorem dX7_lacksExchange_27 : decode cX7_lacksExchange 27 = .ok (.aload_n 0, 1) := by decide +kernel
theorem dX7_lacksExchange_28 : decode cX7_lacksExchange 28 = .ok (.iconst 3, 1) := by decide +kernel
theorem dX7_lacksExchange_29 : decode cX7_lacksExchange 29 = .ok (.aload_n 0, 1) := by decide +kernel
theorem dX7_lacksExchange_30 : decode cX7_lacksExchange 30 = .ok (.getfield 15, 3) := by decide +kernel
theorem dX7_lacksExchange_33 : decode cX7_lacksExchange 33 = .ok (.iload_n 2, 1) := by decide +kernel
theorem dX7_lacksExchange_34 : decode cX7_lacksExchange 34 = .ok (.iaload, 1) := by decide +kernel
theorem dX7_lacksExchange_35 : decode cX7_lacksExchange 35 = .ok (.iload_n 3, 1) := by decide +kernel
theorem dX7_lacksExchange_36 : decode cX7_lacksExchange 36 = .ok (.invokevirtual 19, 3) := by decide +kernel
theorem dX7_lacksExchange_39 : decode cX7_lacksExchange 39 = .ok (.iconst 1, 1) := by decide +kernel
theorem dX7_lacksExchange_40 : decode cX7_lacksExchange 40 = .ok (.ireturn, 1) := by decide +kernel
theorem dX7_lacksExchange_41 : decode cX7_lacksExchange 41 = .ok (.iinc 2 1, 3) := by decide +kernel
theorem dX7_lacksExchange_44 : decode cX7_lacksExchange 44 = .ok (.goto (-42), 3) := by decide +kernel
theorem dX7_lacksExchange_47 : decode cX7_lacksExchange 47 = .ok (.iconst 0, 1) := by decide +kernel
theorem dX7_lacksExchange_48 : decode cX7_lacksExchange 48 = .ok (.ireturn, 1) := by decide +kernel
theorem dX7_leastWithNoneToCome_0 : decode cX7_leastWithNoneToCome 0 = .ok (.aload_n 0, 1) := by decide +kernel
theorem dX7_leastWithNoneToCome_1 : decode cX7_leastWithNoneToCome 1 = .ok (.iload_n 1, 1) := by decide +kernel
theorem dX7_leastWithNoneToCome_2 : decode cX7_leastWithNoneToCome 2 = .ok (.iload_n 2, 1) := by decide +kernel
theorem dX7_leastWithNoneToCome_3 : decode cX7_leastWithNoneToCome 3 = .ok (.invokevirtual 64, 3) := by decide +kernel
theorem dX7_leastWithNoneToCome_6 : decode cX7_leastWithNoneToCome 6 = .ok (.istore_n 3, 1) := by decide +kernel
theorem dX7_leastWithNoneToCome_7 : decode cX7_leastWithNoneToCome 7 = .ok (.iconst 0, 1) := by decide +kernel
theorem dX7_leastWithNoneToCome_8 : decode cX7_leastWithNoneToCome 8 = .ok (.istore 4, 2) := by decide +kernel
theorem dX7_leastWithNoneToCome_10 : decode cX7_leastWithNoneToCome 10 = .ok (.iload 4, 2) := by decide +kernel
theorem dX7_leastWithNoneToCome_12 : decode cX7_leastWithNoneToCome 12 = .ok (.aload_n 0, 1) := by decide +kernel
theorem dX7_leastWithNoneToCome_13 : decode cX7_leastWithNoneToCome 13 = .ok (.getfield 54, 3) := by decide +kernel
theorem dX7_leastWithNoneToCome_16 : decode cX7_leastWithNoneToCome 16 = .ok (.if_icmp .ge 58, 3) := by decide +kernel
theorem dX7_leastWithNoneToCome_19 : decode cX7_leastWithNoneToCome 19 = .ok (.aload_n 0, 1) := by decide +kernel
theorem dX7_leastWithNoneToCome_20 : decode cX7_leastWithNoneToCome 20 = .ok (.getfield 15, 3) := by decide +kernel
theorem dX7_leastWithNoneToCome_23 : decode cX7_leastWithNoneToCome 23 = .ok (.iload 4, 2) := by decide +kernel
theorem dX7_leastWithNoneToCome_25 : decode cX7_leastWithNoneToCome 25 = .ok (.iaload, 1) := by decide +kernel
theorem dX7_leastWithNoneToCome_26 : decode cX7_leastWithNoneToCome 26 = .ok (.invokestatic 67, 3) := by decide +kernel
theorem dX7_leastWithNoneToCome_29 : decode cX7_leastWithNoneToCome 29 = .ok (.iload_n 1, 1) := by decide +kernel
theorem dX7_leastWithNoneToCome_30 : decode cX7_leastWithNoneToCome 30 = .ok (.invokestatic 67, 3) := by decide +kernel
theorem dX7_leastWithNoneToCome_33 : decode cX7_leastWithNoneToCome 33 = .ok (.if_icmp .le 7, 3) := by decide +kernel
theorem dX7_leastWithNoneToCome_36 : decode cX7_leastWithNoneToCome 36 = .ok (.iconst 1, 1) := by decide +kernel
theorem dX7_leastWithNoneToCome_37 : decode cX7_leastWithNoneToCome 37 = .ok (.goto 4, 3) := by decide +kernel
theorem dX7_leastWithNoneToCome_40 : decode cX7_leastWithNoneToCome 40 = .ok (.iconst 0, 1) := by decide +kernel
theorem dX7_leastWithNoneToCome_41 : decode cX7_leastWithNoneToCome 41 = .ok (.istore 5, 2) := by decide +kernel
theorem dX7_leastWithNoneToCome_43 : decode cX7_leastWithNoneToCome 43 = .ok (.iload 5, 2) := by decide +kernel
theorem dX7_leastWithNoneToCome_45 : decode cX7_leastWithNoneToCome 45 = .ok (.ifCond .eq 23, 3) := by decide +kernel
theorem dX7_leastWithNoneToCome_48 : decode cX7_leastWithNoneToCome 48 = .ok (.aload_n 0, 1) := by decide +kernel
theorem dX7_leastWithNoneToCome_49 : decode cX7_leastWithNoneToCome 49 = .ok (.getfield 15, 3) := by decide +kernel
theorem dX7_leastWithNoneToCome_52 : decode cX7_leastWithNoneToCome 52 = .ok (.iload 4, 2) := by decide +kernel
theorem dX7_leastWithNoneToCome_54 : decode cX7_leastWithNoneToCome 54 = .ok (.iaload, 1) := by decide +kernel
theorem dX7_leastWithNoneToCome_55 : decode cX7_leastWithNoneToCome 55 = .ok (.iload_n 3, 1) := by decide +kernel
theorem dX7_leastWithNoneToCome_56 : decode cX7_leastWithNoneToCome 56 = .ok (.iand, 1) := by decide +kernel
theorem dX7_leastWithNoneToCome_57 : decode cX7_leastWithNoneToCome 57 = .ok (.ifCond .ne 11, 3) := by decide +kernel
theorem dX7_leastWithNoneToCome_60 : decode cX7_leastWithNoneToCome 60 = .ok (.aload_n 0, 1) := by decide +kernel
theorem dX7_leastWithNoneToCome_61 : decode cX7_leastWithNoneToCome 61 = .ok (.getfield 15, 3) := by decide +kernel
theorem dX7_leastWithNoneToCome_64 : decode cX7_leastWithNoneToCome 64 = .ok (.iload 4, 2) := by decide +kernel
theorem dX7_leastWithNoneToCome_66 : decode cX7_leastWithNoneToCome 66 = .ok (.iaload, 1) := by decide +kernel
theorem dX7_leastWithNoneToCome_67 : decode cX7_leastWithNoneToCome 67 = .ok (.ireturn, 1) := by decide +kernel
theorem dX7_leastWithNoneToCome_68 : decode cX7_leastWithNoneToCome 68 = .ok (.iinc 4 1, 3) := by decide +kernel
theorem dX7_leastWithNoneToCome_71 : decode cX7_leastWithNoneToCome 71 = .ok (.goto (-61), 3) := by decide +kernel
theorem dX7_leastWithNoneToCome_74 : decode cX7_leastWithNoneToCome 74 = .ok (.iconst (-1), 1) := by decide +kernel
theorem dX7_leastWithNoneToCome_75 : decode cX7_leastWithNoneToCome 75 = .ok (.ireturn, 1) := by decide +kernel
theorem dX7_thingsThatMayCome_0 : decode cX7_thingsThatMayCome 0 = .ok (.iconst 0, 1) := by decide +kernel
theorem dX7_thingsThatMayCome_1 : decode cX7_thingsThatMayCome 1 = .ok (.istore_n 3, 1) := by decide +kernel
theorem dX7_thingsThatMayCome_2 : decode cX7_thingsThatMayCome 2 = .ok (.iconst 1, 1) := by decide +kernel
theorem dX7_thingsThatMayCome_3 : decode cX7_thingsThatMayCome 3 = .ok (.istore 4, 2) := by decide +kernel
theorem dX7_thingsThatMayCome_5 : decode cX7_thingsThatMayCome 5 = .ok (.iload 4, 2) := by decide +kernel
theorem dX7_thingsThatMayCome_7 : decode cX7_thingsThatMayCome 7 = .ok (.iload_n 2, 1) := by decide +kernel
theorem dX7_thingsThatMayCome_8 : decode cX7_thingsThatMayCome 8 = .ok (.if_icmp .gt 35, 3) := by decide +kernel
theorem dX7_thingsThatMayCome_11 : decode cX7_thingsThatMayCome 11 = .ok (.iload_n 1, 1) := by decide +kernel
theorem dX7_thingsThatMayCome_12 : decode cX7_thingsThatMayCome 12 = .ok (.iload 4, 2) := by decide +kernel
theorem dX7_thingsThatMayCome_14 : decode cX7_thingsThatMayCome 14 = .ok (.iand, 1) := by decide +kernel
theorem dX7_thingsThatMayCome_15 : decode cX7_thingsThatMayCome 15 = .ok (.ifCond .ne 19, 3) := by decide +kernel
theorem dX7_thingsThatMayCome_18 : decode cX7_thingsThatMayCome 18 = .ok (.aload_n 0, 1) := by decide +kernel
theorem dX7_thingsThatMayCome_19 : decode cX7_thingsThatMayCome 19 = .ok (.iload_n 1, 1) := by decide +kernel
theorem dX7_thingsThatMayCome_20 : decode cX7_thingsThatMayCome 20 = .ok (.iload 4, 2) := by decide +kernel
theorem dX7_thingsThatMayCome_22 : decode cX7_thingsThatMayCome 22 = .ok (.ior, 1) := by decide +kernel
theorem dX7_thingsThatMayCome_23 : decode cX7_thingsThatMayCome 23 = .ok (.invokevirtual 33, 3) := by decide +kernel
theorem dX7_thingsThatMayCome_26 : decode cX7_thingsThatMayCome 26 = .ok (.ifCond .eq 8, 3) := by decide +kernel
theorem dX7_thingsThatMayCome_29 : decode cX7_thingsThatMayCome 29 = .ok (.iload_n 3, 1) := by decide +kernel
theorem dX7_thingsThatMayCome_30 : decode cX7_thingsThatMayCome 30 = .ok (.iload 4, 2) := by decide +kernel
theorem dX7_thingsThatMayCome_32 : decode cX7_thingsThatMayCome 32 = .ok (.ior, 1) := by decide +kernel
theorem dX7_thingsThatMayCome_33 : decode cX7_thingsThatMayCome 33 = .ok (.istore_n 3, 1) := by decide +kernel
theorem dX7_thingsThatMayCome_34 : decode cX7_thingsThatMayCome 34 = .ok (.iload 4, 2) := by decide +kernel
theorem dX7_thingsThatMayCome_36 : decode cX7_thingsThatMayCome 36 = .ok (.iconst 1, 1) := by decide +kernel
theorem dX7_thingsThatMayCome_37 : decode cX7_thingsThatMayCome 37 = .ok (.ishl, 1) := by decide +kernel
theorem dX7_thingsThatMayCome_38 : decode cX7_thingsThatMayCome 38 = .ok (.istore 4, 2) := by decide +kernel
theorem dX7_thingsThatMayCome_40 : decode cX7_thingsThatMayCome 40 = .ok (.goto (-35), 3) := by decide +kernel
theorem dX7_thingsThatMayCome_43 : decode cX7_thingsThatMayCome 43 = .ok (.iload_n 3, 1) := by decide +kernel
theorem dX7_thingsThatMayCome_44 : decode cX7_thingsThatMayCome 44 = .ok (.ireturn, 1) := by decide +kernel
theorem dX8_init_0 : decode cX8_init 0 = .ok (.aload_n 0, 1) := by decide +kernel
theorem dX8_init_1 : decode cX8_init 1 = .ok (.invokespecial 3, 3) := by decide +kernel
theorem dX8_init_4 : decode cX8_init 4 = .ok (.aload_n 0, 1) := by decide +kernel
theorem dX8_init_5 : decode cX8_init 5 = .ok (.bipush 12, 2) := by decide +kernel
theorem dX8_init_7 : decode cX8_init 7 = .ok (.bipush 6, 2) := by decide +kernel
theorem dX8_init_9 : decode cX8_init 9 = .ok (.multianewarray 9 2, 4) := by decide +kernel
theorem dX8_init_13 : decode cX8_init 13 = .ok (.putfield 11, 3) := by decide +kernel
theorem dX8_init_16 : decode cX8_init 16 = .ok (.aload_n 0, 1) := by decide +kernel
theorem dX8_init_17 : decode cX8_init 17 = .ok (.bipush 12, 2) := by decide +kernel
theorem dX8_init_19 : decode cX8_init 19 = .ok (.bipush 6, 2) := by decide +kernel
theorem dX8_init_21 : decode cX8_init 21 = .ok (.multianewarray 9 2, 4) := by decide +kernel
theorem dX8_init_25 : decode cX8_init 25 = .ok (.putfield 16, 3) := by decide +kernel
theorem dX8_init_28 : decode cX8_init 28 = .ok (.aload_n 0, 1) := by decide +kernel
theorem dX8_init_29 : decode cX8_init 29 = .ok (.bipush 12, 2) := by decide +kernel
theorem dX8_init_31 : decode cX8_init 31 = .ok (.newarray .int, 2) := by decide +kernel
theorem dX8_init_33 : decode cX8_init 33 = .ok (.putfield 19, 3) := by decide +kernel
theorem dX8_init_36 : decode cX8_init 36 = .ok (.aload_n 0, 1) := by decide +kernel
theorem dX8_init_37 : decode cX8_init 37 = .ok (.iconst 2, 1) := by decide +kernel
theorem dX8_init_38 : decode cX8_init 38 = .ok (.putfield 23, 3) := by decide +kernel
theorem dX8_init_41 : decode cX8_init 41 = .ok (.aload_n 0, 1) := by decide +kernel
theorem dX8_init_42 : decode cX8_init 42 = .ok (.iconst 1, 1) := by decide +kernel
theorem dX8_init_43 : decode cX8_init 43 = .ok (.putfield 27, 3) := by decide +kernel
theorem dX8_init_46 : decode cX8_init 46 = .ok (.return_, 1) := by decide +kernel
theorem dX8_readRows_0 : decode cX8_readRows 0 = .ok (.aload_n 0, 1) := by decide +kernel
theorem dX8_readRows_1 : decode cX8_readRows 1 = .ok (.aload_n 1, 1) := by decide +kernel
theorem dX8_readRows_2 : decode cX8_readRows 2 = .ok (.iconst 2, 1) := by decide +kernel
theorem dX8_readRows_3 : decode cX8_readRows 3 = .ok (.bipush 7, 2) := by decide +kernel
theorem dX8_readRows_5 : decode cX8_readRows 5 = .ok (.invokevirtual 30, 3) := by decide +kernel
theorem dX8_readRows_8 : decode cX8_readRows 8 = .ok (.putfield 23, 3) := by decide +kernel
theorem dX8_readRows_11 : decode cX8_readRows 11 = .ok (.aload_n 0, 1) := by decide +kernel
theorem dX8_readRows_12 : decode cX8_readRows 12 = .ok (.getfield 23, 3) := by decide +kernel
theorem dX8_readRows_15 : decode cX8_readRows 15 = .ok (.iconst 4, 1) := by decide +kernel
theorem dX8_readRows_16 : decode cX8_readRows 16 = .ok (.if_icmp .eq 12, 3) := by decide +kernel
theorem dX8_readRows_19 : decode cX8_readRows 19 = .ok (.aload_n 0, 1) := by decide +kernel
theorem dX8_readRows_20 : decode cX8_readRows 20 = .ok (.getfield 23, 3) := by decide +kernel
theorem dX8_readRows_23 : decode cX8_readRows 23 = .ok (.bipush 6, 2) := by decide +kernel
theorem dX8_readRows_25 : decode cX8_readRows 25 = .ok (.if_icmp .ne 7, 3) := by decide +kernel
theorem dX8_readRows_28 : decode cX8_readRows 28 = .ok (.aload_n 1, 1) := by decide +kernel
theorem dX8_readRows_29 : decode cX8_readRows 29 = .ok (.invokevirtual 36, 3) := by decide +kernel
theorem dX8_readRows_32 : decode cX8_readRows 32 = .ok (.aload_n 0, 1) := by decide +kernel
theorem dX8_readRows_33 : decode cX8_readRows 33 = .ok (.aload_n 1, 1) := by decide +kernel
theorem dX8_readRows_34 : decode cX8_readRows 34 = .ok (.iconst 1, 1) := by decide +kernel
theorem dX8_readRows_35 : decode cX8_readRows 35 = .ok (.bipush 6, 2) := by decide +kernel
theorem dX8_readRows_37 : decode cX8_readRows 37 = .ok (.invokevirtual 30, 3) := by decide +kernel
theorem dX8_readRows_40 : decode cX8_readRows 40 = .ok (.putfield 27, 3) := by decide +kernel
theorem dX8_readRows_43 : decode cX8_readRows 43 = .ok (.iconst 0, 1) := by decide +kernel
theorem dX8_readRows_44 : decode cX8_readRows 44 = .ok (.istore_n 3, 1) := by decide +kernel
theorem dX8_readRows_45 : decode cX8_readRows 45 = .ok (.iload_n 3, 1) := by decide +kernel
theorem dX8_readRows_46 : decode cX8_readRows 46 = .ok (.iload_n 2, 1) := by decide +kernel
theorem dX8_readRows_47 : decode cX8_readRows 47 = .ok (.if_icmp .ge 56, 3) := by decide +kernel
theorem dX8_readRows_50 : decode cX8_readRows 50 = .ok (.iload_n 3, 1) := by decide +kernel
theorem dX8_readRows_51 : decode cX8_readRows 51 = .ok (.aload_n 0, 1) := by decide +kernel
theorem dX8_readRows_52 : decode cX8_readRows 52 = .ok (.getfield 11, 3) := by decide +kernel
theorem dX8_readRows_55 : decode cX8_readRows 55 = .ok (.arraylength, 1) := by decide +kernel
theorem dX8_readRows_56 : decode cX8_readRows 56 = .ok (.if_icmp .ge 47, 3) := by decide +kernel
theorem dX8_readRows_59 : decode cX8_readRows 59 = .ok (.iconst 0, 1) := by decide +kernel
theorem dX8_readRows_60 : decode cX8_readRows 60 = .ok (.istore 4, 2) := by decide +kernel
theorem dX8_readRows_62 : decode cX8_readRows 62 = .ok (.iload 4, 2) := by decide +kernel
theorem dX8_readRows_64 : decode cX8_readRows 64 = .ok (.aload_n 0, 1) := by decide +kernel
theorem dX8_readRows_65 : decode cX8_readRows 65 = .ok (.getfield 27, 3) := by decide +kernel
theorem dX8_readRows_68 : decode cX8_readRows 68 = .ok (.if_icmp .ge 29, 3) := by decide +kernel
theorem dX8_readRows_71 : decode cX8_readRows 71 = .ok (.aload_n 0, 1) := by decide +kernel
theorem dX8_readRows_72 : decode cX8_readRows 72 = .ok (.getfield 11, 3) := by decide +kernel
theorem dX8_readRows_75 : decode cX8_readRows 75 = .ok (.iload_n 3, 1) := by decide +kernel
theorem dX8_readRows_76 : decode cX8_readRows 76 = .ok (.aaload, 1) := by decide +kernel
theorem dX8_readRows_77 : decode cX8_readRows 77 = .ok (.iload 4, 2) := by decide +kernel
theorem dX8_readRows_79 : decode cX8_readRows 79 = .ok (.aload_n 1, 1) := by decide +kernel
theorem dX8_readRows_80 : decode cX8_readRows 80 = .ok (.iconst 0, 1) := by decide +kernel
theorem dX8_readRows_81 : decode cX8_readRows 81 = .ok (.aload_n 0, 1) := by decide +kernel
theorem dX8_readRows_82 : decode cX8_readRows 82 = .ok (.getfield 23, 3) := by decide +kernel
theorem dX8_readRows_85 : decode cX8_readRows 85 = .ok (.iconst 1, 1) := by decide +kernel
theorem dX8_readRows_86 : decode cX8_readRows 86 = .ok (.isub, 1) := by decide +kernel
theorem dX8_readRows_87 : decode cX8_readRows 87 = .ok (.invokevirtual 30, 3) := by decide +kernel
theorem dX8_readRows_90 : decode cX8_readRows 90 = .ok (.iastore, 1) := by decide +kernel
theorem dX8_readRows_91 : decode cX8_readRows 91 = .ok (.iinc 4 1, 3) := by decide +kernel
theorem dX8_readRows_94 : decode cX8_readRows 94 = .ok (.goto (-32), 3) := by decide +kernel
theorem dX8_readRows_97 : decode cX8_readRows 97 = .ok (.iinc 3 1, 3) := by decide +kernel
theorem dX8_readRows_100 : decode cX8_readRows 100 = .ok (.goto (-55), 3) := by decide +kernel
theorem dX8_readRows_103 : decode cX8_readRows 103 = .ok (.return_, 1) := by decide +kernel
theorem dX8_fits_0 : decode cX8_fits 0 = .ok (.iload_n 1, 1) := by decide +kernel
theorem dX8_fits_1 : decode cX8_fits 1 = .ok (.ifCond .le 10, 3) := by decide +kernel
theorem dX8_fits_4 : decode cX8_fits 4 = .ok (.iload_n 1, 1) := by decide +kernel
theorem dX8_fits_5 : decode cX8_fits 5 = .ok (.bipush 12, 2) := by decide +kernel
theorem dX8_fits_7 : decode cX8_fits 7 = .ok (.ishr, 1) := by decide +kernel
theorem dX8_fits_8 : decode cX8_fits 8 = .ok (.ifCond .eq 13, 3) := by decide +kernel
theorem dX8_fits_11 : decode cX8_fits 11 = .ok (.iload_n 1, 1) := by decide +kernel
theorem dX8_fits_12 : decode cX8_fits 12 = .ok (.ifCond .ne 7, 3) := by decide +kernel
theorem dX8_fits_15 : decode cX8_fits 15 = .ok (.iconst 1, 1) := by decide +kernel
theorem dX8_fits_16 : decode cX8_fits 16 = .ok (.goto 4, 3) := by decide +kernel
theorem dX8_fits_19 : decode cX8_fits 19 = .ok (.iconst 0, 1) := by decide +kernel
theorem dX8_fits_20 : decode cX8_fits 20 = .ok (.ireturn, 1) := by decide +kernel
theorem dX8_fits_21 : decode cX8_fits 21 = .ok (.iload_n 1, 1) := by decide +kernel
theorem dX8_fits_22 : decode cX8_fits 22 = .ok (.iload_n 1, 1) := by decide +kernel
theorem dX8_fits_23 : decode cX8_fits 23 = .ok (.ineg, 1) := by decide +kernel
theorem dX8_fits_24 : decode cX8_fits 24 = .ok (.iand, 1) := by decide +kernel
theorem dX8_fits_25 : decode cX8_fits 25 = .ok (.iconst 1, 1) := by decide +kernel
theorem dX8_fits_26 : decode cX8_fits 26 = .ok (.isub, 1) := by decide +kernel
theorem dX8_fits_27 : decode cX8_fits 27 = .ok (.invokestatic 39, 3) := by decide +kernel
theorem dX8_fits_30 : decode cX8_fits 30 = .ok (.istore_n 2, 1) := by decide +kernel
theorem dX8_fits_31 : decode cX8_fits 31 = .ok (.iconst 0, 1) := by decide +kernel
theorem dX8_fits_32 : decode cX8_fits 32 = .ok (.istore_n 3, 1) := by decide +kernel
theorem dX8_fits_33 : decode cX8_fits 33 = .ok (.iload_n 3, 1) := by decide +kernel
theorem dX8_fits_34 : decode cX8_fits 34 = .ok (.aload_n 0, 1) := by decide +kernel
theorem dX8_fits_35 : decode cX8_fits 35 = .ok (.getfield 27, 3) := by decide +kernel
theorem dX8_fits_38 : decode cX8_fits 38 = .ok (.if_icmp .ge 25, 3) := by decide +kernel
theorem dX8_fits_41 : decode cX8_fits 41 = .ok (.aload_n 0, 1) := by decide +kernel
theorem dX8_fits_42 : decode cX8_fits 42 = .ok (.getfield 16, 3) := by decide +kernel
theorem dX8_fits_45 : decode cX8_fits 45 = .ok (.iload_n 2, 1) := by decide +kernel
theorem dX8_fits_46 : decode cX8_fits 46 = .ok (.aaload, 1) := by decide +kernel
theorem dX8_fits_47 : decode cX8_fits 47 = .ok (.iload_n 3, 1) := by decide +kernel
theorem dX8_fits_48 : decode cX8_fits 48 = .ok (.aload_n 0, 1) := by decide +kernel
theorem dX8_fits_49 : decode cX8_fits 49 = .ok (.getfield 11, 3) := by decide +kernel
theorem dX8_fits_52 : decode cX8_fits 52 = .ok (.iload_n 2, 1) := by decide +kernel
theorem dX8_fits_53 : decode cX8_fits 53 = .ok (.aaload, 1) := by decide +kernel
theorem dX8_fits_54 : decode cX8_fits 54 = .ok (.iload_n 3, 1) := by decide +kernel
theorem dX8_fits_55 : decode cX8_fits 55 = .ok (.iaload, 1) := by decide +kernel
theorem dX8_fits_56 : decode cX8_fits 56 = .ok (.iastore, 1) := by decide +kernel
theorem dX8_fits_57 : decode cX8_fits 57 = .ok (.iinc 3 1, 3) := by decide +kernel
theorem dX8_fits_60 : decode cX8_fits 60 = .ok (.goto (-27), 3) := by decide +kernel
theorem dX8_fits_63 : decode cX8_fits 63 = .ok (.bipush 11, 2) := by decide +kernel
theorem dX8_fits_65 : decode cX8_fits 65 = .ok (.istore_n 3, 1) := by decide +kernel
theorem dX8_fits_66 : decode cX8_fits 66 = .ok (.iload_n 3, 1) := by decide +kernel
theorem dX8_fits_67 : decode cX8_fits 67 = .ok (.iload_n 2, 1) := by decide +kernel
theorem dX8_fits_68 : decode cX8_fits 68 = .ok (.if_icmp .le 39, 3) := by decide +kernel
theorem dX8_fits_71 : decode cX8_fits 71 = .ok (.iload_n 1, 1) := by decide +kernel
theorem dX8_fits_72 : decode cX8_fits 72 = .ok (.iload_n 3, 1) := by decide +kernel
theorem dX8_fits_73 : decode cX8_fits 73 = .ok (.ishr, 1) := by decide +kernel
theorem dX8_fits_74 : decode cX8_fits 74 = .ok (.iconst 1, 1) := by decide +kernel
theorem dX8_fits_75 : decode cX8_fits 75 = .ok (.iand, 1) := by decide +kernel
theorem dX8_fits_76 : decode cX8_fits 76 = .ok (.ifCond .eq 25, 3) := by decide +kernel
theorem dX8_fits_79 : decode cX8_fits 79 = .ok (.aload_n 0, 1) := by decide +kernel
theorem dX8_fits_80 : decode cX8_fits 80 = .ok (.aload_n 0, 1) := by decide +kernel
theorem dX8_fits_81 : decode cX8_fits 81 = .ok (.getfield 16, 3) := by decide +kernel
theorem dX8_fits_84 : decode cX8_fits 84 = .ok (.iload_n 2, 1) := by decide +kernel
theorem dX8_fits_85 : decode cX8_fits 85 = .ok (.aaload, 1) := by decide +kernel
theorem dX8_fits_86 : decode cX8_fits 86 = .ok (.aload_n 0, 1) := by decide +kernel
theorem dX8_fits_87 : decode cX8_fits 87 = .ok (.getfield 16, 3) := by decide +kernel
theorem dX8_fits_90 : decode cX8_fits 90 = .ok (.iload_n 3, 1) := by decide +kernel
theorem dX8_fits_91 : decode cX8_fits 91 = .ok (.aaload, 1) := by decide +kernel
theorem dX8_fits_92 : decode cX8_fits 92 = .ok (.aload_n 0, 1) := by decide +kernel
theorem dX8_fits_93 : decode cX8_fits 93 = .ok (.getfield 19, 3) := by decide +kernel
theorem dX8_fits_96 : decode cX8_fits 96 = .ok (.iload_n 3, 1) := by decide +kernel
theorem dX8_fits_97 : decode cX8_fits 97 = .ok (.iaload, 1) := by decide +kernel
theorem dX8_fits_98 : decode cX8_fits 98 = .ok (.invokevirtual 45, 3) := by decide +kernel
theorem dX8_fits_101 : decode cX8_fits 101 = .ok (.iinc 3 (-1), 3) := by decide +kernel
theorem dX8_fits_104 : decode cX8_fits 104 = .ok (.goto (-38), 3) := by decide +kernel
theorem dX8_fits_107 : decode cX8_fits 107 = .ok (.aload_n 0, 1) := by decide +kernel
theorem dX8_fits_108 : decode cX8_fits 108 = .ok (.getfield 19, 3) := by decide +kernel
theorem dX8_fits_111 : decode cX8_fits 111 = .ok (.iload_n 2, 1) := by decide +kernel
theorem dX8_fits_112 : decode cX8_fits 112 = .ok (.aload_n 0, 1) := by decide +kernel
theorem dX8_fits_113 : decode cX8_fits 113 = .ok (.aload_n 0, 1) := by decide +kernel
theorem dX8_fits_114 : decode cX8_fits 114 = .ok (.getfield 16, 3) := by decide +kernel
theorem dX8_fits_117 : decode cX8_fits 117 = .ok (.iload_n 2, 1) := by decide +kernel
theorem dX8_fits_118 : decode cX8_fits 118 = .ok (.aaload, 1) := by decide +kernel
theorem dX8_fits_119 : decode cX8_fits 119 = .ok (.invokevirtual 49, 3) := by decide +kernel
theorem dX8_fits_122 : decode cX8_fits 122 = .ok (.iastore, 1) := by decide +kernel
theorem dX8_fits_123 : decode cX8_fits 123 = .ok (.aload_n 0, 1) := by decide +kernel
theorem dX8_fits_124 : decode cX8_fits 124 = .ok (.getfield 19, 3) := by decide +kernel
theorem dX8_fits_127 : decode cX8_fits 127 = .ok (.iload_n 2, 1) := by decide +kernel
theorem dX8_fits_128 : decode cX8_fits 128 = .ok (.iaload, 1) := by decide +kernel
theorem dX8_fits_129 : decode cX8_fits 129 = .ok (.iconst (-1), 1) := by decide +kernel
theorem dX8_fits_130 : decode cX8_fits 130 = .ok (.if_icmp .eq 7, 3) := by decide +kernel
theorem dX8_fits_133 : decode cX8_fits 133 = .ok (.iconst 1, 1) := by decide +kernel
theorem dX8_fits_134 : decode cX8_fits 134 = .ok (.goto 4, 3) := by decide +kernel
theorem dX8_fits_137 : decode cX8_fits 137 = .ok (.iconst 0, 1) := by decide +kernel
theorem dX8_fits_138 : decode cX8_fits 138 = .ok (.ireturn, 1) := by decide +kernel
theorem dX8_clearLead_0 : decode cX8_clearLead 0 = .ok (.iload_n 3, 1) := by decide +kernel
theorem dX8_clearLead_1 : decode cX8_clearLead 1 = .ok (.ifCond .lt 11, 3) := by decide +kernel
theorem dX8_clearLead_4 : decode cX8_clearLead 4 = .ok (.iload_n 3, 1) := by decide +kernel
theorem dX8_clearLead_5 : decode cX8_clearLead 5 = .ok (.aload_n 0, 1) := by decide +kernel
theorem dX8_clearLead_6 : decode cX8_clearLead 6 = .ok (.getfield 27, 3) := by decide +kernel
theorem dX8_clearLead_9 : decode cX8_clearLead 9 = .ok (.if_icmp .lt 4, 3) := by decide +kernel
theorem dX8_clearLead_12 : decode cX8_clearLead 12 = .ok (.return_, 1) := by decide +kernel
theorem dX8_clearLead_13 : decode cX8_clearLead 13 = .ok (.aload_n 2, 1) := by decide +kernel
theorem dX8_clearLead_14 : decode cX8_clearLead 14 = .ok (.iload_n 3, 1) := by decide +kernel
theorem dX8_clearLead_15 : decode cX8_clearLead 15 = .ok (.iaload, 1) := by decide +kernel
theorem dX8_clearLead_16 : decode cX8_clearLead 16 = .ok (.istore 4, 2) := by decide +kernel
theorem dX8_clearLead_18 : decode cX8_clearLead 18 = .ok (.aload_n 0, 1) := by decide +kernel
theorem dX8_clearLead_19 : decode cX8_clearLead 19 = .ok (.getfield 23, 3) := by decide +kernel
theorem dX8_clearLead_22 : decode cX8_clearLead 22 = .ok (.aload_n 1, 1) := by decide +kernel
theorem dX8_clearLead_23 : decode cX8_clearLead 23 = .ok (.iload_n 3, 1) := by decide +kernel
theorem dX8_clearLead_24 : decode cX8_clearLead 24 = .ok (.iaload, 1) := by decide +kernel
theorem dX8_clearLead_25 : decode cX8_clearLead 25 = .ok (.isub, 1) := by decide +kernel
theorem dX8_clearLead_26 : decode cX8_clearLead 26 = .ok (.istore 5, 2) := by decide +kernel
theorem dX8_clearLead_28 : decode cX8_clearLead 28 = .ok (.iconst 0, 1) := by decide +kernel
theorem dX8_clearLead_29 : decode cX8_clearLead 29 = .ok (.istore 6, 2) := by decide +kernel
theorem dX8_clearLead_31 : decode cX8_clearLead 31 = .ok (.iload 6, 2) := by decide +kernel
theorem dX8_clearLead_33 : decode cX8_clearLead 33 = .ok (.aload_n 0, 1) := by decide +kernel
theorem dX8_clearLead_34 : decode cX8_clearLead 34 = .ok (.getfield 27, 3) := by decide +kernel
theorem dX8_clearLead_37 : decode cX8_clearLead 37 = .ok (.if_icmp .ge 32, 3) := by decide +kernel
theorem dX8_clearLead_40 : decode cX8_clearLead 40 = .ok (.aload_n 1, 1) := by decide +kernel
theorem dX8_clearLead_41 : decode cX8_clearLead 41 = .ok (.iload 6, 2) := by decide +kernel
theorem dX8_clearLead_43 : decode cX8_clearLead 43 = .ok (.aload_n 0, 1) := by decide +kernel
theorem dX8_clearLead_44 : decode cX8_clearLead 44 = .ok (.iload 4, 2) := by decide +kernel
theorem dX8_clearLead_46 : decode cX8_clearLead 46 = .ok (.aload_n 1, 1) := by decide +kernel
theorem dX8_clearLead_47 : decode cX8_clearLead 47 = .ok (.iload 6, 2) := by decide +kernel
theorem dX8_clearLead_49 : decode cX8_clearLead 49 = .ok (.iaload, 1) := by decide +kernel
theorem dX8_clearLead_50 : decode cX8_clearLead 50 = .ok (.imul, 1) := by decide +kernel
theorem dX8_clearLead_51 : decode cX8_clearLead 51 = .ok (.iload 5, 2) := by decide +kernel
theorem dX8_clearLead_53 : decode cX8_clearLead 53 = .ok (.aload_n 2, 1) := by decide +kernel
theorem dX8_clearLead_54 : decode cX8_clearLead 54 = .ok (.iload 6, 2) := by decide +kernel
theorem dX8_clearLead_56 : decode cX8_clearLead 56 = .ok (.iaload, 1) := by decide +kernel
theorem dX8_clearLead_57 : decode cX8_clearLead 57 = .ok (.imul, 1) := by decide +kernel
theorem dX8_clearLead_58 : decode cX8_clearLead 58 = .ok (.iadd, 1) := by decide +kernel
theorem dX8_clearLead_59 : decode cX8_clearLead 59 = .ok (.invokevirtual 53, 3) := by decide +kernel
theorem dX8_clearLead_62 : decode cX8_clearLead 62 = .ok (.iastore, 1) := by decide +kernel
theorem dX8_clearLead_63 : decode cX8_clearLead 63 = .ok (.iinc 6 1, 3) := by decide +kernel
theorem dX8_clearLead_66 : decode cX8_clearLead 66 = .ok (.goto (-35), 3) := by decide +kernel
theorem dX8_clearLead_69 : decode cX8_clearLead 69 = .ok (.return_, 1) := by decide +kernel
theorem dX8_modulo_0 : decode cX8_modulo 0 = .ok (.aload_n 0, 1) := by decide +kernel
theorem dX8_modulo_1 : decode cX8_modulo 1 = .ok (.getfield 23, 3) := by decide +kernel
theorem dX8_modulo_4 : decode cX8_modulo 4 = .ok (.ifCond .le 12, 3) := by decide +kernel
theorem dX8_modulo_7 : decode cX8_modulo 7 = .ok (.iload_n 1, 1) := by decide +kernel
theorem dX8_modulo_8 : decode cX8_modulo 8 = .ok (.aload_n 0, 1) := by decide +kernel
theorem dX8_modulo_9 : decode cX8_modulo 9 = .ok (.getfield 23, 3) := by decide +kernel
theorem dX8_modulo_12 : decode cX8_modulo 12 = .ok (.irem, 1) := by decide +kernel
theorem dX8_modulo_13 : decode cX8_modulo 13 = .ok (.goto 4, 3) := by decide +kernel
theorem dX8_modulo_16 : decode cX8_modulo 16 = .ok (.iconst 0, 1) := by decide +kernel
theorem dX8_modulo_17 : decode cX8_modulo 17 = .ok (.ireturn, 1) := by decide +kernel
theorem dX8_firstNotZero_0 : decode cX8_firstNotZero 0 = .ok (.iconst 0, 1) := by decide +kernel
theorem dX8_firstNotZero_1 : decode cX8_firstNotZero 1 = .ok (.istore_n 2, 1) := by decide +kernel
theorem dX8_firstNotZero_2 : decode cX8_firstNotZero 2 = .ok (.iload_n 2, 1) := by decide +kernel
theorem dX8_firstNotZero_3 : decode cX8_firstNotZero 3 = .ok (.aload_n 0, 1) := by decide +kernel
theorem dX8_firstNotZero_4 : decode cX8_firstNotZero 4 = .ok (.getfield 27, 3) := by decide +kernel
theorem dX8_firstNotZero_7 : decode cX8_firstNotZero 7 = .ok (.if_icmp .ge 17, 3) := by decide +kernel
theorem dX8_firstNotZero_10 : decode cX8_firstNotZero 10 = .ok (.aload_n 1, 1) := by decide +kernel
theorem dX8_firstNotZero_11 : decode cX8_firstNotZero 11 = .ok (.iload_n 2, 1) := by decide +kernel
theorem dX8_firstNotZero_12 : decode cX8_firstNotZero 12 = .ok (.iaload, 1) := by decide +kernel
theorem dX8_firstNotZero_13 : decode cX8_firstNotZero 13 = .ok (.ifCond .eq 5, 3) := by decide +kernel
theorem dX8_firstNotZero_16 : decode cX8_firstNotZero 16 = .ok (.iload_n 2, 1) := by decide +kernel
theorem dX8_firstNotZero_17 : decode cX8_firstNotZero 17 = .ok (.ireturn, 1) := by decide +kernel
theorem dX8_firstNotZero_18 : decode cX8_firstNotZero 18 = .ok (.iinc 2 1, 3) := by decide +kernel
theorem dX8_firstNotZero_21 : decode cX8_firstNotZero 21 = .ok (.goto (-19), 3) := by decide +kernel
theorem dX8_firstNotZero_24 : decode cX8_firstNotZero 24 = .ok (.iconst (-1), 1) := by decide +kernel
theorem dX8_firstNotZero_25 : decode cX8_firstNotZero 25 = .ok (.ireturn, 1) := by decide +kernel
theorem dX9_init_0 : decode cX9_init 0 = .ok (.aload_n 0, 1) := by decide +kernel
theorem dX9_init_1 : decode cX9_init 1 = .ok (.invokespecial 1, 3) := by decide +kernel
theorem dX9_init_4 : decode cX9_init 4 = .ok (.aload_n 0, 1) := by decide +kernel
theorem dX9_init_5 : decode cX9_init 5 = .ok (.bipush 10, 2) := by decide +kernel
theorem dX9_init_7 : decode cX9_init 7 = .ok (.anewarray 9, 3) := by decide +kernel
theorem dX9_init_10 : decode cX9_init 10 = .ok (.putfield 11, 3) := by decide +kernel
theorem dX9_init_13 : decode cX9_init 13 = .ok (.aload_n 0, 1) := by decide +kernel
theorem dX9_init_14 : decode cX9_init 14 = .ok (.bipush 24, 2) := by decide +kernel
theorem dX9_init_16 : decode cX9_init 16 = .ok (.anewarray 15, 3) := by decide +kernel
theorem dX9_init_19 : decode cX9_init 19 = .ok (.putfield 17, 3) := by decide +kernel
theorem dX9_init_22 : decode cX9_init 22 = .ok (.aload_n 0, 1) := by decide +kernel
theorem dX9_init_23 : decode cX9_init 23 = .ok (.bipush 12, 2) := by decide +kernel
theorem dX9_init_25 : decode cX9_init 25 = .ok (.newarray .int, 2) := by decide +kernel
theorem dX9_init_27 : decode cX9_init 27 = .ok (.putfield 21, 3) := by decide +kernel
theorem dX9_init_30 : decode cX9_init 30 = .ok (.aload_n 0, 1) := by decide +kernel
theorem dX9_init_31 : decode cX9_init 31 = .ok (.bipush 12, 2) := by decide +kernel
theorem dX9_init_33 : decode cX9_init 33 = .ok (.newarray .int, 2) := by decide +kernel
theorem dX9_init_35 : decode cX9_init 35 = .ok (.putfield 25, 3) := by decide +kernel
theorem dX9_init_38 : decode cX9_init 38 = .ok (.aload_n 0, 1) := by decide +kernel
theorem dX9_init_39 : decode cX9_init 39 = .ok (.new 28, 3) := by decide +kernel
theorem dX9_init_42 : decode cX9_init 42 = .ok (.dup, 1) := by decide +kernel
theorem dX9_init_43 : decode cX9_init 43 = .ok (.invokespecial 30, 3) := by decide +kernel
theorem dX9_init_46 : decode cX9_init 46 = .ok (.putfield 31, 3) := by decide +kernel
theorem dX9_init_49 : decode cX9_init 49 = .ok (.aload_n 0, 1) := by decide +kernel
theorem dX9_init_50 : decode cX9_init 50 = .ok (.new 35, 3) := by decide +kernel
theorem dX9_init_53 : decode cX9_init 53 = .ok (.dup, 1) := by decide +kernel
theorem dX9_init_54 : decode cX9_init 54 = .ok (.invokespecial 37, 3) := by decide +kernel
theorem dX9_init_57 : decode cX9_init 57 = .ok (.putfield 38, 3) := by decide +kernel
theorem dX9_init_60 : decode cX9_init 60 = .ok (.aload_n 0, 1) := by decide +kernel
theorem dX9_init_61 : decode cX9_init 61 = .ok (.new 42, 3) := by decide +kernel
theorem dX9_init_64 : decode cX9_init 64 = .ok (.dup, 1) := by decide +kernel
theorem dX9_init_65 : decode cX9_init 65 = .ok (.invokespecial 44, 3) := by decide +kernel
theorem dX9_init_68 : decode cX9_init 68 = .ok (.putfield 45, 3) := by decide +kernel
theorem dX9_init_71 : decode cX9_init 71 = .ok (.aload_n 0, 1) := by decide +kernel
theorem dX9_init_72 : decode cX9_init 72 = .ok (.new 49, 3) := by decide +kernel
theorem dX9_init_75 : decode cX9_init 75 = .ok (.dup, 1) := by decide +kernel
theorem dX9_init_76 : decode cX9_init 76 = .ok (.invokespecial 51, 3) := by decide +kernel
theorem dX9_init_79 : decode cX9_init 79 = .ok (.putfield 52, 3) := by decide +kernel
theorem dX9_init_82 : decode cX9_init 82 = .ok (.aload_n 0, 1) := by decide +kernel
theorem dX9_init_83 : decode cX9_init 83 = .ok (.new 56, 3) := by decide +kernel
theorem dX9_init_86 : decode cX9_init 86 = .ok (.dup, 1) := by decide +kernel
theorem dX9_init_87 : decode cX9_init 87 = .ok (.invokespecial 58, 3) := by decide +kernel
theorem dX9_init_90 : decode cX9_init 90 = .ok (.putfield 59, 3) := by decide +kernel
theorem dX9_init_93 : decode cX9_init 93 = .ok (.iconst 0, 1) := by decide +kernel
theorem dX9_init_94 : decode cX9_init 94 = .ok (.istore_n 1, 1) := by decide +kernel
theorem dX9_init_95 : decode cX9_init 95 = .ok (.iload_n 1, 1) := by decide +kernel
theorem dX9_init_96 : decode cX9_init 96 = .ok (.aload_n 0, 1) := by decide +kernel
theorem dX9_init_97 : decode cX9_init 97 = .ok (.getfield 11, 3) := by decide +kernel
theorem dX9_init_100 : decode cX9_init 100 = .ok (.arraylength, 1) := by decide +kernel
theorem dX9_init_101 : decode cX9_init 101 = .ok (.if_icmp .ge 22, 3) := by decide +kernel
theorem dX9_init_104 : decode cX9_init 104 = .ok (.aload_n 0, 1) := by decide +kernel
theorem dX9_init_105 : decode cX9_init 105 = .ok (.getfield 11, 3) := by decide +kernel
theorem dX9_init_108 : decode cX9_init 108 = .ok (.iload_n 1, 1) := by decide +kernel
theorem dX9_init_109 : decode cX9_init 109 = .ok (.new 9, 3) := by decide +kernel
theorem dX9_init_112 : decode cX9_init 112 = .ok (.dup, 1) := by decide +kernel
theorem dX9_init_113 : decode cX9_init 113 = .ok (.invokespecial 63, 3) := by decide +kernel
theorem dX9_init_116 : decode cX9_init 116 = .ok (.aastore, 1) := by decide +kernel
theorem dX9_init_117 : decode cX9_init 117 = .ok (.iinc 1 1, 3) := by decide +kernel
theorem dX9_init_120 : decode cX9_init 120 = .ok (.goto (-25), 3) := by decide +kernel
theorem dX9_init_123 : decode cX9_init 123 = .ok (.aload_n 0, 1) := by decide +kernel
theorem dX9_init_124 : decode cX9_init 124 = .ok (.bipush 8, 2) := by decide +kernel
theorem dX9_init_126 : decode cX9_init 126 = .ok (.invokevirtual 64, 3) := by decide +kernel
theorem dX9_init_129 : decode cX9_init 129 = .ok (.return_, 1) := by decide +kernel
theorem dX9_fresh_0 : decode cX9_fresh 0 = .ok (.iload_n 1, 1) := by decide +kernel
theorem dX9_fresh_1 : decode cX9_fresh 1 = .ok (.iconst 1, 1) := by decide +kernel
theorem dX9_fresh_2 : decode cX9_fresh 2 = .ok (.if_icmp .lt 9, 3) := by decide +kernel
theorem dX9_fresh_5 : decode cX9_fresh 5 = .ok (.iload_n 1, 1) := by decide +kernel
theorem dX9_fresh_6 : decode cX9_fresh 6 = .ok (.bipush 12, 2) := by decide +kernel
theorem dX9_fresh_8 : decode cX9_fresh 8 = .ok (.if_icmp .le 5, 3) := by decide +kernel
theorem dX9_fresh_11 : decode cX9_fresh 11 = .ok (.iconst 0, 1) := by decide +kernel
theorem dX9_fresh_12 : decode cX9_fresh 12 = .ok (.ireturn, 1) := by decide +kernel
theorem dX9_fresh_13 : decode cX9_fresh 13 = .ok (.aload_n 0, 1) := by decide +kernel
theorem dX9_fresh_14 : decode cX9_fresh 14 = .ok (.iload_n 1, 1) := by decide +kernel
theorem dX9_fresh_15 : decode cX9_fresh 15 = .ok (.invokevirtual 64, 3) := by decide +kernel
theorem dX9_fresh_18 : decode cX9_fresh 18 = .ok (.iconst 1, 1) := by decide +kernel
theorem dX9_fresh_19 : decode cX9_fresh 19 = .ok (.ireturn, 1) := by decide +kernel
theorem dX9_weight_0 : decode cX9_weight 0 = .ok (.aload_n 0, 1) := by decide +kernel
theorem dX9_weight_1 : decode cX9_weight 1 = .ok (.iload_n 1, 1) := by decide +kernel
theorem dX9_weight_2 : decode cX9_weight 2 = .ok (.invokevirtual 68, 3) := by decide +kernel
theorem dX9_weight_5 : decode cX9_weight 5 = .ok (.ifCond .eq 13, 3) := by decide +kernel
theorem dX9_weight_8 : decode cX9_weight 8 = .ok (.iload_n 2, 1) := by decide +kernel
theorem dX9_weight_9 : decode cX9_weight 9 = .ok (.ifCond .lt 9, 3) := by decide +kernel
theorem dX9_weight_12 : decode cX9_weight 12 = .ok (.iload_n 2, 1) := by decide +kernel
theorem dX9_weight_13 : decode cX9_weight 13 = .ok (.ldc 72, 2) := by decide +kernel
theorem dX9_weight_15 : decode cX9_weight 15 = .ok (.if_icmp .le 5, 3) := by decide +kernel
theorem dX9_weight_18 : decode cX9_weight 18 = .ok (.iconst (-1), 1) := by decide +kernel
theorem dX9_weight_19 : decode cX9_weight 19 = .ok (.ireturn, 1) := by decide +kernel
theorem dX9_weight_20 : decode cX9_weight 20 = .ok (.aload_n 0, 1) := by decide +kernel
theorem dX9_weight_21 : decode cX9_weight 21 = .ok (.getfield 21, 3) := by decide +kernel
theorem dX9_weight_24 : decode cX9_weight 24 = .ok (.iload_n 1, 1) := by decide +kernel
theorem dX9_weight_25 : decode cX9_weight 25 = .ok (.iaload, 1) := by decide +kernel
theorem dX9_weight_26 : decode cX9_weight 26 = .ok (.istore_n 3, 1) := by decide +kernel
theorem dX9_weight_27 : decode cX9_weight 27 = .ok (.aload_n 0, 1) := by decide +kernel
theorem dX9_weight_28 : decode cX9_weight 28 = .ok (.getfield 21, 3) := by decide +kernel
theorem dX9_weight_31 : decode cX9_weight 31 = .ok (.iload_n 1, 1) := by decide +kernel
theorem dX9_weight_32 : decode cX9_weight 32 = .ok (.iload_n 2, 1) := by decide +kernel
theorem dX9_weight_33 : decode cX9_weight 33 = .ok (.iastore, 1) := by decide +kernel
theorem dX9_weight_34 : decode cX9_weight 34 = .ok (.iload_n 3, 1) := by decide +kernel
theorem dX9_weight_35 : decode cX9_weight 35 = .ok (.ireturn, 1) := by decide +kernel
theorem dX9_row_0 : decode cX9_row 0 = .ok (.aload_n 0, 1) := by decide +kernel
theorem dX9_row_1 : decode cX9_row 1 = .ok (.iload_n 1, 1) := by decide +kernel
theorem dX9_row_2 : decode cX9_row 2 = .ok (.invokevirtual 73, 3) := by decide +kernel
theorem dX9_row_5 : decode cX9_row 5 = .ok (.astore 4, 2) := by decide +kernel
theorem dX9_row_7 : decode cX9_row 7 = .ok (.aload 4, 2) := by decide +kernel
theorem dX9_row_9 : decode cX9_row 9 = .ok (.ifnull 19, 3) := by decide +kernel
theorem dX9_row_12 : decode cX9_row 12 = .ok (.iload_n 2, 1) := by decide +kernel
theorem dX9_row_13 : decode cX9_row 13 = .ok (.ifCond .lt 15, 3) := by decide +kernel
theorem dX9_row_16 : decode cX9_row 16 = .ok (.iload_n 2, 1) := by decide +kernel
theorem dX9_row_17 : decode cX9_row 17 = .ok (.iconst 3, 1) := by decide +kernel
theorem dX9_row_18 : decode cX9_row 18 = .ok (.if_icmp .gt 10, 3) := by decide +kernel
theorem dX9_row_21 : decode cX9_row 21 = .ok (.iload_n 3, 1) := by decide +kernel
theorem dX9_row_22 : decode cX9_row 22 = .ok (.sipush 200, 3) := by decide +kernel
theorem dX9_row_25 : decode cX9_row 25 = .ok (.if_icmp .le 6, 3) := by decide +kernel
theorem dX9_row_28 : decode cX9_row 28 = .ok (.bipush (-2), 2) := by decide +kernel
theorem dX9_row_30 : decode cX9_row 30 = .ok (.ireturn, 1) := by decide +kernel
theorem dX9_row_31 : decode cX9_row 31 = .ok (.iload_n 3, 1) := by decide +kernel
theorem dX9_row_32 : decode cX9_row 32 = .ok (.ifCond .ge 6, 3) := by decide +kernel
theorem dX9_row_35 : decode cX9_row 35 = .ok (.bipush (-3), 2) := by decide +kernel
theorem dX9_row_37 : decode cX9_row 37 = .ok (.ireturn, 1) := by decide +kernel
theorem dX9_row_38 : decode cX9_row 38 = .ok (.aload 4, 2) := by decide +kernel
theorem dX9_row_40 : decode cX9_row 40 = .ok (.iload_n 2, 1) := by decide +kernel
theorem dX9_row_41 : decode cX9_row 41 = .ok (.iload_n 3, 1) := by decide +kernel
theorem dX9_row_42 : decode cX9_row 42 = .ok (.invokevirtual 77, 3) := by decide +kernel
theorem dX9_row_45 : decode cX9_row 45 = .ok (.iconst 0, 1) := by decide +kernel
theorem dX9_row_46 : decode cX9_row 46 = .ok (.ireturn, 1) := by decide +kernel
theorem dX9_tear_0 : decode cX9_tear 0 = .ok (.aload_n 0, 1) := by decide +kernel
theorem dX9_tear_1 : decode cX9_tear 1 = .ok (.iload_n 1, 1) := by decide +kernel
theorem dX9_tear_2 : decode cX9_tear 2 = .ok (.invokevirtual 73, 3) := by decide +kernel
theorem dX9_tear_5 : decode cX9_tear 5 = .ok (.astore_n 2, 1) := by decide +kernel
theorem dX9_tear_6 : decode cX9_tear 6 = .ok (.aload_n 2, 1) := by decide +kernel
theorem dX9_tear_7 : decode cX9_tear 7 = .ok (.ifnull 10, 3) := by decide +kernel
theorem dX9_tear_10 : decode cX9_tear 10 = .ok (.aload_n 2, 1) := by decide +kernel
theorem dX9_tear_11 : decode cX9_tear 11 = .ok (.invokevirtual 81, 3) := by decide +kernel
theorem dX9_tear_14 : decode cX9_tear 14 = .ok (.ifCond .ne 5, 3) := by decide +kernel
theorem dX9_tear_17 : decode cX9_tear 17 = .ok (.iconst 0, 1) := by decide +kernel
theorem dX9_tear_18 : decode cX9_tear 18 = .ok (.ireturn, 1) := by decide +kernel
theorem dX9_tear_19 : decode cX9_tear 19 = .ok (.aload_n 2, 1) := by decide +kernel
theorem dX9_tear_20 : decode cX9_tear 20 = .ok (.invokevirtual 85, 3) := by decide +kernel
theorem dX9_tear_23 : decode cX9_tear 23 = .ok (.iconst 1, 1) := by decide +kernel
theorem dX9_tear_24 : decode cX9_tear 24 = .ok (.ireturn, 1) := by decide +kernel
theorem dX9_write_0 : decode cX9_write 0 = .ok (.aload_n 0, 1) := by decide +kernel
theorem dX9_write_1 : decode cX9_write 1 = .ok (.iload_n 1, 1) := by decide +kernel
theorem dX9_write_2 : decode cX9_write 2 = .ok (.iload_n 2, 1) := by decide +kernel
theorem dX9_write_3 : decode cX9_write 3 = .ok (.invokevirtual 88, 3) := by decide +kernel
theorem dX9_write_6 : decode cX9_write 6 = .ok (.istore 5, 2) := by decide +kernel
theorem dX9_write_8 : decode cX9_write 8 = .ok (.aload_n 0, 1) := by decide +kernel
theorem dX9_write_9 : decode cX9_write 9 = .ok (.iload_n 1, 1) := by decide +kernel
theorem dX9_write_10 : decode cX9_write 10 = .ok (.invokevirtual 73, 3) := by decide +kernel
theorem dX9_write_13 : decode cX9_write 13 = .ok (.astore 6, 2) := by decide +kernel
theorem dX9_write_15 : decode cX9_write 15 = .ok (.iload 5, 2) := by decide +kernel
theorem dX9_write_17 : decode cX9_write 17 = .ok (.ifCond .ne 15, 3) := by decide +kernel
theorem dX9_write_20 : decode cX9_write 20 = .ok (.aload 6, 2) := by decide +kernel
theorem dX9_write_22 : decode cX9_write 22 = .ok (.ifnull 10, 3) := by decide +kernel
theorem dX9_write_25 : decode cX9_write 25 = .ok (.aload 6, 2) := by decide +kernel
theorem dX9_write_27 : decode cX9_write 27 = .ok (.iload_n 2, 1) := by decide +kernel
theorem dX9_write_28 : decode cX9_write 28 = .ok (.lload_n 3, 1) := by decide +kernel
theorem dX9_write_29 : decode cX9_write 29 = .ok (.invokevirtual 92, 3) := by decide +kernel
theorem dX9_write_32 : decode cX9_write 32 = .ok (.iload 5, 2) := by decide +kernel
theorem dX9_write_34 : decode cX9_write 34 = .ok (.ireturn, 1) := by decide +kernel
theorem dX9_read_0 : decode cX9_read 0 = .ok (.aload_n 0, 1) := by decide +kernel
theorem dX9_read_1 : decode cX9_read 1 = .ok (.iload_n 1, 1) := by decide +kernel
theorem dX9_read_2 : decode cX9_read 2 = .ok (.invokevirtual 73, 3) := by decide +kernel
theorem dX9_read_5 : decode cX9_read 5 = .ok (.astore_n 3, 1) := by decide +kernel
theorem dX9_read_6 : decode cX9_read 6 = .ok (.aload_n 3, 1) := by decide +kernel
theorem dX9_read_7 : decode cX9_read 7 = .ok (.ifnull 12, 3) := by decide +kernel
theorem dX9_read_10 : decode cX9_read 10 = .ok (.aload_n 0, 1) := by decide +kernel
theorem dX9_read_11 : decode cX9_read 11 = .ok (.iload_n 1, 1) := by decide +kernel
theorem dX9_read_12 : decode cX9_read 12 = .ok (.iload_n 2, 1) := by decide +kernel
theorem dX9_read_13 : decode cX9_read 13 = .ok (.invokevirtual 88, 3) := by decide +kernel
theorem dX9_read_16 : decode cX9_read 16 = .ok (.ifCond .eq 7, 3) := by decide +kernel
theorem dX9_read_19 : decode cX9_read 19 = .ok (.lconst 0, 1) := by decide +kernel
theorem dX9_read_20 : decode cX9_read 20 = .ok (.goto 8, 3) := by decide +kernel
theorem dX9_read_23 : decode cX9_read 23 = .ok (.aload_n 3, 1) := by decide +kernel
theorem dX9_read_24 : decode cX9_read 24 = .ok (.iload_n 2, 1) := by decide +kernel
theorem dX9_read_25 : decode cX9_read 25 = .ok (.invokevirtual 96, 3) := by decide +kernel
theorem dX9_read_28 : decode cX9_read 28 = .ok (.lreturn, 1) := by decide +kernel
theorem dX9_copy_0 : decode cX9_copy 0 = .ok (.aload_n 0, 1) := by decide +kernel
theorem dX9_copy_1 : decode cX9_copy 1 = .ok (.iload_n 1, 1) := by decide +kernel
theorem dX9_copy_2 : decode cX9_copy 2 = .ok (.invokevirtual 73, 3) := by decide +kernel
theorem dX9_copy_5 : decode cX9_copy 5 = .ok (.astore 6, 2) := by decide +kernel
theorem dX9_copy_7 : decode cX9_copy 7 = .ok (.aload_n 0, 1) := by decide +kernel
theorem dX9_copy_8 : decode cX9_copy 8 = .ok (.iload_n 3, 1) := by decide +kernel
theorem dX9_copy_9 : decode cX9_copy 9 = .ok (.invokevirtual 73, 3) := by decide +kernel
theorem dX9_copy_12 : decode cX9_copy 12 = .ok (.astore 7, 2) := by decide +kernel
theorem dX9_copy_14 : decode cX9_copy 14 = .ok (.aload 6, 2) := by decide +kernel
theorem dX9_copy_16 : decode cX9_copy 16 = .ok (.ifnull 8, 3) := by decide +kernel
theorem dX9_copy_19 : decode cX9_copy 19 = .ok (.aload 7, 2) := by decide +kernel
theorem dX9_copy_21 : decode cX9_copy 21 = .ok (.ifnonnull 6, 3) := by decide +kernel
theorem dX9_copy_24 : decode cX9_copy 24 = .ok (.bipush (-2), 2) := by decide +kernel
theorem dX9_copy_26 : decode cX9_copy 26 = .ok (.ireturn, 1) := by decide +kernel
theorem dX9_copy_27 : decode cX9_copy 27 = .ok (.aload 6, 2) := by decide +kernel
theorem dX9_copy_29 : decode cX9_copy 29 = .ok (.invokevirtual 81, 3) := by decide +kernel
theorem dX9_copy_32 : decode cX9_copy 32 = .ok (.ifCond .eq 11, 3) := by decide +kernel
theorem dX9_copy_35 : decode cX9_copy 35 = .ok (.aload 7, 2) := by decide +kernel
theorem dX9_copy_37 : decode cX9_copy 37 = .ok (.invokevirtual 81, 3) := by decide +kernel
theorem dX9_copy_40 : decode cX9_copy 40 = .ok (.ifCond .ne 6, 3) := by decide +kernel
theorem dX9_copy_43 : decode cX9_copy 43 = .ok (.bipush (-5), 2) := by decide +kernel
theorem dX9_copy_45 : decode cX9_copy 45 = .ok (.ireturn, 1) := by decide +kernel
theorem dX9_copy_46 : decode cX9_copy 46 = .ok (.aload 6, 2) := by decide +kernel
theorem dX9_copy_48 : decode cX9_copy 48 = .ok (.getfield 100, 3) := by decide +kernel
theorem dX9_copy_51 : decode cX9_copy 51 = .ok (.aload 7, 2) := by decide +kernel
theorem dX9_copy_53 : decode cX9_copy 53 = .ok (.getfield 100, 3) := by decide +kernel
theorem dX9_copy_56 : decode cX9_copy 56 = .ok (.if_icmp .eq 6, 3) := by decide +kernel
theorem dX9_copy_59 : decode cX9_copy 59 = .ok (.bipush (-7), 2) := by decide +kernel
theorem dX9_copy_61 : decode cX9_copy 61 = .ok (.ireturn, 1) := by decide +kernel
theorem dX9_copy_62 : decode cX9_copy 62 = .ok (.aload 6, 2) := by decide +kernel
theorem dX9_copy_64 : decode cX9_copy 64 = .ok (.iload_n 2, 1) := by decide +kernel
theorem dX9_copy_65 : decode cX9_copy 65 = .ok (.iload 5, 2) := by decide +kernel
theorem dX9_copy_67 : decode cX9_copy 67 = .ok (.invokevirtual 104, 3) := by decide +kernel
theorem dX9_copy_70 : decode cX9_copy 70 = .ok (.ifCond .eq 15, 3) := by decide +kernel
theorem dX9_copy_73 : decode cX9_copy 73 = .ok (.aload 7, 2) := by decide +kernel
theorem dX9_copy_75 : decode cX9_copy 75 = .ok (.iload 4, 2) := by decide +kernel
theorem dX9_copy_77 : decode cX9_copy 77 = .ok (.iload 5, 2) := by decide +kernel
theorem dX9_copy_79 : decode cX9_copy 79 = .ok (.invokevirtual 104, 3) := by decide +kernel
theorem dX9_copy_82 : decode cX9_copy 82 = .ok (.ifCond .ne 6, 3) := by decide +kernel
theorem dX9_copy_85 : decode cX9_copy 85 = .ok (.bipush (-6), 2) := by decide +kernel
theorem dX9_copy_87 : decode cX9_copy 87 = .ok (.ireturn, 1) := by decide +kernel
theorem dX9_copy_88 : decode cX9_copy 88 = .ok (.aload 6, 2) := by decide +kernel
theorem dX9_copy_90 : decode cX9_copy 90 = .ok (.getfield 108, 3) := by decide +kernel
theorem dX9_copy_93 : decode cX9_copy 93 = .ok (.iload_n 2, 1) := by decide +kernel
theorem dX9_copy_94 : decode cX9_copy 94 = .ok (.aload 7, 2) := by decide +kernel
theorem dX9_copy_96 : decode cX9_copy 96 = .ok (.getfield 108, 3) := by decide +kernel
theorem dX9_copy_99 : decode cX9_copy 99 = .ok (.iload 4, 2) := by decide +kernel
theorem dX9_copy_101 : decode cX9_copy 101 = .ok (.iload 5, 2) := by decide +kernel
theorem dX9_copy_103 : decode cX9_copy 103 = .ok (.invokestatic 112, 3) := by decide +kernel
theorem dX9_copy_106 : decode cX9_copy 106 = .ok (.iconst 0, 1) := by decide +kernel
theorem dX9_copy_107 : decode cX9_copy 107 = .ok (.ireturn, 1) := by decide +kernel
theorem dX9_rule_0 : decode cX9_rule 0 = .ok (.aload_n 0, 1) := by decide +kernel
theorem dX9_rule_1 : decode cX9_rule 1 = .ok (.iload_n 2, 1) := by decide +kernel
theorem dX9_rule_2 : decode cX9_rule 2 = .ok (.invokevirtual 73, 3) := by decide +kernel
theorem dX9_rule_5 : decode cX9_rule 5 = .ok (.astore_n 3, 1) := by decide +kernel
theorem dX9_rule_6 : decode cX9_rule 6 = .ok (.aload_n 3, 1) := by decide +kernel
theorem dX9_rule_7 : decode cX9_rule 7 = .ok (.ifnull 13, 3) := by decide +kernel
theorem dX9_rule_10 : decode cX9_rule 10 = .ok (.iload_n 1, 1) := by decide +kernel
theorem dX9_rule_11 : decode cX9_rule 11 = .ok (.ifCond .lt 9, 3) := by decide +kernel
theorem dX9_rule_14 : decode cX9_rule 14 = .ok (.iload_n 1, 1) := by decide +kernel
theorem dX9_rule_15 : decode cX9_rule 15 = .ok (.bipush 6, 2) := by decide +kernel
theorem dX9_rule_17 : decode cX9_rule 17 = .ok (.if_icmp .le 6, 3) := by decide +kernel
theorem dX9_rule_20 : decode cX9_rule 20 = .ok (.bipush (-2), 2) := by decide +kernel
theorem dX9_rule_22 : decode cX9_rule 22 = .ok (.ireturn, 1) := by decide +kernel
theorem dX9_rule_23 : decode cX9_rule 23 = .ok (.aload_n 0, 1) := by decide +kernel
theorem dX9_rule_24 : decode cX9_rule 24 = .ok (.getfield 118, 3) := by decide +kernel
theorem dX9_rule_27 : decode cX9_rule 27 = .ok (.bipush 24, 2) := by decide +kernel
theorem dX9_rule_29 : decode cX9_rule 29 = .ok (.if_icmp .lt 6, 3) := by decide +kernel
theorem dX9_rule_32 : decode cX9_rule 32 = .ok (.bipush (-8), 2) := by decide +kernel
theorem dX9_rule_34 : decode cX9_rule 34 = .ok (.ireturn, 1) := by decide +kernel
theorem dX9_rule_35 : decode cX9_rule 35 = .ok (.aload_n 3, 1) := by decide +kernel
theorem dX9_rule_36 : decode cX9_rule 36 = .ok (.invokevirtual 81, 3) := by decide +kernel
theorem dX9_rule_39 : decode cX9_rule 39 = .ok (.ifCond .ne 6, 3) := by decide +kernel
theorem dX9_rule_42 : decode cX9_rule 42 = .ok (.bipush (-5), 2) := by decide +kernel
theorem dX9_rule_44 : decode cX9_rule 44 = .ok (.ireturn, 1) := by decide +kernel
theorem dX9_rule_45 : decode cX9_rule 45 = .ok (.aload_n 0, 1) := by decide +kernel
theorem dX9_rule_46 : decode cX9_rule 46 = .ok (.getfield 31, 3) := by decide +kernel
theorem dX9_rule_49 : decode cX9_rule 49 = .ok (.aload_n 3, 1) := by decide +kernel
theorem dX9_rule_50 : decode cX9_rule 50 = .ok (.invokevirtual 121, 3) := by decide +kernel
theorem dX9_rule_53 : decode cX9_rule 53 = .ok (.aload_n 0, 1) := by decide +kernel
theorem dX9_rule_54 : decode cX9_rule 54 = .ok (.iload_n 1, 1) := by decide +kernel
theorem dX9_rule_55 : decode cX9_rule 55 = .ok (.invokevirtual 125, 3) := by decide +kernel
theorem dX9_rule_58 : decode cX9_rule 58 = .ok (.astore 4, 2) := by decide +kernel
theorem dX9_rule_60 : decode cX9_rule 60 = .ok (.aload_n 0, 1) := by decide +kernel
theorem dX9_rule_61 : decode cX9_rule 61 = .ok (.getfield 31, 3) := by decide +kernel
theorem dX9_rule_64 : decode cX9_rule 64 = .ok (.getfield 129, 3) := by decide +kernel
theorem dX9_rule_67 : decode cX9_rule 67 = .ok (.ifCond .eq 11, 3) := by decide +kernel
theorem dX9_rule_70 : decode cX9_rule 70 = .ok (.aload_n 0, 1) := by decide +kernel
theorem dX9_rule_71 : decode cX9_rule 71 = .ok (.getfield 31, 3) := by decide +kernel
theorem dX9_rule_74 : decode cX9_rule 74 = .ok (.getfield 129, 3) := by decide +kernel
theorem dX9_rule_77 : decode cX9_rule 77 = .ok (.ireturn, 1) := by decide +kernel
theorem dX9_rule_78 : decode cX9_rule 78 = .ok (.iload_n 1, 1) := by decide +kernel
theorem dX9_rule_79 : decode cX9_rule 79 = .ok (.iconst 3, 1) := by decide +kernel
theorem dX9_rule_80 : decode cX9_rule 80 = .ok (.if_icmp .ne 16, 3) := by decide +kernel
theorem dX9_rule_83 : decode cX9_rule 83 = .ok (.aload_n 0, 1) := by decide +kernel
theorem dX9_rule_84 : decode cX9_rule 84 = .ok (.getfield 45, 3) := by decide +kernel
theorem dX9_rule_87 : decode cX9_rule 87 = .ok (.invokevirtual 132, 3) := by decide +kernel
theorem dX9_rule_90 : decode cX9_rule 90 = .ok (.ifCond .ne 6, 3) := by decide +kernel
theorem dX9_rule_93 : decode cX9_rule 93 = .ok (.bipush (-7), 2) := by decide +kernel
theorem dX9_rule_95 : decode cX9_rule 95 = .ok (.ireturn, 1) := by decide +kernel
theorem dX9_rule_96 : decode cX9_rule 96 = .ok (.iload_n 1, 1) := by decide +kernel
theorem dX9_rule_97 : decode cX9_rule 97 = .ok (.ifCond .ne 20, 3) := by decide +kernel
theorem dX9_rule_100 : decode cX9_rule 100 = .ok (.aload_n 0, 1) := by decide +kernel
theorem dX9_rule_101 : decode cX9_rule 101 = .ok (.getfield 38, 3) := by decide +kernel
theorem dX9_rule_104 : decode cX9_rule 104 = .ok (.aload_n 0, 1) := by decide +kernel
theorem dX9_rule_105 : decode cX9_rule 105 = .ok (.getfield 135, 3) := by decide +kernel
theorem dX9_rule_108 : decode cX9_rule 108 = .ok (.invokevirtual 138, 3) := by decide +kernel
theorem dX9_rule_111 : decode cX9_rule 111 = .ok (.ifCond .eq 6, 3) := by decide +kernel
theorem dX9_rule_114 : decode cX9_rule 114 = .ok (.bipush (-9), 2) := by decide +kernel
theorem dX9_rule_116 : decode cX9_rule 116 = .ok (.ireturn, 1) := by decide +kernel
theorem dX9_rule_117 : decode cX9_rule 117 = .ok (.aload_n 0, 1) := by decide +kernel
theorem dX9_rule_118 : decode cX9_rule 118 = .ok (.iload_n 1, 1) := by decide +kernel
theorem dX9_rule_119 : decode cX9_rule 119 = .ok (.iconst (-1), 1) := by decide +kernel
theorem dX9_rule_120 : decode cX9_rule 120 = .ok (.iconst (-1), 1) := by decide +kernel
theorem dX9_rule_121 : decode cX9_rule 121 = .ok (.iconst 1, 1) := by decide +kernel
theorem dX9_rule_122 : decode cX9_rule 122 = .ok (.aload 4, 2) := by decide +kernel
theorem dX9_rule_124 : decode cX9_rule 124 = .ok (.invokevirtual 141, 3) := by decide +kernel
theorem dX9_rule_127 : decode cX9_rule 127 = .ok (.ireturn, 1) := by decide +kernel
theorem dX9_less_0 : decode cX9_less 0 = .ok (.aload_n 0, 1) := by decide +kernel
theorem dX9_less_1 : decode cX9_less 1 = .ok (.bipush 7, 2) := by decide +kernel
theorem dX9_less_3 : decode cX9_less 3 = .ok (.iload_n 1, 1) := by decide +kernel
theorem dX9_less_4 : decode cX9_less 4 = .ok (.iload_n 1, 1) := by decide +kernel
theorem dX9_less_5 : decode cX9_less 5 = .ok (.iload_n 2, 1) := by decide +kernel
theorem dX9_less_6 : decode cX9_less 6 = .ok (.invokevirtual 145, 3) := by decide +kernel
theorem dX9_less_9 : decode cX9_less 9 = .ok (.ireturn, 1) := by decide +kernel
theorem dX9_take_0 : decode cX9_take 0 = .ok (.aload_n 0, 1) := by decide +kernel
theorem dX9_take_1 : decode cX9_take 1 = .ok (.bipush 8, 2) := by decide +kernel
theorem dX9_take_3 : decode cX9_take 3 = .ok (.iload_n 1, 1) := by decide +kernel
theorem dX9_take_4 : decode cX9_take 4 = .ok (.iload_n 1, 1) := by decide +kernel
theorem dX9_take_5 : decode cX9_take 5 = .ok (.iload_n 2, 1) := by decide +kernel
theorem dX9_take_6 : decode cX9_take 6 = .ok (.invokevirtual 145, 3) := by decide +kernel
theorem dX9_take_9 : decode cX9_take 9 = .ok (.ireturn, 1) := by decide +kernel
theorem dX9_turn_0 : decode cX9_turn 0 = .ok (.aload_n 0, 1) := by decide +kernel
theorem dX9_turn_1 : decode cX9_turn 1 = .ok (.bipush 9, 2) := by decide +kernel
theorem dX9_turn_3 : decode cX9_turn 3 = .ok (.iload_n 1, 1) := by decide +kernel
theorem dX9_turn_4 : decode cX9_turn 4 = .ok (.iload_n 1, 1) := by decide +kernel
theorem dX9_turn_5 : decode cX9_turn 5 = .ok (.iconst 0, 1) := by decide +kernel
theorem dX9_turn_6 : decode cX9_turn 6 = .ok (.invokevirtual 145, 3) := by decide +kernel
theorem dX9_turn_9 : decode cX9_turn 9 = .ok (.ireturn, 1) := by decide +kernel
theorem dX9_join_0 : decode cX9_join 0 = .ok (.aload_n 0, 1) := by decide +kernel
theorem dX9_join_1 : decode cX9_join 1 = .ok (.bipush 10, 2) := by decide +kernel
theorem dX9_join_3 : decode cX9_join 3 = .ok (.iload_n 1, 1) := by decide +kernel
theorem dX9_join_4 : decode cX9_join 4 = .ok (.iload_n 2, 1) := by decide +kernel
theorem dX9_join_5 : decode cX9_join 5 = .ok (.iconst 0, 1) := by decide +kernel
theorem dX9_join_6 : decode cX9_join 6 = .ok (.invokevirtual 145, 3) := by decide +kernel
theorem dX9_join_9 : decode cX9_join 9 = .ok (.ireturn, 1) := by decide +kernel
theorem dX9_broken_0 : decode cX9_broken 0 = .ok (.iload_n 1, 1) := by decide +kernel
theorem dX9_broken_1 : decode cX9_broken 1 = .ok (.tableswitch 51 0 2 #[27, 35, 43], 27) := by decide +kernel
theorem dX9_broken_28 : decode cX9_broken 28 = .ok (.aload_n 0, 1) := by decide +kernel
theorem dX9_broken_29 : decode cX9_broken 29 = .ok (.getfield 38, 3) := by decide +kernel
theorem dX9_broken_32 : decode cX9_broken 32 = .ok (.getfield 149, 3) := by decide +kernel
theorem dX9_broken_35 : decode cX9_broken 35 = .ok (.ireturn, 1) := by decide +kernel
theorem dX9_broken_36 : decode cX9_broken 36 = .ok (.aload_n 0, 1) := by decide +kernel
theorem dX9_broken_37 : decode cX9_broken 37 = .ok (.getfield 38, 3) := by decide +kernel
theorem dX9_broken_40 : decode cX9_broken 40 = .ok (.getfield 152, 3) := by decide +kernel
theorem dX9_broken_43 : decode cX9_broken 43 = .ok (.ireturn, 1) := by decide +kernel
theorem dX9_broken_44 : decode cX9_broken 44 = .ok (.aload_n 0, 1) := by decide +kernel
theorem dX9_broken_45 : decode cX9_broken 45 = .ok (.getfield 38, 3) := by decide +kernel
theorem dX9_broken_48 : decode cX9_broken 48 = .ok (.getfield 155, 3) := by decide +kernel
theorem dX9_broken_51 : decode cX9_broken 51 = .ok (.ireturn, 1) := by decide +kernel
theorem dX9_broken_52 : decode cX9_broken 52 = .ok (.iconst (-1), 1) := by decide +kernel
theorem dX9_broken_53 : decode cX9_broken 53 = .ok (.ireturn, 1) := by decide +kernel
theorem dX9_look_0 : decode cX9_look 0 = .ok (.aload_n 0, 1) := by decide +kernel
theorem dX9_look_1 : decode cX9_look 1 = .ok (.iload_n 1, 1) := by decide +kernel
theorem dX9_look_2 : decode cX9_look 2 = .ok (.invokevirtual 158, 3) := by decide +kernel
theorem dX9_look_5 : decode cX9_look 5 = .ok (.astore_n 3, 1) := by decide +kernel
theorem dX9_look_6 : decode cX9_look 6 = .ok (.aload_n 3, 1) := by decide +kernel
theorem dX9_look_7 : decode cX9_look 7 = .ok (.ifnonnull 5, 3) := by decide +kernel
theorem dX9_look_10 : decode cX9_look 10 = .ok (.iconst (-1), 1) := by decide +kernel
theorem dX9_look_11 : decode cX9_look 11 = .ok (.ireturn, 1) := by decide +kernel
theorem dX9_look_12 : decode cX9_look 12 = .ok (.iload_n 2, 1) := by decide +kernel
theorem dX9_look_13 : decode cX9_look 13 = .ok (.tableswitch 77 0 5 #[39, 44, 53, 62, 67, 72], 39) := by decide +kernel
theorem dX9_look_52 : decode cX9_look 52 = .ok (.aload_n 3, 1) := by decide +kernel
theorem dX9_look_53 : decode cX9_look 53 = .ok (.getfield 162, 3) := by decide +kernel
theorem dX9_look_56 : decode cX9_look 56 = .ok (.ireturn, 1) := by decide +kernel
theorem dX9_look_57 : decode cX9_look 57 = .ok (.aload_n 3, 1) := by decide +kernel
theorem dX9_look_58 : decode cX9_look 58 = .ok (.aload_n 0, 1) := by decide +kernel
theorem dX9_look_59 : decode cX9_look 59 = .ok (.getfield 135, 3) := by decide +kernel
theorem dX9_look_62 : decode cX9_look 62 = .ok (.invokevirtual 165, 3) := by decide +kernel
theorem dX9_look_65 : decode cX9_look 65 = .ok (.ireturn, 1) := by decide +kernel
theorem dX9_look_66 : decode cX9_look 66 = .ok (.aload_n 3, 1) := by decide +kernel
theorem dX9_look_67 : decode cX9_look 67 = .ok (.aload_n 0, 1) := by decide +kernel
theorem dX9_look_68 : decode cX9_look 68 = .ok (.getfield 135, 3) := by decide +kernel
theorem dX9_look_71 : decode cX9_look 71 = .ok (.invokevirtual 169, 3) := by decide +kernel
theorem dX9_look_74 : decode cX9_look 74 = .ok (.ireturn, 1) := by decide +kernel
theorem dX9_look_75 : decode cX9_look 75 = .ok (.aload_n 3, 1) := by decide +kernel
theorem dX9_look_76 : decode cX9_look 76 = .ok (.getfield 172, 3) := by decide +kernel
theorem dX9_look_79 : decode cX9_look 79 = .ok (.ireturn, 1) := by decide +kernel
theorem dX9_look_80 : decode cX9_look 80 = .ok (.aload_n 3, 1) := by decide +kernel
theorem dX9_look_81 : decode cX9_look 81 = .ok (.getfield 175, 3) := by decide +kernel
theorem dX9_look_84 : decode cX9_look 84 = .ok (.ireturn, 1) := by decide +kernel
theorem dX9_look_85 : decode cX9_look 85 = .ok (.aload_n 3, 1) := by decide +kernel
theorem dX9_look_86 : decode cX9_look 86 = .ok (.getfield 178, 3) := by decide +kernel
theorem dX9_look_89 : decode cX9_look 89 = .ok (.ireturn, 1) := by decide +kernel
theorem dX9_look_90 : decode cX9_look 90 = .ok (.iconst (-1), 1) := by decide +kernel
theorem dX9_look_91 : decode cX9_look 91 = .ok (.ireturn, 1) := by decide +kernel
theorem dX9_allows_0 : decode cX9_allows 0 = .ok (.aload_n 0, 1) := by decide +kernel
theorem dX9_allows_1 : decode cX9_allows 1 = .ok (.iload_n 1, 1) := by decide +kernel
theorem dX9_allows_2 : decode cX9_allows 2 = .ok (.invokevirtual 158, 3) := by decide +kernel
theorem dX9_allows_5 : decode cX9_allows 5 = .ok (.astore_n 3, 1) := by decide +kernel
theorem dX9_allows_6 : decode cX9_allows 6 = .ok (.aload_n 3, 1) := by decide +kernel
theorem dX9_allows_7 : decode cX9_allows 7 = .ok (.ifnull 11, 3) := by decide +kernel
theorem dX9_allows_10 : decode cX9_allows 10 = .ok (.aload_n 0, 1) := by decide +kernel
theorem dX9_allows_11 : decode cX9_allows 11 = .ok (.iload_n 2, 1) := by decide +kernel
theorem dX9_allows_12 : decode cX9_allows 12 = .ok (.invokevirtual 181, 3) := by decide +kernel
theorem dX9_allows_15 : decode cX9_allows 15 = .ok (.ifCond .ne 5, 3) := by decide +kernel
theorem dX9_allows_18 : decode cX9_allows 18 = .ok (.iconst (-1), 1) := by decide +kernel
theorem dX9_allows_19 : decode cX9_allows 19 = .ok (.ireturn, 1) := by decide +kernel
theorem dX9_allows_20 : decode cX9_allows 20 = .ok (.aload_n 3, 1) := by decide +kernel
theorem dX9_allows_21 : decode cX9_allows 21 = .ok (.iload_n 2, 1) := by decide +kernel
theorem dX9_allows_22 : decode cX9_allows 22 = .ok (.invokevirtual 184, 3) := by decide +kernel
theorem dX9_allows_25 : decode cX9_allows 25 = .ok (.ifCond .eq 7, 3) := by decide +kernel
theorem dX9_allows_28 : decode cX9_allows 28 = .ok (.iconst 1, 1) := by decide +kernel
theorem dX9_allows_29 : decode cX9_allows 29 = .ok (.goto 4, 3) := by decide +kernel
theorem dX9_allows_32 : decode cX9_allows 32 = .ok (.iconst 0, 1) := by decide +kernel
theorem dX9_allows_33 : decode cX9_allows 33 = .ok (.ireturn, 1) := by decide +kernel
theorem dX9_rank_0 : decode cX9_rank 0 = .ok (.aload_n 0, 1) := by decide +kernel
theorem dX9_rank_1 : decode cX9_rank 1 = .ok (.iload_n 1, 1) := by decide +kernel
theorem dX9_rank_2 : decode cX9_rank 2 = .ok (.invokevirtual 158, 3) := by decide +kernel
theorem dX9_rank_5 : decode cX9_rank 5 = .ok (.astore_n 3, 1) := by decide +kernel
theorem dX9_rank_6 : decode cX9_rank 6 = .ok (.aload_n 3, 1) := by decide +kernel
theorem dX9_rank_7 : decode cX9_rank 7 = .ok (.ifnull 11, 3) := by decide +kernel
end
section
theorem dX9_rank_10 : decode cX9_rank 10 = .ok (.aload_n 0, 1) := by decide +kernel
theorem dX9_rank_11 : decode cX9_rank 11 = .ok (.iload_n 2, 1) := by decide +kernel
theorem dX9_rank_12 : decode cX9_rank 12 = .ok (.invokevirtual 181, 3) := by decide +kernel
theorem dX9_rank_15 : decode cX9_rank 15 = .ok (.ifCond .ne 7, 3) := by decide +kernel
theorem dX9_rank_18 : decode cX9_rank 18 = .ok (.iconst (-1), 1) := by decide +kernel
theorem dX9_rank_19 : decode cX9_rank 19 = .ok (.goto 8, 3) := by decide +kernel
theorem dX9_rank_22 : decode cX9_rank 22 = .ok (.aload_n 3, 1) := by decide +kernel
theorem dX9_rank_23 : decode cX9_rank 23 = .ok (.iload_n 2, 1) := by decide +kernel
theorem dX9_rank_24 : decode cX9_rank 24 = .ok (.invokevirtual 165, 3) := by decide +kernel
theorem dX9_rank_27 : decode cX9_rank 27 = .ok (.ireturn, 1) := by decide +kernel
theorem dX9_span_0 : decode cX9_span 0 = .ok (.aload_n 0, 1) := by decide +kernel
theorem dX9_span_1 : decode cX9_span 1 = .ok (.iload_n 1, 1) := by decide +kernel
theorem dX9_span_2 : decode cX9_span 2 = .ok (.invokevirtual 158, 3) := by decide +kernel
theorem dX9_span_5 : decode cX9_span 5 = .ok (.astore_n 3, 1) := by decide +kernel
theorem dX9_span_6 : decode cX9_span 6 = .ok (.aload_n 3, 1) := by decide +kernel
theorem dX9_span_7 : decode cX9_span 7 = .ok (.ifnull 11, 3) := by decide +kernel
theorem dX9_span_10 : decode cX9_span 10 = .ok (.aload_n 0, 1) := by decide +kernel
theorem dX9_span_11 : decode cX9_span 11 = .ok (.iload_n 2, 1) := by decide +kernel
theorem dX9_span_12 : decode cX9_span 12 = .ok (.invokevirtual 181, 3) := by decide +kernel
theorem dX9_span_15 : decode cX9_span 15 = .ok (.ifCond .ne 5, 3) := by decide +kernel
theorem dX9_span_18 : decode cX9_span 18 = .ok (.iconst (-1), 1) := by decide +kernel
theorem dX9_span_19 : decode cX9_span 19 = .ok (.ireturn, 1) := by decide +kernel
theorem dX9_span_20 : decode cX9_span 20 = .ok (.iconst 0, 1) := by decide +kernel
theorem dX9_span_21 : decode cX9_span 21 = .ok (.istore 4, 2) := by decide +kernel
theorem dX9_span_23 : decode cX9_span 23 = .ok (.iconst 0, 1) := by decide +kernel
theorem dX9_span_24 : decode cX9_span 24 = .ok (.istore 5, 2) := by decide +kernel
theorem dX9_span_26 : decode cX9_span 26 = .ok (.iload 5, 2) := by decide +kernel
theorem dX9_span_28 : decode cX9_span 28 = .ok (.aload_n 0, 1) := by decide +kernel
theorem dX9_span_29 : decode cX9_span 29 = .ok (.getfield 187, 3) := by decide +kernel
theorem dX9_span_32 : decode cX9_span 32 = .ok (.if_icmp .ge 36, 3) := by decide +kernel
theorem dX9_span_35 : decode cX9_span 35 = .ok (.aload_n 3, 1) := by decide +kernel
theorem dX9_span_36 : decode cX9_span 36 = .ok (.iload_n 2, 1) := by decide +kernel
theorem dX9_span_37 : decode cX9_span 37 = .ok (.iconst 1, 1) := by decide +kernel
theorem dX9_span_38 : decode cX9_span 38 = .ok (.iload 5, 2) := by decide +kernel
theorem dX9_span_40 : decode cX9_span 40 = .ok (.ishl, 1) := by decide +kernel
theorem dX9_span_41 : decode cX9_span 41 = .ok (.ior, 1) := by decide +kernel
theorem dX9_span_42 : decode cX9_span 42 = .ok (.invokevirtual 165, 3) := by decide +kernel
theorem dX9_span_45 : decode cX9_span 45 = .ok (.aload_n 3, 1) := by decide +kernel
theorem dX9_span_46 : decode cX9_span 46 = .ok (.iload_n 2, 1) := by decide +kernel
theorem dX9_span_47 : decode cX9_span 47 = .ok (.invokevirtual 165, 3) := by decide +kernel
theorem dX9_span_50 : decode cX9_span 50 = .ok (.if_icmp .ne 12, 3) := by decide +kernel
theorem dX9_span_53 : decode cX9_span 53 = .ok (.iload 4, 2) := by decide +kernel
theorem dX9_span_55 : decode cX9_span 55 = .ok (.iconst 1, 1) := by decide +kernel
theorem dX9_span_56 : decode cX9_span 56 = .ok (.iload 5, 2) := by decide +kernel
theorem dX9_span_58 : decode cX9_span 58 = .ok (.ishl, 1) := by decide +kernel
theorem dX9_span_59 : decode cX9_span 59 = .ok (.ior, 1) := by decide +kernel
theorem dX9_span_60 : decode cX9_span 60 = .ok (.istore 4, 2) := by decide +kernel
theorem dX9_span_62 : decode cX9_span 62 = .ok (.iinc 5 1, 3) := by decide +kernel
theorem dX9_span_65 : decode cX9_span 65 = .ok (.goto (-39), 3) := by decide +kernel
theorem dX9_span_68 : decode cX9_span 68 = .ok (.iload 4, 2) := by decide +kernel
theorem dX9_span_70 : decode cX9_span 70 = .ok (.ireturn, 1) := by decide +kernel
theorem dX9_ring_0 : decode cX9_ring 0 = .ok (.aload_n 0, 1) := by decide +kernel
theorem dX9_ring_1 : decode cX9_ring 1 = .ok (.iload_n 1, 1) := by decide +kernel
theorem dX9_ring_2 : decode cX9_ring 2 = .ok (.invokevirtual 158, 3) := by decide +kernel
theorem dX9_ring_5 : decode cX9_ring 5 = .ok (.astore_n 3, 1) := by decide +kernel
theorem dX9_ring_6 : decode cX9_ring 6 = .ok (.aload_n 3, 1) := by decide +kernel
theorem dX9_ring_7 : decode cX9_ring 7 = .ok (.ifnull 11, 3) := by decide +kernel
theorem dX9_ring_10 : decode cX9_ring 10 = .ok (.aload_n 0, 1) := by decide +kernel
theorem dX9_ring_11 : decode cX9_ring 11 = .ok (.iload_n 2, 1) := by decide +kernel
theorem dX9_ring_12 : decode cX9_ring 12 = .ok (.invokevirtual 181, 3) := by decide +kernel
theorem dX9_ring_15 : decode cX9_ring 15 = .ok (.ifCond .ne 5, 3) := by decide +kernel
theorem dX9_ring_18 : decode cX9_ring 18 = .ok (.iconst (-1), 1) := by decide +kernel
theorem dX9_ring_19 : decode cX9_ring 19 = .ok (.ireturn, 1) := by decide +kernel
theorem dX9_ring_20 : decode cX9_ring 20 = .ok (.aload_n 3, 1) := by decide +kernel
theorem dX9_ring_21 : decode cX9_ring 21 = .ok (.iload_n 2, 1) := by decide +kernel
theorem dX9_ring_22 : decode cX9_ring 22 = .ok (.invokevirtual 184, 3) := by decide +kernel
theorem dX9_ring_25 : decode cX9_ring 25 = .ok (.ifCond .eq 5, 3) := by decide +kernel
theorem dX9_ring_28 : decode cX9_ring 28 = .ok (.iconst 0, 1) := by decide +kernel
theorem dX9_ring_29 : decode cX9_ring 29 = .ok (.ireturn, 1) := by decide +kernel
theorem dX9_ring_30 : decode cX9_ring 30 = .ok (.iload_n 2, 1) := by decide +kernel
theorem dX9_ring_31 : decode cX9_ring 31 = .ok (.istore 4, 2) := by decide +kernel
theorem dX9_ring_33 : decode cX9_ring 33 = .ok (.aload_n 0, 1) := by decide +kernel
theorem dX9_ring_34 : decode cX9_ring 34 = .ok (.getfield 187, 3) := by decide +kernel
theorem dX9_ring_37 : decode cX9_ring 37 = .ok (.iconst 1, 1) := by decide +kernel
theorem dX9_ring_38 : decode cX9_ring 38 = .ok (.isub, 1) := by decide +kernel
theorem dX9_ring_39 : decode cX9_ring 39 = .ok (.istore 5, 2) := by decide +kernel
theorem dX9_ring_41 : decode cX9_ring 41 = .ok (.iload 5, 2) := by decide +kernel
theorem dX9_ring_43 : decode cX9_ring 43 = .ok (.ifCond .lt 36, 3) := by decide +kernel
theorem dX9_ring_46 : decode cX9_ring 46 = .ok (.aload_n 3, 1) := by decide +kernel
theorem dX9_ring_47 : decode cX9_ring 47 = .ok (.iload 4, 2) := by decide +kernel
theorem dX9_ring_49 : decode cX9_ring 49 = .ok (.iconst 1, 1) := by decide +kernel
theorem dX9_ring_50 : decode cX9_ring 50 = .ok (.iload 5, 2) := by decide +kernel
theorem dX9_ring_52 : decode cX9_ring 52 = .ok (.ishl, 1) := by decide +kernel
theorem dX9_ring_53 : decode cX9_ring 53 = .ok (.iconst (-1), 1) := by decide +kernel
theorem dX9_ring_54 : decode cX9_ring 54 = .ok (.ixor, 1) := by decide +kernel
theorem dX9_ring_55 : decode cX9_ring 55 = .ok (.iand, 1) := by decide +kernel
theorem dX9_ring_56 : decode cX9_ring 56 = .ok (.invokevirtual 184, 3) := by decide +kernel
theorem dX9_ring_59 : decode cX9_ring 59 = .ok (.ifCond .ne 14, 3) := by decide +kernel
theorem dX9_ring_62 : decode cX9_ring 62 = .ok (.iload 4, 2) := by decide +kernel
theorem dX9_ring_64 : decode cX9_ring 64 = .ok (.iconst 1, 1) := by decide +kernel
theorem dX9_ring_65 : decode cX9_ring 65 = .ok (.iload 5, 2) := by decide +kernel
theorem dX9_ring_67 : decode cX9_ring 67 = .ok (.ishl, 1) := by decide +kernel
theorem dX9_ring_68 : decode cX9_ring 68 = .ok (.iconst (-1), 1) := by decide +kernel
theorem dX9_ring_69 : decode cX9_ring 69 = .ok (.ixor, 1) := by decide +kernel
theorem dX9_ring_70 : decode cX9_ring 70 = .ok (.iand, 1) := by decide +kernel
theorem dX9_ring_71 : decode cX9_ring 71 = .ok (.istore 4, 2) := by decide +kernel
theorem dX9_ring_73 : decode cX9_ring 73 = .ok (.iinc 5 (-1), 3) := by decide +kernel
theorem dX9_ring_76 : decode cX9_ring 76 = .ok (.goto (-35), 3) := by decide +kernel
theorem dX9_ring_79 : decode cX9_ring 79 = .ok (.iload 4, 2) := by decide +kernel
theorem dX9_ring_81 : decode cX9_ring 81 = .ok (.ireturn, 1) := by decide +kernel
theorem dX9_exchange_0 : decode cX9_exchange 0 = .ok (.aload_n 0, 1) := by decide +kernel
theorem dX9_exchange_1 : decode cX9_exchange 1 = .ok (.iload_n 1, 1) := by decide +kernel
theorem dX9_exchange_2 : decode cX9_exchange 2 = .ok (.invokevirtual 158, 3) := by decide +kernel
theorem dX9_exchange_5 : decode cX9_exchange 5 = .ok (.astore 4, 2) := by decide +kernel
theorem dX9_exchange_7 : decode cX9_exchange 7 = .ok (.aload 4, 2) := by decide +kernel
theorem dX9_exchange_9 : decode cX9_exchange 9 = .ok (.ifnull 19, 3) := by decide +kernel
theorem dX9_exchange_12 : decode cX9_exchange 12 = .ok (.aload_n 0, 1) := by decide +kernel
theorem dX9_exchange_13 : decode cX9_exchange 13 = .ok (.iload_n 2, 1) := by decide +kernel
theorem dX9_exchange_14 : decode cX9_exchange 14 = .ok (.invokevirtual 181, 3) := by decide +kernel
theorem dX9_exchange_17 : decode cX9_exchange 17 = .ok (.ifCond .eq 11, 3) := by decide +kernel
theorem dX9_exchange_20 : decode cX9_exchange 20 = .ok (.aload_n 0, 1) := by decide +kernel
theorem dX9_exchange_21 : decode cX9_exchange 21 = .ok (.iload_n 3, 1) := by decide +kernel
theorem dX9_exchange_22 : decode cX9_exchange 22 = .ok (.invokevirtual 68, 3) := by decide +kernel
theorem dX9_exchange_25 : decode cX9_exchange 25 = .ok (.ifCond .ne 5, 3) := by decide +kernel
theorem dX9_exchange_28 : decode cX9_exchange 28 = .ok (.iconst (-1), 1) := by decide +kernel
theorem dX9_exchange_29 : decode cX9_exchange 29 = .ok (.ireturn, 1) := by decide +kernel
theorem dX9_exchange_30 : decode cX9_exchange 30 = .ok (.iload_n 2, 1) := by decide +kernel
theorem dX9_exchange_31 : decode cX9_exchange 31 = .ok (.iconst 1, 1) := by decide +kernel
theorem dX9_exchange_32 : decode cX9_exchange 32 = .ok (.iload_n 3, 1) := by decide +kernel
theorem dX9_exchange_33 : decode cX9_exchange 33 = .ok (.ishl, 1) := by decide +kernel
theorem dX9_exchange_34 : decode cX9_exchange 34 = .ok (.ior, 1) := by decide +kernel
theorem dX9_exchange_35 : decode cX9_exchange 35 = .ok (.istore 5, 2) := by decide +kernel
theorem dX9_exchange_37 : decode cX9_exchange 37 = .ok (.aload 4, 2) := by decide +kernel
theorem dX9_exchange_39 : decode cX9_exchange 39 = .ok (.iload_n 2, 1) := by decide +kernel
theorem dX9_exchange_40 : decode cX9_exchange 40 = .ok (.invokevirtual 184, 3) := by decide +kernel
theorem dX9_exchange_43 : decode cX9_exchange 43 = .ok (.ifCond .eq 9, 3) := by decide +kernel
theorem dX9_exchange_46 : decode cX9_exchange 46 = .ok (.iload 5, 2) := by decide +kernel
theorem dX9_exchange_48 : decode cX9_exchange 48 = .ok (.iload_n 2, 1) := by decide +kernel
theorem dX9_exchange_49 : decode cX9_exchange 49 = .ok (.if_icmp .ne 5, 3) := by decide +kernel
theorem dX9_exchange_52 : decode cX9_exchange 52 = .ok (.iconst (-1), 1) := by decide +kernel
theorem dX9_exchange_53 : decode cX9_exchange 53 = .ok (.ireturn, 1) := by decide +kernel
theorem dX9_exchange_54 : decode cX9_exchange 54 = .ok (.aload 4, 2) := by decide +kernel
theorem dX9_exchange_56 : decode cX9_exchange 56 = .ok (.iload 5, 2) := by decide +kernel
theorem dX9_exchange_58 : decode cX9_exchange 58 = .ok (.invokevirtual 184, 3) := by decide +kernel
theorem dX9_exchange_61 : decode cX9_exchange 61 = .ok (.ifCond .eq 7, 3) := by decide +kernel
theorem dX9_exchange_64 : decode cX9_exchange 64 = .ok (.iconst 0, 1) := by decide +kernel
theorem dX9_exchange_65 : decode cX9_exchange 65 = .ok (.goto 12, 3) := by decide +kernel
theorem dX9_exchange_68 : decode cX9_exchange 68 = .ok (.aload_n 0, 1) := by decide +kernel
theorem dX9_exchange_69 : decode cX9_exchange 69 = .ok (.aload 4, 2) := by decide +kernel
theorem dX9_exchange_71 : decode cX9_exchange 71 = .ok (.iload_n 2, 1) := by decide +kernel
theorem dX9_exchange_72 : decode cX9_exchange 72 = .ok (.iload 5, 2) := by decide +kernel
theorem dX9_exchange_74 : decode cX9_exchange 74 = .ok (.invokevirtual 190, 3) := by decide +kernel
theorem dX9_exchange_77 : decode cX9_exchange 77 = .ok (.ireturn, 1) := by decide +kernel
theorem dX9_full_0 : decode cX9_full 0 = .ok (.aload_n 0, 1) := by decide +kernel
theorem dX9_full_1 : decode cX9_full 1 = .ok (.iload_n 1, 1) := by decide +kernel
theorem dX9_full_2 : decode cX9_full 2 = .ok (.invokevirtual 158, 3) := by decide +kernel
theorem dX9_full_5 : decode cX9_full 5 = .ok (.astore_n 3, 1) := by decide +kernel
theorem dX9_full_6 : decode cX9_full 6 = .ok (.aload_n 3, 1) := by decide +kernel
theorem dX9_full_7 : decode cX9_full 7 = .ok (.ifnonnull 5, 3) := by decide +kernel
theorem dX9_full_10 : decode cX9_full 10 = .ok (.iconst (-1), 1) := by decide +kernel
theorem dX9_full_11 : decode cX9_full 11 = .ok (.ireturn, 1) := by decide +kernel
theorem dX9_full_12 : decode cX9_full 12 = .ok (.iconst 0, 1) := by decide +kernel
theorem dX9_full_13 : decode cX9_full 13 = .ok (.istore 4, 2) := by decide +kernel
theorem dX9_full_15 : decode cX9_full 15 = .ok (.iconst 0, 1) := by decide +kernel
theorem dX9_full_16 : decode cX9_full 16 = .ok (.istore 5, 2) := by decide +kernel
theorem dX9_full_18 : decode cX9_full 18 = .ok (.iconst 0, 1) := by decide +kernel
theorem dX9_full_19 : decode cX9_full 19 = .ok (.istore 6, 2) := by decide +kernel
theorem dX9_full_21 : decode cX9_full 21 = .ok (.iload 6, 2) := by decide +kernel
theorem dX9_full_23 : decode cX9_full 23 = .ok (.aload_n 0, 1) := by decide +kernel
theorem dX9_full_24 : decode cX9_full 24 = .ok (.getfield 187, 3) := by decide +kernel
theorem dX9_full_27 : decode cX9_full 27 = .ok (.if_icmp .ge 46, 3) := by decide +kernel
theorem dX9_full_30 : decode cX9_full 30 = .ok (.iconst 1, 1) := by decide +kernel
theorem dX9_full_31 : decode cX9_full 31 = .ok (.aload_n 0, 1) := by decide +kernel
theorem dX9_full_32 : decode cX9_full 32 = .ok (.iload 5, 2) := by decide +kernel
theorem dX9_full_34 : decode cX9_full 34 = .ok (.iload_n 2, 1) := by decide +kernel
theorem dX9_full_35 : decode cX9_full 35 = .ok (.invokevirtual 194, 3) := by decide +kernel
theorem dX9_full_38 : decode cX9_full 38 = .ok (.ishl, 1) := by decide +kernel
theorem dX9_full_39 : decode cX9_full 39 = .ok (.istore 7, 2) := by decide +kernel
theorem dX9_full_41 : decode cX9_full 41 = .ok (.iload 5, 2) := by decide +kernel
theorem dX9_full_43 : decode cX9_full 43 = .ok (.iload 7, 2) := by decide +kernel
theorem dX9_full_45 : decode cX9_full 45 = .ok (.ior, 1) := by decide +kernel
theorem dX9_full_46 : decode cX9_full 46 = .ok (.istore 5, 2) := by decide +kernel
theorem dX9_full_48 : decode cX9_full 48 = .ok (.aload_n 3, 1) := by decide +kernel
theorem dX9_full_49 : decode cX9_full 49 = .ok (.iload 4, 2) := by decide +kernel
theorem dX9_full_51 : decode cX9_full 51 = .ok (.iload 7, 2) := by decide +kernel
theorem dX9_full_53 : decode cX9_full 53 = .ok (.ior, 1) := by decide +kernel
theorem dX9_full_54 : decode cX9_full 54 = .ok (.invokevirtual 184, 3) := by decide +kernel
theorem dX9_full_57 : decode cX9_full 57 = .ok (.ifCond .eq 10, 3) := by decide +kernel
theorem dX9_full_60 : decode cX9_full 60 = .ok (.iload 4, 2) := by decide +kernel
theorem dX9_full_62 : decode cX9_full 62 = .ok (.iload 7, 2) := by decide +kernel
theorem dX9_full_64 : decode cX9_full 64 = .ok (.ior, 1) := by decide +kernel
theorem dX9_full_65 : decode cX9_full 65 = .ok (.istore 4, 2) := by decide +kernel
theorem dX9_full_67 : decode cX9_full 67 = .ok (.iinc 6 1, 3) := by decide +kernel
theorem dX9_full_70 : decode cX9_full 70 = .ok (.goto (-49), 3) := by decide +kernel
theorem dX9_full_73 : decode cX9_full 73 = .ok (.iload 4, 2) := by decide +kernel
theorem dX9_full_75 : decode cX9_full 75 = .ok (.ireturn, 1) := by decide +kernel
theorem dX9_both_0 : decode cX9_both 0 = .ok (.aload_n 0, 1) := by decide +kernel
theorem dX9_both_1 : decode cX9_both 1 = .ok (.iload_n 1, 1) := by decide +kernel
theorem dX9_both_2 : decode cX9_both 2 = .ok (.invokevirtual 158, 3) := by decide +kernel
theorem dX9_both_5 : decode cX9_both 5 = .ok (.astore_n 3, 1) := by decide +kernel
theorem dX9_both_6 : decode cX9_both 6 = .ok (.aload_n 0, 1) := by decide +kernel
theorem dX9_both_7 : decode cX9_both 7 = .ok (.iload_n 2, 1) := by decide +kernel
theorem dX9_both_8 : decode cX9_both 8 = .ok (.invokevirtual 158, 3) := by decide +kernel
theorem dX9_both_11 : decode cX9_both 11 = .ok (.astore 4, 2) := by decide +kernel
theorem dX9_both_13 : decode cX9_both 13 = .ok (.aload_n 3, 1) := by decide +kernel
theorem dX9_both_14 : decode cX9_both 14 = .ok (.ifnull 8, 3) := by decide +kernel
theorem dX9_both_17 : decode cX9_both 17 = .ok (.aload 4, 2) := by decide +kernel
theorem dX9_both_19 : decode cX9_both 19 = .ok (.ifnonnull 7, 3) := by decide +kernel
theorem dX9_both_22 : decode cX9_both 22 = .ok (.iconst (-1), 1) := by decide +kernel
theorem dX9_both_23 : decode cX9_both 23 = .ok (.goto 12, 3) := by decide +kernel
theorem dX9_both_26 : decode cX9_both 26 = .ok (.aload_n 0, 1) := by decide +kernel
theorem dX9_both_27 : decode cX9_both 27 = .ok (.aload_n 3, 1) := by decide +kernel
theorem dX9_both_28 : decode cX9_both 28 = .ok (.aload 4, 2) := by decide +kernel
theorem dX9_both_30 : decode cX9_both 30 = .ok (.aload 4, 2) := by decide +kernel
theorem dX9_both_32 : decode cX9_both 32 = .ok (.invokevirtual 198, 3) := by decide +kernel
theorem dX9_both_35 : decode cX9_both 35 = .ok (.ireturn, 1) := by decide +kernel
theorem dX9_split_0 : decode cX9_split 0 = .ok (.aload_n 0, 1) := by decide +kernel
theorem dX9_split_1 : decode cX9_split 1 = .ok (.iload_n 1, 1) := by decide +kernel
theorem dX9_split_2 : decode cX9_split 2 = .ok (.invokevirtual 158, 3) := by decide +kernel
theorem dX9_split_5 : decode cX9_split 5 = .ok (.astore_n 3, 1) := by decide +kernel
theorem dX9_split_6 : decode cX9_split 6 = .ok (.aload_n 0, 1) := by decide +kernel
theorem dX9_split_7 : decode cX9_split 7 = .ok (.iload_n 2, 1) := by decide +kernel
theorem dX9_split_8 : decode cX9_split 8 = .ok (.invokevirtual 158, 3) := by decide +kernel
theorem dX9_split_11 : decode cX9_split 11 = .ok (.astore 4, 2) := by decide +kernel
theorem dX9_split_13 : decode cX9_split 13 = .ok (.aload_n 3, 1) := by decide +kernel
theorem dX9_split_14 : decode cX9_split 14 = .ok (.ifnull 8, 3) := by decide +kernel
theorem dX9_split_17 : decode cX9_split 17 = .ok (.aload 4, 2) := by decide +kernel
theorem dX9_split_19 : decode cX9_split 19 = .ok (.ifnonnull 5, 3) := by decide +kernel
theorem dX9_split_22 : decode cX9_split 22 = .ok (.iconst (-1), 1) := by decide +kernel
theorem dX9_split_23 : decode cX9_split 23 = .ok (.ireturn, 1) := by decide +kernel
theorem dX9_split_24 : decode cX9_split 24 = .ok (.aload_n 0, 1) := by decide +kernel
theorem dX9_split_25 : decode cX9_split 25 = .ok (.aload_n 3, 1) := by decide +kernel
theorem dX9_split_26 : decode cX9_split 26 = .ok (.aload 4, 2) := by decide +kernel
theorem dX9_split_28 : decode cX9_split 28 = .ok (.aload 4, 2) := by decide +kernel
theorem dX9_split_30 : decode cX9_split 30 = .ok (.invokevirtual 198, 3) := by decide +kernel
theorem dX9_split_33 : decode cX9_split 33 = .ok (.invokestatic 202, 3) := by decide +kernel
theorem dX9_split_36 : decode cX9_split 36 = .ok (.istore 5, 2) := by decide +kernel
theorem dX9_split_38 : decode cX9_split 38 = .ok (.iconst 0, 1) := by decide +kernel
theorem dX9_split_39 : decode cX9_split 39 = .ok (.istore 6, 2) := by decide +kernel
theorem dX9_split_41 : decode cX9_split 41 = .ok (.iload 6, 2) := by decide +kernel
theorem dX9_split_43 : decode cX9_split 43 = .ok (.aload_n 0, 1) := by decide +kernel
theorem dX9_split_44 : decode cX9_split 44 = .ok (.getfield 135, 3) := by decide +kernel
theorem dX9_split_47 : decode cX9_split 47 = .ok (.if_icmp .gt 38, 3) := by decide +kernel
theorem dX9_split_50 : decode cX9_split 50 = .ok (.aload_n 3, 1) := by decide +kernel
theorem dX9_split_51 : decode cX9_split 51 = .ok (.iload 6, 2) := by decide +kernel
theorem dX9_split_53 : decode cX9_split 53 = .ok (.invokevirtual 165, 3) := by decide +kernel
theorem dX9_split_56 : decode cX9_split 56 = .ok (.aload 4, 2) := by decide +kernel
theorem dX9_split_58 : decode cX9_split 58 = .ok (.aload_n 0, 1) := by decide +kernel
theorem dX9_split_59 : decode cX9_split 59 = .ok (.getfield 135, 3) := by decide +kernel
theorem dX9_split_62 : decode cX9_split 62 = .ok (.iload 6, 2) := by decide +kernel
theorem dX9_split_64 : decode cX9_split 64 = .ok (.iconst (-1), 1) := by decide +kernel
theorem dX9_split_65 : decode cX9_split 65 = .ok (.ixor, 1) := by decide +kernel
theorem dX9_split_66 : decode cX9_split 66 = .ok (.iand, 1) := by decide +kernel
theorem dX9_split_67 : decode cX9_split 67 = .ok (.invokevirtual 165, 3) := by decide +kernel
theorem dX9_split_70 : decode cX9_split 70 = .ok (.iadd, 1) := by decide +kernel
theorem dX9_split_71 : decode cX9_split 71 = .ok (.iload 5, 2) := by decide +kernel
theorem dX9_split_73 : decode cX9_split 73 = .ok (.if_icmp .ne 6, 3) := by decide +kernel
theorem dX9_split_76 : decode cX9_split 76 = .ok (.iload 6, 2) := by decide +kernel
theorem dX9_split_78 : decode cX9_split 78 = .ok (.ireturn, 1) := by decide +kernel
theorem dX9_split_79 : decode cX9_split 79 = .ok (.iinc 6 1, 3) := by decide +kernel
theorem dX9_split_82 : decode cX9_split 82 = .ok (.goto (-41), 3) := by decide +kernel
theorem dX9_split_85 : decode cX9_split 85 = .ok (.iconst (-1), 1) := by decide +kernel
theorem dX9_split_86 : decode cX9_split 86 = .ok (.ireturn, 1) := by decide +kernel
theorem dX9_most_0 : decode cX9_most 0 = .ok (.aload_n 0, 1) := by decide +kernel
theorem dX9_most_1 : decode cX9_most 1 = .ok (.iload_n 1, 1) := by decide +kernel
theorem dX9_most_2 : decode cX9_most 2 = .ok (.invokevirtual 158, 3) := by decide +kernel
theorem dX9_most_5 : decode cX9_most 5 = .ok (.astore 4, 2) := by decide +kernel
theorem dX9_most_7 : decode cX9_most 7 = .ok (.aload_n 0, 1) := by decide +kernel
theorem dX9_most_8 : decode cX9_most 8 = .ok (.iload_n 2, 1) := by decide +kernel
theorem dX9_most_9 : decode cX9_most 9 = .ok (.invokevirtual 158, 3) := by decide +kernel
theorem dX9_most_12 : decode cX9_most 12 = .ok (.astore 5, 2) := by decide +kernel
theorem dX9_most_14 : decode cX9_most 14 = .ok (.aload 4, 2) := by decide +kernel
theorem dX9_most_16 : decode cX9_most 16 = .ok (.ifnull 8, 3) := by decide +kernel
theorem dX9_most_19 : decode cX9_most 19 = .ok (.aload 5, 2) := by decide +kernel
theorem dX9_most_21 : decode cX9_most 21 = .ok (.ifnonnull 5, 3) := by decide +kernel
theorem dX9_most_24 : decode cX9_most 24 = .ok (.iconst (-1), 1) := by decide +kernel
theorem dX9_most_25 : decode cX9_most 25 = .ok (.ireturn, 1) := by decide +kernel
theorem dX9_most_26 : decode cX9_most 26 = .ok (.iconst (-1), 1) := by decide +kernel
theorem dX9_most_27 : decode cX9_most 27 = .ok (.istore 6, 2) := by decide +kernel
theorem dX9_most_29 : decode cX9_most 29 = .ok (.iconst 0, 1) := by decide +kernel
theorem dX9_most_30 : decode cX9_most 30 = .ok (.istore 7, 2) := by decide +kernel
theorem dX9_most_32 : decode cX9_most 32 = .ok (.iload 7, 2) := by decide +kernel
theorem dX9_most_34 : decode cX9_most 34 = .ok (.aload_n 0, 1) := by decide +kernel
theorem dX9_most_35 : decode cX9_most 35 = .ok (.getfield 135, 3) := by decide +kernel
theorem dX9_most_38 : decode cX9_most 38 = .ok (.if_icmp .gt 51, 3) := by decide +kernel
theorem dX9_most_41 : decode cX9_most 41 = .ok (.iload 7, 2) := by decide +kernel
theorem dX9_most_43 : decode cX9_most 43 = .ok (.invokestatic 202, 3) := by decide +kernel
theorem dX9_most_46 : decode cX9_most 46 = .ok (.iload_n 3, 1) := by decide +kernel
theorem dX9_most_47 : decode cX9_most 47 = .ok (.if_icmp .ne 36, 3) := by decide +kernel
theorem dX9_most_50 : decode cX9_most 50 = .ok (.aload 4, 2) := by decide +kernel
theorem dX9_most_52 : decode cX9_most 52 = .ok (.iload 7, 2) := by decide +kernel
theorem dX9_most_54 : decode cX9_most 54 = .ok (.invokevirtual 184, 3) := by decide +kernel
theorem dX9_most_57 : decode cX9_most 57 = .ok (.ifCond .eq 26, 3) := by decide +kernel
theorem dX9_most_60 : decode cX9_most 60 = .ok (.aload 5, 2) := by decide +kernel
theorem dX9_most_62 : decode cX9_most 62 = .ok (.iload 7, 2) := by decide +kernel
theorem dX9_most_64 : decode cX9_most 64 = .ok (.invokevirtual 184, 3) := by decide +kernel
theorem dX9_most_67 : decode cX9_most 67 = .ok (.ifCond .eq 16, 3) := by decide +kernel
theorem dX9_most_70 : decode cX9_most 70 = .ok (.iload 6, 2) := by decide +kernel
theorem dX9_most_72 : decode cX9_most 72 = .ok (.aload_n 0, 1) := by decide +kernel
theorem dX9_most_73 : decode cX9_most 73 = .ok (.iload 7, 2) := by decide +kernel
theorem dX9_most_75 : decode cX9_most 75 = .ok (.invokevirtual 207, 3) := by decide +kernel
theorem dX9_most_78 : decode cX9_most 78 = .ok (.invokestatic 210, 3) := by decide +kernel
theorem dX9_most_81 : decode cX9_most 81 = .ok (.istore 6, 2) := by decide +kernel
theorem dX9_most_83 : decode cX9_most 83 = .ok (.iinc 7 1, 3) := by decide +kernel
theorem dX9_most_86 : decode cX9_most 86 = .ok (.goto (-54), 3) := by decide +kernel
theorem dX9_most_89 : decode cX9_most 89 = .ok (.iload 6, 2) := by decide +kernel
theorem dX9_most_91 : decode cX9_most 91 = .ok (.ireturn, 1) := by decide +kernel
theorem dX9_three_0 : decode cX9_three 0 = .ok (.aload_n 0, 1) := by decide +kernel
theorem dX9_three_1 : decode cX9_three 1 = .ok (.iload_n 1, 1) := by decide +kernel
theorem dX9_three_2 : decode cX9_three 2 = .ok (.invokevirtual 158, 3) := by decide +kernel
theorem dX9_three_5 : decode cX9_three 5 = .ok (.astore 4, 2) := by decide +kernel
theorem dX9_three_7 : decode cX9_three 7 = .ok (.aload_n 0, 1) := by decide +kernel
theorem dX9_three_8 : decode cX9_three 8 = .ok (.iload_n 2, 1) := by decide +kernel
theorem dX9_three_9 : decode cX9_three 9 = .ok (.invokevirtual 158, 3) := by decide +kernel
theorem dX9_three_12 : decode cX9_three 12 = .ok (.astore 5, 2) := by decide +kernel
theorem dX9_three_14 : decode cX9_three 14 = .ok (.aload_n 0, 1) := by decide +kernel
theorem dX9_three_15 : decode cX9_three 15 = .ok (.iload_n 3, 1) := by decide +kernel
theorem dX9_three_16 : decode cX9_three 16 = .ok (.invokevirtual 158, 3) := by decide +kernel
theorem dX9_three_19 : decode cX9_three 19 = .ok (.astore 6, 2) := by decide +kernel
theorem dX9_three_21 : decode cX9_three 21 = .ok (.aload 4, 2) := by decide +kernel
theorem dX9_three_23 : decode cX9_three 23 = .ok (.ifnull 13, 3) := by decide +kernel
theorem dX9_three_26 : decode cX9_three 26 = .ok (.aload 5, 2) := by decide +kernel
theorem dX9_three_28 : decode cX9_three 28 = .ok (.ifnull 8, 3) := by decide +kernel
theorem dX9_three_31 : decode cX9_three 31 = .ok (.aload 6, 2) := by decide +kernel
theorem dX9_three_33 : decode cX9_three 33 = .ok (.ifnonnull 5, 3) := by decide +kernel
theorem dX9_three_36 : decode cX9_three 36 = .ok (.iconst (-1), 1) := by decide +kernel
theorem dX9_three_37 : decode cX9_three 37 = .ok (.ireturn, 1) := by decide +kernel
theorem dX9_three_38 : decode cX9_three 38 = .ok (.aload_n 0, 1) := by decide +kernel
theorem dX9_three_39 : decode cX9_three 39 = .ok (.aload 4, 2) := by decide +kernel
theorem dX9_three_41 : decode cX9_three 41 = .ok (.aload 5, 2) := by decide +kernel
theorem dX9_three_43 : decode cX9_three 43 = .ok (.aload 6, 2) := by decide +kernel
theorem dX9_three_45 : decode cX9_three 45 = .ok (.invokevirtual 198, 3) := by decide +kernel
theorem dX9_three_48 : decode cX9_three 48 = .ok (.invokestatic 202, 3) := by decide +kernel
theorem dX9_three_51 : decode cX9_three 51 = .ok (.ireturn, 1) := by decide +kernel
theorem dX9_fewest_0 : decode cX9_fewest 0 = .ok (.aload_n 0, 1) := by decide +kernel
theorem dX9_fewest_1 : decode cX9_fewest 1 = .ok (.iload_n 1, 1) := by decide +kernel
theorem dX9_fewest_2 : decode cX9_fewest 2 = .ok (.invokevirtual 158, 3) := by decide +kernel
theorem dX9_fewest_5 : decode cX9_fewest 5 = .ok (.astore_n 2, 1) := by decide +kernel
theorem dX9_fewest_6 : decode cX9_fewest 6 = .ok (.aload_n 2, 1) := by decide +kernel
theorem dX9_fewest_7 : decode cX9_fewest 7 = .ok (.ifnonnull 5, 3) := by decide +kernel
theorem dX9_fewest_10 : decode cX9_fewest 10 = .ok (.iconst (-1), 1) := by decide +kernel
theorem dX9_fewest_11 : decode cX9_fewest 11 = .ok (.ireturn, 1) := by decide +kernel
theorem dX9_fewest_12 : decode cX9_fewest 12 = .ok (.aload_n 2, 1) := by decide +kernel
theorem dX9_fewest_13 : decode cX9_fewest 13 = .ok (.aload_n 0, 1) := by decide +kernel
theorem dX9_fewest_14 : decode cX9_fewest 14 = .ok (.getfield 187, 3) := by decide +kernel
theorem dX9_fewest_17 : decode cX9_fewest 17 = .ok (.invokevirtual 215, 3) := by decide +kernel
theorem dX9_fewest_20 : decode cX9_fewest 20 = .ok (.ifCond .eq 16, 3) := by decide +kernel
theorem dX9_fewest_23 : decode cX9_fewest 23 = .ok (.aload_n 0, 1) := by decide +kernel
theorem dX9_fewest_24 : decode cX9_fewest 24 = .ok (.aload_n 2, 1) := by decide +kernel
theorem dX9_fewest_25 : decode cX9_fewest 25 = .ok (.aload_n 0, 1) := by decide +kernel
theorem dX9_fewest_26 : decode cX9_fewest 26 = .ok (.aload_n 2, 1) := by decide +kernel
theorem dX9_fewest_27 : decode cX9_fewest 27 = .ok (.invokevirtual 218, 3) := by decide +kernel
theorem dX9_fewest_30 : decode cX9_fewest 30 = .ok (.invokevirtual 222, 3) := by decide +kernel
theorem dX9_fewest_33 : decode cX9_fewest 33 = .ok (.goto 5, 3) := by decide +kernel
theorem dX9_fewest_36 : decode cX9_fewest 36 = .ok (.bipush (-2), 2) := by decide +kernel
theorem dX9_fewest_38 : decode cX9_fewest 38 = .ok (.ireturn, 1) := by decide +kernel
theorem dX9_dealt_0 : decode cX9_dealt 0 = .ok (.aload_n 0, 1) := by decide +kernel
theorem dX9_dealt_1 : decode cX9_dealt 1 = .ok (.iload_n 1, 1) := by decide +kernel
theorem dX9_dealt_2 : decode cX9_dealt 2 = .ok (.invokevirtual 158, 3) := by decide +kernel
theorem dX9_dealt_5 : decode cX9_dealt 5 = .ok (.astore_n 3, 1) := by decide +kernel
theorem dX9_dealt_6 : decode cX9_dealt 6 = .ok (.aload_n 3, 1) := by decide +kernel
theorem dX9_dealt_7 : decode cX9_dealt 7 = .ok (.ifnull 11, 3) := by decide +kernel
theorem dX9_dealt_10 : decode cX9_dealt 10 = .ok (.aload_n 0, 1) := by decide +kernel
theorem dX9_dealt_11 : decode cX9_dealt 11 = .ok (.iload_n 2, 1) := by decide +kernel
theorem dX9_dealt_12 : decode cX9_dealt 12 = .ok (.invokevirtual 68, 3) := by decide +kernel
theorem dX9_dealt_15 : decode cX9_dealt 15 = .ok (.ifCond .ne 5, 3) := by decide +kernel
theorem dX9_dealt_18 : decode cX9_dealt 18 = .ok (.iconst (-1), 1) := by decide +kernel
theorem dX9_dealt_19 : decode cX9_dealt 19 = .ok (.ireturn, 1) := by decide +kernel
theorem dX9_dealt_20 : decode cX9_dealt 20 = .ok (.aload_n 3, 1) := by decide +kernel
theorem dX9_dealt_21 : decode cX9_dealt 21 = .ok (.aload_n 0, 1) := by decide +kernel
theorem dX9_dealt_22 : decode cX9_dealt 22 = .ok (.getfield 187, 3) := by decide +kernel
theorem dX9_dealt_25 : decode cX9_dealt 25 = .ok (.invokevirtual 215, 3) := by decide +kernel
theorem dX9_dealt_28 : decode cX9_dealt 28 = .ok (.ifCond .eq 12, 3) := by decide +kernel
theorem dX9_dealt_31 : decode cX9_dealt 31 = .ok (.aload_n 0, 1) := by decide +kernel
theorem dX9_dealt_32 : decode cX9_dealt 32 = .ok (.aload_n 3, 1) := by decide +kernel
theorem dX9_dealt_33 : decode cX9_dealt 33 = .ok (.iload_n 2, 1) := by decide +kernel
theorem dX9_dealt_34 : decode cX9_dealt 34 = .ok (.invokevirtual 226, 3) := by decide +kernel
theorem dX9_dealt_37 : decode cX9_dealt 37 = .ok (.goto 5, 3) := by decide +kernel
theorem dX9_dealt_40 : decode cX9_dealt 40 = .ok (.bipush (-2), 2) := by decide +kernel
theorem dX9_dealt_42 : decode cX9_dealt 42 = .ok (.ireturn, 1) := by decide +kernel
theorem dX9_crowd_0 : decode cX9_crowd 0 = .ok (.aload_n 0, 1) := by decide +kernel
theorem dX9_crowd_1 : decode cX9_crowd 1 = .ok (.iload_n 1, 1) := by decide +kernel
theorem dX9_crowd_2 : decode cX9_crowd 2 = .ok (.invokevirtual 158, 3) := by decide +kernel
theorem dX9_crowd_5 : decode cX9_crowd 5 = .ok (.astore_n 2, 1) := by decide +kernel
theorem dX9_crowd_6 : decode cX9_crowd 6 = .ok (.aload_n 2, 1) := by decide +kernel
theorem dX9_crowd_7 : decode cX9_crowd 7 = .ok (.ifnonnull 5, 3) := by decide +kernel
theorem dX9_crowd_10 : decode cX9_crowd 10 = .ok (.iconst (-1), 1) := by decide +kernel
theorem dX9_crowd_11 : decode cX9_crowd 11 = .ok (.ireturn, 1) := by decide +kernel
theorem dX9_crowd_12 : decode cX9_crowd 12 = .ok (.aload_n 2, 1) := by decide +kernel
theorem dX9_crowd_13 : decode cX9_crowd 13 = .ok (.aload_n 0, 1) := by decide +kernel
theorem dX9_crowd_14 : decode cX9_crowd 14 = .ok (.getfield 187, 3) := by decide +kernel
theorem dX9_crowd_17 : decode cX9_crowd 17 = .ok (.invokevirtual 215, 3) := by decide +kernel
theorem dX9_crowd_20 : decode cX9_crowd 20 = .ok (.ifCond .eq 11, 3) := by decide +kernel
theorem dX9_crowd_23 : decode cX9_crowd 23 = .ok (.aload_n 0, 1) := by decide +kernel
theorem dX9_crowd_24 : decode cX9_crowd 24 = .ok (.aload_n 2, 1) := by decide +kernel
theorem dX9_crowd_25 : decode cX9_crowd 25 = .ok (.invokevirtual 218, 3) := by decide +kernel
theorem dX9_crowd_28 : decode cX9_crowd 28 = .ok (.goto 5, 3) := by decide +kernel
theorem dX9_crowd_31 : decode cX9_crowd 31 = .ok (.bipush (-2), 2) := by decide +kernel
theorem dX9_crowd_33 : decode cX9_crowd 33 = .ok (.ireturn, 1) := by decide +kernel
theorem dX9_pack_0 : decode cX9_pack 0 = .ok (.aload_n 0, 1) := by decide +kernel
theorem dX9_pack_1 : decode cX9_pack 1 = .ok (.iload_n 1, 1) := by decide +kernel
theorem dX9_pack_2 : decode cX9_pack 2 = .ok (.invokevirtual 158, 3) := by decide +kernel
theorem dX9_pack_5 : decode cX9_pack 5 = .ok (.astore_n 2, 1) := by decide +kernel
theorem dX9_pack_6 : decode cX9_pack 6 = .ok (.aload_n 2, 1) := by decide +kernel
theorem dX9_pack_7 : decode cX9_pack 7 = .ok (.ifnonnull 5, 3) := by decide +kernel
theorem dX9_pack_10 : decode cX9_pack 10 = .ok (.iconst (-1), 1) := by decide +kernel
theorem dX9_pack_11 : decode cX9_pack 11 = .ok (.ireturn, 1) := by decide +kernel
theorem dX9_pack_12 : decode cX9_pack 12 = .ok (.aload_n 2, 1) := by decide +kernel
theorem dX9_pack_13 : decode cX9_pack 13 = .ok (.aload_n 0, 1) := by decide +kernel
theorem dX9_pack_14 : decode cX9_pack 14 = .ok (.getfield 135, 3) := by decide +kernel
theorem dX9_pack_17 : decode cX9_pack 17 = .ok (.invokevirtual 165, 3) := by decide +kernel
theorem dX9_pack_20 : decode cX9_pack 20 = .ok (.istore_n 3, 1) := by decide +kernel
theorem dX9_pack_21 : decode cX9_pack 21 = .ok (.iload_n 3, 1) := by decide +kernel
theorem dX9_pack_22 : decode cX9_pack 22 = .ok (.ifCond .ne 6, 3) := by decide +kernel
theorem dX9_pack_25 : decode cX9_pack 25 = .ok (.bipush (-2), 2) := by decide +kernel
theorem dX9_pack_27 : decode cX9_pack 27 = .ok (.ireturn, 1) := by decide +kernel
theorem dX9_pack_28 : decode cX9_pack 28 = .ok (.aload_n 0, 1) := by decide +kernel
theorem dX9_pack_29 : decode cX9_pack 29 = .ok (.getfield 187, 3) := by decide +kernel
theorem dX9_pack_32 : decode cX9_pack 32 = .ok (.istore 4, 2) := by decide +kernel
theorem dX9_pack_34 : decode cX9_pack 34 = .ok (.iconst 0, 1) := by decide +kernel
theorem dX9_pack_35 : decode cX9_pack 35 = .ok (.istore 5, 2) := by decide +kernel
theorem dX9_pack_37 : decode cX9_pack 37 = .ok (.iload 5, 2) := by decide +kernel
theorem dX9_pack_39 : decode cX9_pack 39 = .ok (.aload_n 0, 1) := by decide +kernel
theorem dX9_pack_40 : decode cX9_pack 40 = .ok (.getfield 135, 3) := by decide +kernel
theorem dX9_pack_43 : decode cX9_pack 43 = .ok (.if_icmp .gt 44, 3) := by decide +kernel
theorem dX9_pack_46 : decode cX9_pack 46 = .ok (.iload_n 3, 1) := by decide +kernel
theorem dX9_pack_47 : decode cX9_pack 47 = .ok (.aload_n 2, 1) := by decide +kernel
theorem dX9_pack_48 : decode cX9_pack 48 = .ok (.iload 5, 2) := by decide +kernel
theorem dX9_pack_50 : decode cX9_pack 50 = .ok (.invokevirtual 165, 3) := by decide +kernel
theorem dX9_pack_53 : decode cX9_pack 53 = .ok (.isub, 1) := by decide +kernel
theorem dX9_pack_54 : decode cX9_pack 54 = .ok (.istore 6, 2) := by decide +kernel
theorem dX9_pack_56 : decode cX9_pack 56 = .ok (.iload 6, 2) := by decide +kernel
theorem dX9_pack_58 : decode cX9_pack 58 = .ok (.ifCond .le 23, 3) := by decide +kernel
theorem dX9_pack_61 : decode cX9_pack 61 = .ok (.iload 4, 2) := by decide +kernel
theorem dX9_pack_63 : decode cX9_pack 63 = .ok (.aload_n 0, 1) := by decide +kernel
theorem dX9_pack_64 : decode cX9_pack 64 = .ok (.getfield 187, 3) := by decide +kernel
theorem dX9_pack_67 : decode cX9_pack 67 = .ok (.iload 5, 2) := by decide +kernel
theorem dX9_pack_69 : decode cX9_pack 69 = .ok (.invokestatic 202, 3) := by decide +kernel
theorem dX9_pack_72 : decode cX9_pack 72 = .ok (.isub, 1) := by decide +kernel
theorem dX9_pack_73 : decode cX9_pack 73 = .ok (.iload 6, 2) := by decide +kernel
theorem dX9_pack_75 : decode cX9_pack 75 = .ok (.idiv, 1) := by decide +kernel
theorem dX9_pack_76 : decode cX9_pack 76 = .ok (.invokestatic 229, 3) := by decide +kernel
theorem dX9_pack_79 : decode cX9_pack 79 = .ok (.istore 4, 2) := by decide +kernel
theorem dX9_pack_81 : decode cX9_pack 81 = .ok (.iinc 5 1, 3) := by decide +kernel
theorem dX9_pack_84 : decode cX9_pack 84 = .ok (.goto (-47), 3) := by decide +kernel
theorem dX9_pack_87 : decode cX9_pack 87 = .ok (.iload 4, 2) := by decide +kernel
theorem dX9_pack_89 : decode cX9_pack 89 = .ok (.ireturn, 1) := by decide +kernel
theorem dX9_same_0 : decode cX9_same 0 = .ok (.aload_n 0, 1) := by decide +kernel
theorem dX9_same_1 : decode cX9_same 1 = .ok (.iload_n 1, 1) := by decide +kernel
theorem dX9_same_2 : decode cX9_same 2 = .ok (.invokevirtual 158, 3) := by decide +kernel
theorem dX9_same_5 : decode cX9_same 5 = .ok (.astore_n 3, 1) := by decide +kernel
theorem dX9_same_6 : decode cX9_same 6 = .ok (.aload_n 0, 1) := by decide +kernel
theorem dX9_same_7 : decode cX9_same 7 = .ok (.iload_n 2, 1) := by decide +kernel
theorem dX9_same_8 : decode cX9_same 8 = .ok (.invokevirtual 158, 3) := by decide +kernel
theorem dX9_same_11 : decode cX9_same 11 = .ok (.astore 4, 2) := by decide +kernel
theorem dX9_same_13 : decode cX9_same 13 = .ok (.aload_n 3, 1) := by decide +kernel
theorem dX9_same_14 : decode cX9_same 14 = .ok (.ifnull 8, 3) := by decide +kernel
theorem dX9_same_17 : decode cX9_same 17 = .ok (.aload 4, 2) := by decide +kernel
theorem dX9_same_19 : decode cX9_same 19 = .ok (.ifnonnull 5, 3) := by decide +kernel
theorem dX9_same_22 : decode cX9_same 22 = .ok (.iconst (-1), 1) := by decide +kernel
theorem dX9_same_23 : decode cX9_same 23 = .ok (.ireturn, 1) := by decide +kernel
theorem dX9_same_24 : decode cX9_same 24 = .ok (.iconst 0, 1) := by decide +kernel
theorem dX9_same_25 : decode cX9_same 25 = .ok (.istore 5, 2) := by decide +kernel
theorem dX9_same_27 : decode cX9_same 27 = .ok (.iload 5, 2) := by decide +kernel
theorem dX9_same_29 : decode cX9_same 29 = .ok (.aload_n 0, 1) := by decide +kernel
theorem dX9_same_30 : decode cX9_same 30 = .ok (.getfield 135, 3) := by decide +kernel
theorem dX9_same_33 : decode cX9_same 33 = .ok (.if_icmp .gt 27, 3) := by decide +kernel
theorem dX9_same_36 : decode cX9_same 36 = .ok (.aload_n 3, 1) := by decide +kernel
theorem dX9_same_37 : decode cX9_same 37 = .ok (.iload 5, 2) := by decide +kernel
theorem dX9_same_39 : decode cX9_same 39 = .ok (.invokevirtual 184, 3) := by decide +kernel
theorem dX9_same_42 : decode cX9_same 42 = .ok (.aload 4, 2) := by decide +kernel
theorem dX9_same_44 : decode cX9_same 44 = .ok (.iload 5, 2) := by decide +kernel
theorem dX9_same_46 : decode cX9_same 46 = .ok (.invokevirtual 184, 3) := by decide +kernel
theorem dX9_same_49 : decode cX9_same 49 = .ok (.if_icmp .eq 5, 3) := by decide +kernel
theorem dX9_same_52 : decode cX9_same 52 = .ok (.iconst 0, 1) := by decide +kernel
theorem dX9_same_53 : decode cX9_same 53 = .ok (.ireturn, 1) := by decide +kernel
theorem dX9_same_54 : decode cX9_same 54 = .ok (.iinc 5 1, 3) := by decide +kernel
theorem dX9_same_57 : decode cX9_same 57 = .ok (.goto (-30), 3) := by decide +kernel
theorem dX9_same_60 : decode cX9_same 60 = .ok (.iconst 1, 1) := by decide +kernel
theorem dX9_same_61 : decode cX9_same 61 = .ok (.ireturn, 1) := by decide +kernel
theorem dX9_count_0 : decode cX9_count 0 = .ok (.iload_n 1, 1) := by decide +kernel
theorem dX9_count_1 : decode cX9_count 1 = .ok (.tableswitch 55 0 3 #[31, 36, 41, 46], 31) := by decide +kernel
theorem dX9_count_32 : decode cX9_count 32 = .ok (.aload_n 0, 1) := by decide +kernel
theorem dX9_count_33 : decode cX9_count 33 = .ok (.getfield 187, 3) := by decide +kernel
theorem dX9_count_36 : decode cX9_count 36 = .ok (.ireturn, 1) := by decide +kernel
theorem dX9_count_37 : decode cX9_count 37 = .ok (.aload_n 0, 1) := by decide +kernel
theorem dX9_count_38 : decode cX9_count 38 = .ok (.getfield 118, 3) := by decide +kernel
theorem dX9_count_41 : decode cX9_count 41 = .ok (.ireturn, 1) := by decide +kernel
theorem dX9_count_42 : decode cX9_count 42 = .ok (.aload_n 0, 1) := by decide +kernel
theorem dX9_count_43 : decode cX9_count 43 = .ok (.invokevirtual 232, 3) := by decide +kernel
theorem dX9_count_46 : decode cX9_count 46 = .ok (.ireturn, 1) := by decide +kernel
theorem dX9_count_47 : decode cX9_count 47 = .ok (.aload_n 0, 1) := by decide +kernel
theorem dX9_count_48 : decode cX9_count 48 = .ok (.aload_n 0, 1) := by decide +kernel
theorem dX9_count_49 : decode cX9_count 49 = .ok (.getfield 135, 3) := by decide +kernel
theorem dX9_count_52 : decode cX9_count 52 = .ok (.invokevirtual 207, 3) := by decide +kernel
theorem dX9_count_55 : decode cX9_count 55 = .ok (.ireturn, 1) := by decide +kernel
theorem dX9_count_56 : decode cX9_count 56 = .ok (.iconst (-1), 1) := by decide +kernel
theorem dX9_count_57 : decode cX9_count 57 = .ok (.ireturn, 1) := by decide +kernel
theorem dX9_startAnew_0 : decode cX9_startAnew 0 = .ok (.aload_n 0, 1) := by decide +kernel
theorem dX9_startAnew_1 : decode cX9_startAnew 1 = .ok (.iload_n 1, 1) := by decide +kernel
theorem dX9_startAnew_2 : decode cX9_startAnew 2 = .ok (.putfield 187, 3) := by decide +kernel
theorem dX9_startAnew_5 : decode cX9_startAnew 5 = .ok (.aload_n 0, 1) := by decide +kernel
theorem dX9_startAnew_6 : decode cX9_startAnew 6 = .ok (.iconst 1, 1) := by decide +kernel
theorem dX9_startAnew_7 : decode cX9_startAnew 7 = .ok (.iload_n 1, 1) := by decide +kernel
theorem dX9_startAnew_8 : decode cX9_startAnew 8 = .ok (.ishl, 1) := by decide +kernel
theorem dX9_startAnew_9 : decode cX9_startAnew 9 = .ok (.iconst 1, 1) := by decide +kernel
theorem dX9_startAnew_10 : decode cX9_startAnew 10 = .ok (.isub, 1) := by decide +kernel
theorem dX9_startAnew_11 : decode cX9_startAnew 11 = .ok (.putfield 135, 3) := by decide +kernel
theorem dX9_startAnew_14 : decode cX9_startAnew 14 = .ok (.aload_n 0, 1) := by decide +kernel
theorem dX9_startAnew_15 : decode cX9_startAnew 15 = .ok (.iconst 0, 1) := by decide +kernel
theorem dX9_startAnew_16 : decode cX9_startAnew 16 = .ok (.putfield 118, 3) := by decide +kernel
theorem dX9_startAnew_19 : decode cX9_startAnew 19 = .ok (.iconst 0, 1) := by decide +kernel
theorem dX9_startAnew_20 : decode cX9_startAnew 20 = .ok (.istore_n 2, 1) := by decide +kernel
theorem dX9_startAnew_21 : decode cX9_startAnew 21 = .ok (.iload_n 2, 1) := by decide +kernel
theorem dX9_startAnew_22 : decode cX9_startAnew 22 = .ok (.aload_n 0, 1) := by decide +kernel
theorem dX9_startAnew_23 : decode cX9_startAnew 23 = .ok (.getfield 21, 3) := by decide +kernel
theorem dX9_startAnew_26 : decode cX9_startAnew 26 = .ok (.arraylength, 1) := by decide +kernel
theorem dX9_startAnew_27 : decode cX9_startAnew 27 = .ok (.if_icmp .ge 16, 3) := by decide +kernel
theorem dX9_startAnew_30 : decode cX9_startAnew 30 = .ok (.aload_n 0, 1) := by decide +kernel
theorem dX9_startAnew_31 : decode cX9_startAnew 31 = .ok (.getfield 21, 3) := by decide +kernel
theorem dX9_startAnew_34 : decode cX9_startAnew 34 = .ok (.iload_n 2, 1) := by decide +kernel
theorem dX9_startAnew_35 : decode cX9_startAnew 35 = .ok (.iconst 1, 1) := by decide +kernel
theorem dX9_startAnew_36 : decode cX9_startAnew 36 = .ok (.iastore, 1) := by decide +kernel
theorem dX9_startAnew_37 : decode cX9_startAnew 37 = .ok (.iinc 2 1, 3) := by decide +kernel
theorem dX9_startAnew_40 : decode cX9_startAnew 40 = .ok (.goto (-19), 3) := by decide +kernel
theorem dX9_startAnew_43 : decode cX9_startAnew 43 = .ok (.aload_n 0, 1) := by decide +kernel
theorem dX9_startAnew_44 : decode cX9_startAnew 44 = .ok (.getfield 38, 3) := by decide +kernel
theorem dX9_startAnew_47 : decode cX9_startAnew 47 = .ok (.invokevirtual 236, 3) := by decide +kernel
theorem dX9_startAnew_50 : decode cX9_startAnew 50 = .ok (.return_, 1) := by decide +kernel
theorem dX9_isThing_0 : decode cX9_isThing 0 = .ok (.iload_n 1, 1) := by decide +kernel
theorem dX9_isThing_1 : decode cX9_isThing 1 = .ok (.ifCond .lt 15, 3) := by decide +kernel
theorem dX9_isThing_4 : decode cX9_isThing 4 = .ok (.iload_n 1, 1) := by decide +kernel
theorem dX9_isThing_5 : decode cX9_isThing 5 = .ok (.aload_n 0, 1) := by decide +kernel
theorem dX9_isThing_6 : decode cX9_isThing 6 = .ok (.getfield 187, 3) := by decide +kernel
theorem dX9_isThing_9 : decode cX9_isThing 9 = .ok (.if_icmp .ge 7, 3) := by decide +kernel
theorem dX9_isThing_12 : decode cX9_isThing 12 = .ok (.iconst 1, 1) := by decide +kernel
theorem dX9_isThing_13 : decode cX9_isThing 13 = .ok (.goto 4, 3) := by decide +kernel
theorem dX9_isThing_16 : decode cX9_isThing 16 = .ok (.iconst 0, 1) := by decide +kernel
theorem dX9_isThing_17 : decode cX9_isThing 17 = .ok (.ireturn, 1) := by decide +kernel
theorem dX9_isSet_0 : decode cX9_isSet 0 = .ok (.iload_n 1, 1) := by decide +kernel
theorem dX9_isSet_1 : decode cX9_isSet 1 = .ok (.ifCond .lt 15, 3) := by decide +kernel
theorem dX9_isSet_4 : decode cX9_isSet 4 = .ok (.iload_n 1, 1) := by decide +kernel
theorem dX9_isSet_5 : decode cX9_isSet 5 = .ok (.aload_n 0, 1) := by decide +kernel
theorem dX9_isSet_6 : decode cX9_isSet 6 = .ok (.getfield 135, 3) := by decide +kernel
theorem dX9_isSet_9 : decode cX9_isSet 9 = .ok (.if_icmp .gt 7, 3) := by decide +kernel
theorem dX9_isSet_12 : decode cX9_isSet 12 = .ok (.iconst 1, 1) := by decide +kernel
theorem dX9_isSet_13 : decode cX9_isSet 13 = .ok (.goto 4, 3) := by decide +kernel
theorem dX9_isSet_16 : decode cX9_isSet 16 = .ok (.iconst 0, 1) := by decide +kernel
theorem dX9_isSet_17 : decode cX9_isSet 17 = .ok (.ireturn, 1) := by decide +kernel
theorem dX9_slotAt_0 : decode cX9_slotAt 0 = .ok (.iload_n 1, 1) := by decide +kernel
theorem dX9_slotAt_1 : decode cX9_slotAt 1 = .ok (.ifCond .lt 21, 3) := by decide +kernel
theorem dX9_slotAt_4 : decode cX9_slotAt 4 = .ok (.iload_n 1, 1) := by decide +kernel
theorem dX9_slotAt_5 : decode cX9_slotAt 5 = .ok (.aload_n 0, 1) := by decide +kernel
theorem dX9_slotAt_6 : decode cX9_slotAt 6 = .ok (.getfield 11, 3) := by decide +kernel
theorem dX9_slotAt_9 : decode cX9_slotAt 9 = .ok (.arraylength, 1) := by decide +kernel
theorem dX9_slotAt_10 : decode cX9_slotAt 10 = .ok (.if_icmp .ge 12, 3) := by decide +kernel
theorem dX9_slotAt_13 : decode cX9_slotAt 13 = .ok (.aload_n 0, 1) := by decide +kernel
theorem dX9_slotAt_14 : decode cX9_slotAt 14 = .ok (.getfield 11, 3) := by decide +kernel
theorem dX9_slotAt_17 : decode cX9_slotAt 17 = .ok (.iload_n 1, 1) := by decide +kernel
theorem dX9_slotAt_18 : decode cX9_slotAt 18 = .ok (.aaload, 1) := by decide +kernel
theorem dX9_slotAt_19 : decode cX9_slotAt 19 = .ok (.goto 4, 3) := by decide +kernel
theorem dX9_slotAt_22 : decode cX9_slotAt 22 = .ok (.aconst_null, 1) := by decide +kernel
theorem dX9_slotAt_23 : decode cX9_slotAt 23 = .ok (.areturn, 1) := by decide +kernel
theorem dX9_ruleAt_0 : decode cX9_ruleAt 0 = .ok (.iload_n 1, 1) := by decide +kernel
theorem dX9_ruleAt_1 : decode cX9_ruleAt 1 = .ok (.ifCond .lt 29, 3) := by decide +kernel
theorem dX9_ruleAt_4 : decode cX9_ruleAt 4 = .ok (.iload_n 1, 1) := by decide +kernel
theorem dX9_ruleAt_5 : decode cX9_ruleAt 5 = .ok (.aload_n 0, 1) := by decide +kernel
theorem dX9_ruleAt_6 : decode cX9_ruleAt 6 = .ok (.getfield 118, 3) := by decide +kernel
theorem dX9_ruleAt_9 : decode cX9_ruleAt 9 = .ok (.if_icmp .ge 21, 3) := by decide +kernel
theorem dX9_ruleAt_12 : decode cX9_ruleAt 12 = .ok (.iload_n 1, 1) := by decide +kernel
theorem dX9_ruleAt_13 : decode cX9_ruleAt 13 = .ok (.aload_n 0, 1) := by decide +kernel
theorem dX9_ruleAt_14 : decode cX9_ruleAt 14 = .ok (.getfield 17, 3) := by decide +kernel
theorem dX9_ruleAt_17 : decode cX9_ruleAt 17 = .ok (.arraylength, 1) := by decide +kernel
theorem dX9_ruleAt_18 : decode cX9_ruleAt 18 = .ok (.if_icmp .ge 12, 3) := by decide +kernel
theorem dX9_ruleAt_21 : decode cX9_ruleAt 21 = .ok (.aload_n 0, 1) := by decide +kernel
theorem dX9_ruleAt_22 : decode cX9_ruleAt 22 = .ok (.getfield 17, 3) := by decide +kernel
theorem dX9_ruleAt_25 : decode cX9_ruleAt 25 = .ok (.iload_n 1, 1) := by decide +kernel
theorem dX9_ruleAt_26 : decode cX9_ruleAt 26 = .ok (.aaload, 1) := by decide +kernel
theorem dX9_ruleAt_27 : decode cX9_ruleAt 27 = .ok (.goto 4, 3) := by decide +kernel
theorem dX9_ruleAt_30 : decode cX9_ruleAt 30 = .ok (.aconst_null, 1) := by decide +kernel
theorem dX9_ruleAt_31 : decode cX9_ruleAt 31 = .ok (.areturn, 1) := by decide +kernel
theorem dX9_slotsWithRow_0 : decode cX9_slotsWithRow 0 = .ok (.iconst 0, 1) := by decide +kernel
theorem dX9_slotsWithRow_1 : decode cX9_slotsWithRow 1 = .ok (.istore_n 1, 1) := by decide +kernel
theorem dX9_slotsWithRow_2 : decode cX9_slotsWithRow 2 = .ok (.iconst 0, 1) := by decide +kernel
theorem dX9_slotsWithRow_3 : decode cX9_slotsWithRow 3 = .ok (.istore_n 2, 1) := by decide +kernel
theorem dX9_slotsWithRow_4 : decode cX9_slotsWithRow 4 = .ok (.iload_n 2, 1) := by decide +kernel
theorem dX9_slotsWithRow_5 : decode cX9_slotsWithRow 5 = .ok (.aload_n 0, 1) := by decide +kernel
theorem dX9_slotsWithRow_6 : decode cX9_slotsWithRow 6 = .ok (.getfield 11, 3) := by decide +kernel
theorem dX9_slotsWithRow_9 : decode cX9_slotsWithRow 9 = .ok (.arraylength, 1) := by decide +kernel
theorem dX9_slotsWithRow_10 : decode cX9_slotsWithRow 10 = .ok (.if_icmp .ge 29, 3) := by decide +kernel
theorem dX9_slotsWithRow_13 : decode cX9_slotsWithRow 13 = .ok (.aload_n 0, 1) := by decide +kernel
theorem dX9_slotsWithRow_14 : decode cX9_slotsWithRow 14 = .ok (.iload_n 2, 1) := by decide +kernel
theorem dX9_slotsWithRow_15 : decode cX9_slotsWithRow 15 = .ok (.invokevirtual 73, 3) := by decide +kernel
theorem dX9_slotsWithRow_18 : decode cX9_slotsWithRow 18 = .ok (.astore_n 3, 1) := by decide +kernel
theorem dX9_slotsWithRow_19 : decode cX9_slotsWithRow 19 = .ok (.aload_n 3, 1) := by decide +kernel
theorem dX9_slotsWithRow_20 : decode cX9_slotsWithRow 20 = .ok (.ifnull 13, 3) := by decide +kernel
theorem dX9_slotsWithRow_23 : decode cX9_slotsWithRow 23 = .ok (.aload_n 3, 1) := by decide +kernel
theorem dX9_slotsWithRow_24 : decode cX9_slotsWithRow 24 = .ok (.invokevirtual 81, 3) := by decide +kernel
theorem dX9_slotsWithRow_27 : decode cX9_slotsWithRow 27 = .ok (.ifCond .eq 6, 3) := by decide +kernel
theorem dX9_slotsWithRow_30 : decode cX9_slotsWithRow 30 = .ok (.iinc 1 1, 3) := by decide +kernel
theorem dX9_slotsWithRow_33 : decode cX9_slotsWithRow 33 = .ok (.iinc 2 1, 3) := by decide +kernel
theorem dX9_slotsWithRow_36 : decode cX9_slotsWithRow 36 = .ok (.goto (-32), 3) := by decide +kernel
theorem dX9_slotsWithRow_39 : decode cX9_slotsWithRow 39 = .ok (.iload_n 1, 1) := by decide +kernel
theorem dX9_slotsWithRow_40 : decode cX9_slotsWithRow 40 = .ok (.ireturn, 1) := by decide +kernel
theorem dX9_numberRefusal_0 : decode cX9_numberRefusal 0 = .ok (.aload_n 0, 1) := by decide +kernel
theorem dX9_numberRefusal_1 : decode cX9_numberRefusal 1 = .ok (.iload_n 1, 1) := by decide +kernel
theorem dX9_numberRefusal_2 : decode cX9_numberRefusal 2 = .ok (.invokevirtual 73, 3) := by decide +kernel
theorem dX9_numberRefusal_5 : decode cX9_numberRefusal 5 = .ok (.astore_n 3, 1) := by decide +kernel
theorem dX9_numberRefusal_6 : decode cX9_numberRefusal 6 = .ok (.aload_n 3, 1) := by decide +kernel
theorem dX9_numberRefusal_7 : decode cX9_numberRefusal 7 = .ok (.ifnonnull 6, 3) := by decide +kernel
theorem dX9_numberRefusal_10 : decode cX9_numberRefusal 10 = .ok (.bipush (-2), 2) := by decide +kernel
theorem dX9_numberRefusal_12 : decode cX9_numberRefusal 12 = .ok (.ireturn, 1) := by decide +kernel
theorem dX9_numberRefusal_13 : decode cX9_numberRefusal 13 = .ok (.aload_n 3, 1) := by decide +kernel
theorem dX9_numberRefusal_14 : decode cX9_numberRefusal 14 = .ok (.invokevirtual 81, 3) := by decide +kernel
theorem dX9_numberRefusal_17 : decode cX9_numberRefusal 17 = .ok (.ifCond .ne 6, 3) := by decide +kernel
theorem dX9_numberRefusal_20 : decode cX9_numberRefusal 20 = .ok (.bipush (-5), 2) := by decide +kernel
theorem dX9_numberRefusal_22 : decode cX9_numberRefusal 22 = .ok (.ireturn, 1) := by decide +kernel
theorem dX9_numberRefusal_23 : decode cX9_numberRefusal 23 = .ok (.aload_n 3, 1) := by decide +kernel
theorem dX9_numberRefusal_24 : decode cX9_numberRefusal 24 = .ok (.iload_n 2, 1) := by decide +kernel
theorem dX9_numberRefusal_25 : decode cX9_numberRefusal 25 = .ok (.iconst 1, 1) := by decide +kernel
theorem dX9_numberRefusal_26 : decode cX9_numberRefusal 26 = .ok (.invokevirtual 104, 3) := by decide +kernel
theorem dX9_numberRefusal_29 : decode cX9_numberRefusal 29 = .ok (.ifCond .eq 7, 3) := by decide +kernel
theorem dX9_numberRefusal_32 : decode cX9_numberRefusal 32 = .ok (.iconst 0, 1) := by decide +kernel
theorem dX9_numberRefusal_33 : decode cX9_numberRefusal 33 = .ok (.goto 5, 3) := by decide +kernel
theorem dX9_numberRefusal_36 : decode cX9_numberRefusal 36 = .ok (.bipush (-6), 2) := by decide +kernel
theorem dX9_numberRefusal_38 : decode cX9_numberRefusal 38 = .ok (.ireturn, 1) := by decide +kernel
theorem dX9_weightOf_0 : decode cX9_weightOf 0 = .ok (.iconst 0, 1) := by decide +kernel
theorem dX9_weightOf_1 : decode cX9_weightOf 1 = .ok (.istore_n 2, 1) := by decide +kernel
theorem dX9_weightOf_2 : decode cX9_weightOf 2 = .ok (.iconst 0, 1) := by decide +kernel
theorem dX9_weightOf_3 : decode cX9_weightOf 3 = .ok (.istore_n 3, 1) := by decide +kernel
theorem dX9_weightOf_4 : decode cX9_weightOf 4 = .ok (.iload_n 3, 1) := by decide +kernel
theorem dX9_weightOf_5 : decode cX9_weightOf 5 = .ok (.aload_n 0, 1) := by decide +kernel
theorem dX9_weightOf_6 : decode cX9_weightOf 6 = .ok (.getfield 187, 3) := by decide +kernel
theorem dX9_weightOf_9 : decode cX9_weightOf 9 = .ok (.if_icmp .ge 26, 3) := by decide +kernel
theorem dX9_weightOf_12 : decode cX9_weightOf 12 = .ok (.iload_n 1, 1) := by decide +kernel
theorem dX9_weightOf_13 : decode cX9_weightOf 13 = .ok (.iload_n 3, 1) := by decide +kernel
theorem dX9_weightOf_14 : decode cX9_weightOf 14 = .ok (.ishr, 1) := by decide +kernel
theorem dX9_weightOf_15 : decode cX9_weightOf 15 = .ok (.iconst 1, 1) := by decide +kernel
theorem dX9_weightOf_16 : decode cX9_weightOf 16 = .ok (.iand, 1) := by decide +kernel
theorem dX9_weightOf_17 : decode cX9_weightOf 17 = .ok (.ifCond .eq 12, 3) := by decide +kernel
theorem dX9_weightOf_20 : decode cX9_weightOf 20 = .ok (.iload_n 2, 1) := by decide +kernel
theorem dX9_weightOf_21 : decode cX9_weightOf 21 = .ok (.aload_n 0, 1) := by decide +kernel
theorem dX9_weightOf_22 : decode cX9_weightOf 22 = .ok (.getfield 21, 3) := by decide +kernel
theorem dX9_weightOf_25 : decode cX9_weightOf 25 = .ok (.iload_n 3, 1) := by decide +kernel
theorem dX9_weightOf_26 : decode cX9_weightOf 26 = .ok (.iaload, 1) := by decide +kernel
theorem dX9_weightOf_27 : decode cX9_weightOf 27 = .ok (.iadd, 1) := by decide +kernel
theorem dX9_weightOf_28 : decode cX9_weightOf 28 = .ok (.istore_n 2, 1) := by decide +kernel
theorem dX9_weightOf_29 : decode cX9_weightOf 29 = .ok (.iinc 3 1, 3) := by decide +kernel
theorem dX9_weightOf_32 : decode cX9_weightOf 32 = .ok (.goto (-28), 3) := by decide +kernel
theorem dX9_weightOf_35 : decode cX9_weightOf 35 = .ok (.iload_n 2, 1) := by decide +kernel
theorem dX9_weightOf_36 : decode cX9_weightOf 36 = .ok (.ireturn, 1) := by decide +kernel
theorem dX9_checkFromNumbers_0 : decode cX9_checkFromNumbers 0 = .ok (.iload_n 1, 1) := by decide +kernel
theorem dX9_checkFromNumbers_1 : decode cX9_checkFromNumbers 1 = .ok (.tableswitch 159 0 5 #[39, 59, 79, 99, 119, 139], 39) := by decide +kernel
theorem dX9_checkFromNumbers_40 : decode cX9_checkFromNumbers 40 = .ok (.aload_n 0, 1) := by decide +kernel
theorem dX9_checkFromNumbers_41 : decode cX9_checkFromNumbers 41 = .ok (.getfield 38, 3) := by decide +kernel
theorem dX9_checkFromNumbers_44 : decode cX9_checkFromNumbers 44 = .ok (.aload_n 0, 1) := by decide +kernel
theorem dX9_checkFromNumbers_45 : decode cX9_checkFromNumbers 45 = .ok (.getfield 31, 3) := by decide +kernel
theorem dX9_checkFromNumbers_48 : decode cX9_checkFromNumbers 48 = .ok (.aload_n 0, 1) := by decide +kernel
theorem dX9_checkFromNumbers_49 : decode cX9_checkFromNumbers 49 = .ok (.getfield 135, 3) := by decide +kernel
theorem dX9_checkFromNumbers_52 : decode cX9_checkFromNumbers 52 = .ok (.invokevirtual 239, 3) := by decide +kernel
theorem dX9_checkFromNumbers_55 : decode cX9_checkFromNumbers 55 = .ok (.aload_n 0, 1) := by decide +kernel
theorem dX9_checkFromNumbers_56 : decode cX9_checkFromNumbers 56 = .ok (.getfield 38, 3) := by decide +kernel
theorem dX9_checkFromNumbers_59 : decode cX9_checkFromNumbers 59 = .ok (.areturn, 1) := by decide +kernel
theorem dX9_checkFromNumbers_60 : decode cX9_checkFromNumbers 60 = .ok (.aload_n 0, 1) := by decide +kernel
theorem dX9_checkFromNumbers_61 : decode cX9_checkFromNumbers 61 = .ok (.getfield 45, 3) := by decide +kernel
theorem dX9_checkFromNumbers_64 : decode cX9_checkFromNumbers 64 = .ok (.aload_n 0, 1) := by decide +kernel
theorem dX9_checkFromNumbers_65 : decode cX9_checkFromNumbers 65 = .ok (.getfield 31, 3) := by decide +kernel
theorem dX9_checkFromNumbers_68 : decode cX9_checkFromNumbers 68 = .ok (.aload_n 0, 1) := by decide +kernel
theorem dX9_checkFromNumbers_69 : decode cX9_checkFromNumbers 69 = .ok (.getfield 135, 3) := by decide +kernel
theorem dX9_checkFromNumbers_72 : decode cX9_checkFromNumbers 72 = .ok (.invokevirtual 243, 3) := by decide +kernel
theorem dX9_checkFromNumbers_75 : decode cX9_checkFromNumbers 75 = .ok (.aload_n 0, 1) := by decide +kernel
theorem dX9_checkFromNumbers_76 : decode cX9_checkFromNumbers 76 = .ok (.getfield 45, 3) := by decide +kernel
theorem dX9_checkFromNumbers_79 : decode cX9_checkFromNumbers 79 = .ok (.areturn, 1) := by decide +kernel
theorem dX9_checkFromNumbers_80 : decode cX9_checkFromNumbers 80 = .ok (.aload_n 0, 1) := by decide +kernel
theorem dX9_checkFromNumbers_81 : decode cX9_checkFromNumbers 81 = .ok (.getfield 45, 3) := by decide +kernel
theorem dX9_checkFromNumbers_84 : decode cX9_checkFromNumbers 84 = .ok (.aload_n 0, 1) := by decide +kernel
theorem dX9_checkFromNumbers_85 : decode cX9_checkFromNumbers 85 = .ok (.getfield 31, 3) := by decide +kernel
theorem dX9_checkFromNumbers_88 : decode cX9_checkFromNumbers 88 = .ok (.aload_n 0, 1) := by decide +kernel
theorem dX9_checkFromNumbers_89 : decode cX9_checkFromNumbers 89 = .ok (.getfield 187, 3) := by decide +kernel
theorem dX9_checkFromNumbers_92 : decode cX9_checkFromNumbers 92 = .ok (.invokevirtual 246, 3) := by decide +kernel
theorem dX9_checkFromNumbers_95 : decode cX9_checkFromNumbers 95 = .ok (.aload_n 0, 1) := by decide +kernel
theorem dX9_checkFromNumbers_96 : decode cX9_checkFromNumbers 96 = .ok (.getfield 45, 3) := by decide +kernel
theorem dX9_checkFromNumbers_99 : decode cX9_checkFromNumbers 99 = .ok (.areturn, 1) := by decide +kernel
theorem dX9_checkFromNumbers_100 : decode cX9_checkFromNumbers 100 = .ok (.aload_n 0, 1) := by decide +kernel
theorem dX9_checkFromNumbers_101 : decode cX9_checkFromNumbers 101 = .ok (.getfield 45, 3) := by decide +kernel
theorem dX9_checkFromNumbers_104 : decode cX9_checkFromNumbers 104 = .ok (.aload_n 0, 1) := by decide +kernel
theorem dX9_checkFromNumbers_105 : decode cX9_checkFromNumbers 105 = .ok (.getfield 31, 3) := by decide +kernel
theorem dX9_checkFromNumbers_108 : decode cX9_checkFromNumbers 108 = .ok (.aload_n 0, 1) := by decide +kernel
theorem dX9_checkFromNumbers_109 : decode cX9_checkFromNumbers 109 = .ok (.getfield 135, 3) := by decide +kernel
theorem dX9_checkFromNumbers_112 : decode cX9_checkFromNumbers 112 = .ok (.invokevirtual 249, 3) := by decide +kernel
theorem dX9_checkFromNumbers_115 : decode cX9_checkFromNumbers 115 = .ok (.aload_n 0, 1) := by decide +kernel
theorem dX9_checkFromNumbers_116 : decode cX9_checkFromNumbers 116 = .ok (.getfield 45, 3) := by decide +kernel
theorem dX9_checkFromNumbers_119 : decode cX9_checkFromNumbers 119 = .ok (.areturn, 1) := by decide +kernel
theorem dX9_checkFromNumbers_120 : decode cX9_checkFromNumbers 120 = .ok (.aload_n 0, 1) := by decide +kernel
theorem dX9_checkFromNumbers_121 : decode cX9_checkFromNumbers 121 = .ok (.getfield 52, 3) := by decide +kernel
theorem dX9_checkFromNumbers_124 : decode cX9_checkFromNumbers 124 = .ok (.aload_n 0, 1) := by decide +kernel
theorem dX9_checkFromNumbers_125 : decode cX9_checkFromNumbers 125 = .ok (.getfield 31, 3) := by decide +kernel
theorem dX9_checkFromNumbers_128 : decode cX9_checkFromNumbers 128 = .ok (.aload_n 0, 1) := by decide +kernel
theorem dX9_checkFromNumbers_129 : decode cX9_checkFromNumbers 129 = .ok (.getfield 187, 3) := by decide +kernel
theorem dX9_checkFromNumbers_132 : decode cX9_checkFromNumbers 132 = .ok (.invokevirtual 252, 3) := by decide +kernel
theorem dX9_checkFromNumbers_135 : decode cX9_checkFromNumbers 135 = .ok (.aload_n 0, 1) := by decide +kernel
theorem dX9_checkFromNumbers_136 : decode cX9_checkFromNumbers 136 = .ok (.getfield 52, 3) := by decide +kernel
theorem dX9_checkFromNumbers_139 : decode cX9_checkFromNumbers 139 = .ok (.areturn, 1) := by decide +kernel
theorem dX9_checkFromNumbers_140 : decode cX9_checkFromNumbers 140 = .ok (.aload_n 0, 1) := by decide +kernel
theorem dX9_checkFromNumbers_141 : decode cX9_checkFromNumbers 141 = .ok (.getfield 59, 3) := by decide +kernel
theorem dX9_checkFromNumbers_144 : decode cX9_checkFromNumbers 144 = .ok (.aload_n 0, 1) := by decide +kernel
theorem dX9_checkFromNumbers_145 : decode cX9_checkFromNumbers 145 = .ok (.getfield 31, 3) := by decide +kernel
theorem dX9_checkFromNumbers_148 : decode cX9_checkFromNumbers 148 = .ok (.aload_n 0, 1) := by decide +kernel
theorem dX9_checkFromNumbers_149 : decode cX9_checkFromNumbers 149 = .ok (.getfield 187, 3) := by decide +kernel
theorem dX9_checkFromNumbers_152 : decode cX9_checkFromNumbers 152 = .ok (.invokevirtual 255, 3) := by decide +kernel
theorem dX9_checkFromNumbers_155 : decode cX9_checkFromNumbers 155 = .ok (.aload_n 0, 1) := by decide +kernel
theorem dX9_checkFromNumbers_156 : decode cX9_checkFromNumbers 156 = .ok (.getfield 59, 3) := by decide +kernel
theorem dX9_checkFromNumbers_159 : decode cX9_checkFromNumbers 159 = .ok (.areturn, 1) := by decide +kernel
theorem dX9_checkFromNumbers_160 : decode cX9_checkFromNumbers 160 = .ok (.aload_n 0, 1) := by decide +kernel
theorem dX9_checkFromNumbers_161 : decode cX9_checkFromNumbers 161 = .ok (.getfield 52, 3) := by decide +kernel
theorem dX9_checkFromNumbers_164 : decode cX9_checkFromNumbers 164 = .ok (.aload_n 0, 1) := by decide +kernel
theorem dX9_checkFromNumbers_165 : decode cX9_checkFromNumbers 165 = .ok (.getfield 31, 3) := by decide +kernel
theorem dX9_checkFromNumbers_168 : decode cX9_checkFromNumbers 168 = .ok (.aload_n 0, 1) := by decide +kernel
theorem dX9_checkFromNumbers_169 : decode cX9_checkFromNumbers 169 = .ok (.getfield 187, 3) := by decide +kernel
theorem dX9_checkFromNumbers_172 : decode cX9_checkFromNumbers 172 = .ok (.invokevirtual 258, 3) := by decide +kernel
theorem dX9_checkFromNumbers_175 : decode cX9_checkFromNumbers 175 = .ok (.aload_n 0, 1) := by decide +kernel
theorem dX9_checkFromNumbers_176 : decode cX9_checkFromNumbers 176 = .ok (.getfield 52, 3) := by decide +kernel
theorem dX9_checkFromNumbers_179 : decode cX9_checkFromNumbers 179 = .ok (.areturn, 1) := by decide +kernel
theorem dX9_addDerived_0 : decode cX9_addDerived 0 = .ok (.aload_n 0, 1) := by decide +kernel
theorem dX9_addDerived_1 : decode cX9_addDerived 1 = .ok (.iload_n 2, 1) := by decide +kernel
theorem dX9_addDerived_2 : decode cX9_addDerived 2 = .ok (.invokevirtual 158, 3) := by decide +kernel
theorem dX9_addDerived_5 : decode cX9_addDerived 5 = .ok (.astore 5, 2) := by decide +kernel
theorem dX9_addDerived_7 : decode cX9_addDerived 7 = .ok (.aload_n 0, 1) := by decide +kernel
theorem dX9_addDerived_8 : decode cX9_addDerived 8 = .ok (.iload_n 3, 1) := by decide +kernel
theorem dX9_addDerived_9 : decode cX9_addDerived 9 = .ok (.invokevirtual 158, 3) := by decide +kernel
theorem dX9_addDerived_12 : decode cX9_addDerived 12 = .ok (.astore 6, 2) := by decide +kernel
theorem dX9_addDerived_14 : decode cX9_addDerived 14 = .ok (.aload 5, 2) := by decide +kernel
theorem dX9_addDerived_16 : decode cX9_addDerived 16 = .ok (.ifnull 17, 3) := by decide +kernel
theorem dX9_addDerived_19 : decode cX9_addDerived 19 = .ok (.aload 6, 2) := by decide +kernel
theorem dX9_addDerived_21 : decode cX9_addDerived 21 = .ok (.ifnull 12, 3) := by decide +kernel
theorem dX9_addDerived_24 : decode cX9_addDerived 24 = .ok (.aload_n 0, 1) := by decide +kernel
theorem dX9_addDerived_25 : decode cX9_addDerived 25 = .ok (.iload 4, 2) := by decide +kernel
theorem dX9_addDerived_27 : decode cX9_addDerived 27 = .ok (.invokevirtual 181, 3) := by decide +kernel
theorem dX9_addDerived_30 : decode cX9_addDerived 30 = .ok (.ifCond .ne 6, 3) := by decide +kernel
theorem dX9_addDerived_33 : decode cX9_addDerived 33 = .ok (.bipush (-2), 2) := by decide +kernel
theorem dX9_addDerived_35 : decode cX9_addDerived 35 = .ok (.ireturn, 1) := by decide +kernel
theorem dX9_addDerived_36 : decode cX9_addDerived 36 = .ok (.aload_n 0, 1) := by decide +kernel
theorem dX9_addDerived_37 : decode cX9_addDerived 37 = .ok (.getfield 118, 3) := by decide +kernel
theorem dX9_addDerived_40 : decode cX9_addDerived 40 = .ok (.bipush 24, 2) := by decide +kernel
theorem dX9_addDerived_42 : decode cX9_addDerived 42 = .ok (.if_icmp .lt 6, 3) := by decide +kernel
theorem dX9_addDerived_45 : decode cX9_addDerived 45 = .ok (.bipush (-8), 2) := by decide +kernel
theorem dX9_addDerived_47 : decode cX9_addDerived 47 = .ok (.ireturn, 1) := by decide +kernel
theorem dX9_addDerived_48 : decode cX9_addDerived 48 = .ok (.aload 5, 2) := by decide +kernel
theorem dX9_addDerived_50 : decode cX9_addDerived 50 = .ok (.getfield 178, 3) := by decide +kernel
theorem dX9_addDerived_53 : decode cX9_addDerived 53 = .ok (.aload 6, 2) := by decide +kernel
theorem dX9_addDerived_55 : decode cX9_addDerived 55 = .ok (.getfield 178, 3) := by decide +kernel
theorem dX9_addDerived_58 : decode cX9_addDerived 58 = .ok (.invokestatic 210, 3) := by decide +kernel
theorem dX9_addDerived_61 : decode cX9_addDerived 61 = .ok (.istore 7, 2) := by decide +kernel
theorem dX9_addDerived_63 : decode cX9_addDerived 63 = .ok (.iload 7, 2) := by decide +kernel
theorem dX9_addDerived_65 : decode cX9_addDerived 65 = .ok (.iconst 3, 1) := by decide +kernel
theorem dX9_addDerived_66 : decode cX9_addDerived 66 = .ok (.if_icmp .lt 6, 3) := by decide +kernel
theorem dX9_addDerived_69 : decode cX9_addDerived 69 = .ok (.bipush (-3), 2) := by decide +kernel
theorem dX9_addDerived_71 : decode cX9_addDerived 71 = .ok (.ireturn, 1) := by decide +kernel
theorem dX9_addDerived_72 : decode cX9_addDerived 72 = .ok (.new 261, 3) := by decide +kernel
theorem dX9_addDerived_75 : decode cX9_addDerived 75 = .ok (.dup, 1) := by decide +kernel
theorem dX9_addDerived_76 : decode cX9_addDerived 76 = .ok (.iload_n 1, 1) := by decide +kernel
theorem dX9_addDerived_77 : decode cX9_addDerived 77 = .ok (.aload 5, 2) := by decide +kernel
theorem dX9_addDerived_79 : decode cX9_addDerived 79 = .ok (.aload 6, 2) := by decide +kernel
theorem dX9_addDerived_81 : decode cX9_addDerived 81 = .ok (.iload 4, 2) := by decide +kernel
theorem dX9_addDerived_83 : decode cX9_addDerived 83 = .ok (.aload_n 0, 1) := by decide +kernel
theorem dX9_addDerived_84 : decode cX9_addDerived 84 = .ok (.getfield 135, 3) := by decide +kernel
theorem dX9_addDerived_87 : decode cX9_addDerived 87 = .ok (.invokespecial 263, 3) := by decide +kernel
theorem dX9_addDerived_90 : decode cX9_addDerived 90 = .ok (.astore 8, 2) := by decide +kernel
theorem dX9_addDerived_92 : decode cX9_addDerived 92 = .ok (.aload_n 0, 1) := by decide +kernel
theorem dX9_addDerived_93 : decode cX9_addDerived 93 = .ok (.iload_n 1, 1) := by decide +kernel
theorem dX9_addDerived_94 : decode cX9_addDerived 94 = .ok (.iload_n 2, 1) := by decide +kernel
theorem dX9_addDerived_95 : decode cX9_addDerived 95 = .ok (.iload_n 1, 1) := by decide +kernel
theorem dX9_addDerived_96 : decode cX9_addDerived 96 = .ok (.bipush 10, 2) := by decide +kernel
theorem dX9_addDerived_98 : decode cX9_addDerived 98 = .ok (.if_icmp .ne 7, 3) := by decide +kernel
theorem dX9_addDerived_101 : decode cX9_addDerived 101 = .ok (.iload_n 3, 1) := by decide +kernel
theorem dX9_addDerived_102 : decode cX9_addDerived 102 = .ok (.goto 4, 3) := by decide +kernel
theorem dX9_addDerived_105 : decode cX9_addDerived 105 = .ok (.iconst (-1), 1) := by decide +kernel
theorem dX9_addDerived_106 : decode cX9_addDerived 106 = .ok (.iload 7, 2) := by decide +kernel
theorem dX9_addDerived_108 : decode cX9_addDerived 108 = .ok (.iconst 1, 1) := by decide +kernel
theorem dX9_addDerived_109 : decode cX9_addDerived 109 = .ok (.iadd, 1) := by decide +kernel
theorem dX9_addDerived_110 : decode cX9_addDerived 110 = .ok (.aload 8, 2) := by decide +kernel
theorem dX9_addDerived_112 : decode cX9_addDerived 112 = .ok (.invokevirtual 141, 3) := by decide +kernel
theorem dX9_addDerived_115 : decode cX9_addDerived 115 = .ok (.ireturn, 1) := by decide +kernel
theorem dX9_addRule_0 : decode cX9_addRule 0 = .ok (.aload_n 0, 1) := by decide +kernel
theorem dX9_addRule_1 : decode cX9_addRule 1 = .ok (.getfield 118, 3) := by decide +kernel
theorem dX9_addRule_4 : decode cX9_addRule 4 = .ok (.aload_n 0, 1) := by decide +kernel
theorem dX9_addRule_5 : decode cX9_addRule 5 = .ok (.getfield 17, 3) := by decide +kernel
theorem dX9_addRule_8 : decode cX9_addRule 8 = .ok (.arraylength, 1) := by decide +kernel
theorem dX9_addRule_9 : decode cX9_addRule 9 = .ok (.if_icmp .lt 6, 3) := by decide +kernel
theorem dX9_addRule_12 : decode cX9_addRule 12 = .ok (.bipush (-8), 2) := by decide +kernel
theorem dX9_addRule_14 : decode cX9_addRule 14 = .ok (.ireturn, 1) := by decide +kernel
theorem dX9_addRule_15 : decode cX9_addRule 15 = .ok (.aload_n 0, 1) := by decide +kernel
theorem dX9_addRule_16 : decode cX9_addRule 16 = .ok (.getfield 17, 3) := by decide +kernel
theorem dX9_addRule_19 : decode cX9_addRule 19 = .ok (.aload_n 0, 1) := by decide +kernel
theorem dX9_addRule_20 : decode cX9_addRule 20 = .ok (.getfield 118, 3) := by decide +kernel
theorem dX9_addRule_23 : decode cX9_addRule 23 = .ok (.aaload, 1) := by decide +kernel
theorem dX9_addRule_24 : decode cX9_addRule 24 = .ok (.ifnonnull 19, 3) := by decide +kernel
theorem dX9_addRule_27 : decode cX9_addRule 27 = .ok (.aload_n 0, 1) := by decide +kernel
theorem dX9_addRule_28 : decode cX9_addRule 28 = .ok (.getfield 17, 3) := by decide +kernel
theorem dX9_addRule_31 : decode cX9_addRule 31 = .ok (.aload_n 0, 1) := by decide +kernel
theorem dX9_addRule_32 : decode cX9_addRule 32 = .ok (.getfield 118, 3) := by decide +kernel
theorem dX9_addRule_35 : decode cX9_addRule 35 = .ok (.new 15, 3) := by decide +kernel
theorem dX9_addRule_38 : decode cX9_addRule 38 = .ok (.dup, 1) := by decide +kernel
theorem dX9_addRule_39 : decode cX9_addRule 39 = .ok (.invokespecial 266, 3) := by decide +kernel
theorem dX9_addRule_42 : decode cX9_addRule 42 = .ok (.aastore, 1) := by decide +kernel
theorem dX9_addRule_43 : decode cX9_addRule 43 = .ok (.aload_n 0, 1) := by decide +kernel
theorem dX9_addRule_44 : decode cX9_addRule 44 = .ok (.getfield 17, 3) := by decide +kernel
theorem dX9_addRule_47 : decode cX9_addRule 47 = .ok (.aload_n 0, 1) := by decide +kernel
theorem dX9_addRule_48 : decode cX9_addRule 48 = .ok (.getfield 118, 3) := by decide +kernel
theorem dX9_addRule_51 : decode cX9_addRule 51 = .ok (.aaload, 1) := by decide +kernel
theorem dX9_addRule_52 : decode cX9_addRule 52 = .ok (.astore 6, 2) := by decide +kernel
theorem dX9_addRule_54 : decode cX9_addRule 54 = .ok (.aload 6, 2) := by decide +kernel
theorem dX9_addRule_56 : decode cX9_addRule 56 = .ok (.iload_n 1, 1) := by decide +kernel
theorem dX9_addRule_57 : decode cX9_addRule 57 = .ok (.putfield 162, 3) := by decide +kernel
theorem dX9_addRule_60 : decode cX9_addRule 60 = .ok (.aload 6, 2) := by decide +kernel
theorem dX9_addRule_62 : decode cX9_addRule 62 = .ok (.iload_n 2, 1) := by decide +kernel
theorem dX9_addRule_63 : decode cX9_addRule 63 = .ok (.putfield 172, 3) := by decide +kernel
theorem dX9_addRule_66 : decode cX9_addRule 66 = .ok (.aload 6, 2) := by decide +kernel
theorem dX9_addRule_68 : decode cX9_addRule 68 = .ok (.iload_n 3, 1) := by decide +kernel
theorem dX9_addRule_69 : decode cX9_addRule 69 = .ok (.putfield 175, 3) := by decide +kernel
theorem dX9_addRule_72 : decode cX9_addRule 72 = .ok (.aload 6, 2) := by decide +kernel
theorem dX9_addRule_74 : decode cX9_addRule 74 = .ok (.iload 4, 2) := by decide +kernel
theorem dX9_addRule_76 : decode cX9_addRule 76 = .ok (.putfield 178, 3) := by decide +kernel
theorem dX9_addRule_79 : decode cX9_addRule 79 = .ok (.aload 6, 2) := by decide +kernel
theorem dX9_addRule_81 : decode cX9_addRule 81 = .ok (.aload_n 0, 1) := by decide +kernel
theorem dX9_addRule_82 : decode cX9_addRule 82 = .ok (.getfield 135, 3) := by decide +kernel
theorem dX9_addRule_85 : decode cX9_addRule 85 = .ok (.aload 5, 2) := by decide +kernel
theorem dX9_addRule_87 : decode cX9_addRule 87 = .ok (.invokevirtual 267, 3) := by decide +kernel
theorem dX9_addRule_90 : decode cX9_addRule 90 = .ok (.aload_n 0, 1) := by decide +kernel
theorem dX9_addRule_91 : decode cX9_addRule 91 = .ok (.dup, 1) := by decide +kernel
theorem dX9_addRule_92 : decode cX9_addRule 92 = .ok (.getfield 118, 3) := by decide +kernel
theorem dX9_addRule_95 : decode cX9_addRule 95 = .ok (.iconst 1, 1) := by decide +kernel
theorem dX9_addRule_96 : decode cX9_addRule 96 = .ok (.iadd, 1) := by decide +kernel
theorem dX9_addRule_97 : decode cX9_addRule 97 = .ok (.putfield 118, 3) := by decide +kernel
theorem dX9_addRule_100 : decode cX9_addRule 100 = .ok (.aload_n 0, 1) := by decide +kernel
theorem dX9_addRule_101 : decode cX9_addRule 101 = .ok (.getfield 118, 3) := by decide +kernel
theorem dX9_addRule_104 : decode cX9_addRule 104 = .ok (.iconst 1, 1) := by decide +kernel
theorem dX9_addRule_105 : decode cX9_addRule 105 = .ok (.isub, 1) := by decide +kernel
theorem dX9_addRule_106 : decode cX9_addRule 106 = .ok (.ireturn, 1) := by decide +kernel
theorem dX9_thingsThatMayGo_0 : decode cX9_thingsThatMayGo 0 = .ok (.iconst 0, 1) := by decide +kernel
theorem dX9_thingsThatMayGo_1 : decode cX9_thingsThatMayGo 1 = .ok (.istore 4, 2) := by decide +kernel
theorem dX9_thingsThatMayGo_3 : decode cX9_thingsThatMayGo 3 = .ok (.iconst 0, 1) := by decide +kernel
theorem dX9_thingsThatMayGo_4 : decode cX9_thingsThatMayGo 4 = .ok (.istore 5, 2) := by decide +kernel
theorem dX9_thingsThatMayGo_6 : decode cX9_thingsThatMayGo 6 = .ok (.iload 5, 2) := by decide +kernel
theorem dX9_thingsThatMayGo_8 : decode cX9_thingsThatMayGo 8 = .ok (.aload_n 0, 1) := by decide +kernel
theorem dX9_thingsThatMayGo_9 : decode cX9_thingsThatMayGo 9 = .ok (.getfield 187, 3) := by decide +kernel
theorem dX9_thingsThatMayGo_12 : decode cX9_thingsThatMayGo 12 = .ok (.if_icmp .ge 42, 3) := by decide +kernel
theorem dX9_thingsThatMayGo_15 : decode cX9_thingsThatMayGo 15 = .ok (.iconst 1, 1) := by decide +kernel
theorem dX9_thingsThatMayGo_16 : decode cX9_thingsThatMayGo 16 = .ok (.iload 5, 2) := by decide +kernel
theorem dX9_thingsThatMayGo_18 : decode cX9_thingsThatMayGo 18 = .ok (.ishl, 1) := by decide +kernel
theorem dX9_thingsThatMayGo_19 : decode cX9_thingsThatMayGo 19 = .ok (.istore 6, 2) := by decide +kernel
theorem dX9_thingsThatMayGo_21 : decode cX9_thingsThatMayGo 21 = .ok (.iload_n 2, 1) := by decide +kernel
theorem dX9_thingsThatMayGo_22 : decode cX9_thingsThatMayGo 22 = .ok (.iload 6, 2) := by decide +kernel
theorem dX9_thingsThatMayGo_24 : decode cX9_thingsThatMayGo 24 = .ok (.iand, 1) := by decide +kernel
theorem dX9_thingsThatMayGo_25 : decode cX9_thingsThatMayGo 25 = .ok (.ifCond .eq 23, 3) := by decide +kernel
theorem dX9_thingsThatMayGo_28 : decode cX9_thingsThatMayGo 28 = .ok (.aload_n 1, 1) := by decide +kernel
theorem dX9_thingsThatMayGo_29 : decode cX9_thingsThatMayGo 29 = .ok (.iload_n 3, 1) := by decide +kernel
theorem dX9_thingsThatMayGo_30 : decode cX9_thingsThatMayGo 30 = .ok (.iload 6, 2) := by decide +kernel
theorem dX9_thingsThatMayGo_32 : decode cX9_thingsThatMayGo 32 = .ok (.iconst (-1), 1) := by decide +kernel
theorem dX9_thingsThatMayGo_33 : decode cX9_thingsThatMayGo 33 = .ok (.ixor, 1) := by decide +kernel
theorem dX9_thingsThatMayGo_34 : decode cX9_thingsThatMayGo 34 = .ok (.iand, 1) := by decide +kernel
theorem dX9_thingsThatMayGo_35 : decode cX9_thingsThatMayGo 35 = .ok (.invokevirtual 184, 3) := by decide +kernel
theorem dX9_thingsThatMayGo_38 : decode cX9_thingsThatMayGo 38 = .ok (.ifCond .eq 10, 3) := by decide +kernel
theorem dX9_thingsThatMayGo_41 : decode cX9_thingsThatMayGo 41 = .ok (.iload 4, 2) := by decide +kernel
theorem dX9_thingsThatMayGo_43 : decode cX9_thingsThatMayGo 43 = .ok (.iload 6, 2) := by decide +kernel
theorem dX9_thingsThatMayGo_45 : decode cX9_thingsThatMayGo 45 = .ok (.ior, 1) := by decide +kernel
theorem dX9_thingsThatMayGo_46 : decode cX9_thingsThatMayGo 46 = .ok (.istore 4, 2) := by decide +kernel
theorem dX9_thingsThatMayGo_48 : decode cX9_thingsThatMayGo 48 = .ok (.iinc 5 1, 3) := by decide +kernel
theorem dX9_thingsThatMayGo_51 : decode cX9_thingsThatMayGo 51 = .ok (.goto (-45), 3) := by decide +kernel
theorem dX9_thingsThatMayGo_54 : decode cX9_thingsThatMayGo 54 = .ok (.iload 4, 2) := by decide +kernel
theorem dX9_thingsThatMayGo_56 : decode cX9_thingsThatMayGo 56 = .ok (.ireturn, 1) := by decide +kernel
theorem dX9_nextByWeight_0 : decode cX9_nextByWeight 0 = .ok (.iconst (-1), 1) := by decide +kernel
theorem dX9_nextByWeight_1 : decode cX9_nextByWeight 1 = .ok (.istore_n 3, 1) := by decide +kernel
theorem dX9_nextByWeight_2 : decode cX9_nextByWeight 2 = .ok (.iconst 0, 1) := by decide +kernel
theorem dX9_nextByWeight_3 : decode cX9_nextByWeight 3 = .ok (.istore 4, 2) := by decide +kernel
theorem dX9_nextByWeight_5 : decode cX9_nextByWeight 5 = .ok (.iload 4, 2) := by decide +kernel
theorem dX9_nextByWeight_7 : decode cX9_nextByWeight 7 = .ok (.aload_n 0, 1) := by decide +kernel
theorem dX9_nextByWeight_8 : decode cX9_nextByWeight 8 = .ok (.getfield 187, 3) := by decide +kernel
theorem dX9_nextByWeight_11 : decode cX9_nextByWeight 11 = .ok (.if_icmp .ge 36, 3) := by decide +kernel
theorem dX9_nextByWeight_14 : decode cX9_nextByWeight 14 = .ok (.iload_n 1, 1) := by decide +kernel
theorem dX9_nextByWeight_15 : decode cX9_nextByWeight 15 = .ok (.iload 4, 2) := by decide +kernel
theorem dX9_nextByWeight_17 : decode cX9_nextByWeight 17 = .ok (.ishr, 1) := by decide +kernel
theorem dX9_nextByWeight_18 : decode cX9_nextByWeight 18 = .ok (.iconst 1, 1) := by decide +kernel
theorem dX9_nextByWeight_19 : decode cX9_nextByWeight 19 = .ok (.iand, 1) := by decide +kernel
theorem dX9_nextByWeight_20 : decode cX9_nextByWeight 20 = .ok (.ifCond .ne 21, 3) := by decide +kernel
theorem dX9_nextByWeight_23 : decode cX9_nextByWeight 23 = .ok (.iload_n 3, 1) := by decide +kernel
theorem dX9_nextByWeight_24 : decode cX9_nextByWeight 24 = .ok (.ifCond .lt 14, 3) := by decide +kernel
theorem dX9_nextByWeight_27 : decode cX9_nextByWeight 27 = .ok (.aload_n 0, 1) := by decide +kernel
theorem dX9_nextByWeight_28 : decode cX9_nextByWeight 28 = .ok (.iload 4, 2) := by decide +kernel
theorem dX9_nextByWeight_30 : decode cX9_nextByWeight 30 = .ok (.iload_n 3, 1) := by decide +kernel
theorem dX9_nextByWeight_31 : decode cX9_nextByWeight 31 = .ok (.iload_n 2, 1) := by decide +kernel
theorem dX9_nextByWeight_32 : decode cX9_nextByWeight 32 = .ok (.invokevirtual 271, 3) := by decide +kernel
theorem dX9_nextByWeight_35 : decode cX9_nextByWeight 35 = .ok (.ifCond .eq 6, 3) := by decide +kernel
theorem dX9_nextByWeight_38 : decode cX9_nextByWeight 38 = .ok (.iload 4, 2) := by decide +kernel
theorem dX9_nextByWeight_40 : decode cX9_nextByWeight 40 = .ok (.istore_n 3, 1) := by decide +kernel
theorem dX9_nextByWeight_41 : decode cX9_nextByWeight 41 = .ok (.iinc 4 1, 3) := by decide +kernel
theorem dX9_nextByWeight_44 : decode cX9_nextByWeight 44 = .ok (.goto (-39), 3) := by decide +kernel
theorem dX9_nextByWeight_47 : decode cX9_nextByWeight 47 = .ok (.iload_n 3, 1) := by decide +kernel
theorem dX9_nextByWeight_48 : decode cX9_nextByWeight 48 = .ok (.iconst 0, 1) := by decide +kernel
theorem dX9_nextByWeight_49 : decode cX9_nextByWeight 49 = .ok (.invokestatic 210, 3) := by decide +kernel
theorem dX9_nextByWeight_52 : decode cX9_nextByWeight 52 = .ok (.ireturn, 1) := by decide +kernel
theorem dX9_goesAhead_0 : decode cX9_goesAhead 0 = .ok (.iload_n 3, 1) := by decide +kernel
theorem dX9_goesAhead_1 : decode cX9_goesAhead 1 = .ok (.ifCond .eq 26, 3) := by decide +kernel
theorem dX9_goesAhead_4 : decode cX9_goesAhead 4 = .ok (.aload_n 0, 1) := by decide +kernel
theorem dX9_goesAhead_5 : decode cX9_goesAhead 5 = .ok (.getfield 21, 3) := by decide +kernel
theorem dX9_goesAhead_8 : decode cX9_goesAhead 8 = .ok (.iload_n 1, 1) := by decide +kernel
theorem dX9_goesAhead_9 : decode cX9_goesAhead 9 = .ok (.iaload, 1) := by decide +kernel
theorem dX9_goesAhead_10 : decode cX9_goesAhead 10 = .ok (.aload_n 0, 1) := by decide +kernel
theorem dX9_goesAhead_11 : decode cX9_goesAhead 11 = .ok (.getfield 21, 3) := by decide +kernel
theorem dX9_goesAhead_14 : decode cX9_goesAhead 14 = .ok (.iload_n 2, 1) := by decide +kernel
theorem dX9_goesAhead_15 : decode cX9_goesAhead 15 = .ok (.iaload, 1) := by decide +kernel
theorem dX9_goesAhead_16 : decode cX9_goesAhead 16 = .ok (.if_icmp .ge 7, 3) := by decide +kernel
theorem dX9_goesAhead_19 : decode cX9_goesAhead 19 = .ok (.iconst 1, 1) := by decide +kernel
theorem dX9_goesAhead_20 : decode cX9_goesAhead 20 = .ok (.goto 27, 3) := by decide +kernel
theorem dX9_goesAhead_23 : decode cX9_goesAhead 23 = .ok (.iconst 0, 1) := by decide +kernel
theorem dX9_goesAhead_24 : decode cX9_goesAhead 24 = .ok (.goto 23, 3) := by decide +kernel
theorem dX9_goesAhead_27 : decode cX9_goesAhead 27 = .ok (.aload_n 0, 1) := by decide +kernel
theorem dX9_goesAhead_28 : decode cX9_goesAhead 28 = .ok (.getfield 21, 3) := by decide +kernel
theorem dX9_goesAhead_31 : decode cX9_goesAhead 31 = .ok (.iload_n 1, 1) := by decide +kernel
theorem dX9_goesAhead_32 : decode cX9_goesAhead 32 = .ok (.iaload, 1) := by decide +kernel
theorem dX9_goesAhead_33 : decode cX9_goesAhead 33 = .ok (.aload_n 0, 1) := by decide +kernel
theorem dX9_goesAhead_34 : decode cX9_goesAhead 34 = .ok (.getfield 21, 3) := by decide +kernel
theorem dX9_goesAhead_37 : decode cX9_goesAhead 37 = .ok (.iload_n 2, 1) := by decide +kernel
theorem dX9_goesAhead_38 : decode cX9_goesAhead 38 = .ok (.iaload, 1) := by decide +kernel
theorem dX9_goesAhead_39 : decode cX9_goesAhead 39 = .ok (.if_icmp .le 7, 3) := by decide +kernel
theorem dX9_goesAhead_42 : decode cX9_goesAhead 42 = .ok (.iconst 1, 1) := by decide +kernel
theorem dX9_goesAhead_43 : decode cX9_goesAhead 43 = .ok (.goto 4, 3) := by decide +kernel
theorem dX9_goesAhead_46 : decode cX9_goesAhead 46 = .ok (.iconst 0, 1) := by decide +kernel
theorem dX9_goesAhead_47 : decode cX9_goesAhead 47 = .ok (.ireturn, 1) := by decide +kernel
theorem dX9_mostCommon_0 : decode cX9_mostCommon 0 = .ok (.iconst 0, 1) := by decide +kernel
theorem dX9_mostCommon_1 : decode cX9_mostCommon 1 = .ok (.istore 4, 2) := by decide +kernel
theorem dX9_mostCommon_3 : decode cX9_mostCommon 3 = .ok (.iconst 1, 1) := by decide +kernel
theorem dX9_mostCommon_4 : decode cX9_mostCommon 4 = .ok (.istore 5, 2) := by decide +kernel
theorem dX9_mostCommon_6 : decode cX9_mostCommon 6 = .ok (.iload 5, 2) := by decide +kernel
theorem dX9_mostCommon_8 : decode cX9_mostCommon 8 = .ok (.aload_n 0, 1) := by decide +kernel
theorem dX9_mostCommon_9 : decode cX9_mostCommon 9 = .ok (.getfield 135, 3) := by decide +kernel
theorem dX9_mostCommon_12 : decode cX9_mostCommon 12 = .ok (.if_icmp .gt 53, 3) := by decide +kernel
theorem dX9_mostCommon_15 : decode cX9_mostCommon 15 = .ok (.iload 5, 2) := by decide +kernel
theorem dX9_mostCommon_17 : decode cX9_mostCommon 17 = .ok (.invokestatic 202, 3) := by decide +kernel
theorem dX9_mostCommon_20 : decode cX9_mostCommon 20 = .ok (.iload 4, 2) := by decide +kernel
theorem dX9_mostCommon_22 : decode cX9_mostCommon 22 = .ok (.invokestatic 202, 3) := by decide +kernel
theorem dX9_mostCommon_25 : decode cX9_mostCommon 25 = .ok (.if_icmp .le 34, 3) := by decide +kernel
theorem dX9_mostCommon_28 : decode cX9_mostCommon 28 = .ok (.aload_n 1, 1) := by decide +kernel
theorem dX9_mostCommon_29 : decode cX9_mostCommon 29 = .ok (.iload 5, 2) := by decide +kernel
theorem dX9_mostCommon_31 : decode cX9_mostCommon 31 = .ok (.invokevirtual 184, 3) := by decide +kernel
theorem dX9_mostCommon_34 : decode cX9_mostCommon 34 = .ok (.ifCond .eq 25, 3) := by decide +kernel
theorem dX9_mostCommon_37 : decode cX9_mostCommon 37 = .ok (.aload_n 2, 1) := by decide +kernel
theorem dX9_mostCommon_38 : decode cX9_mostCommon 38 = .ok (.iload 5, 2) := by decide +kernel
theorem dX9_mostCommon_40 : decode cX9_mostCommon 40 = .ok (.invokevirtual 184, 3) := by decide +kernel
theorem dX9_mostCommon_43 : decode cX9_mostCommon 43 = .ok (.ifCond .eq 16, 3) := by decide +kernel
theorem dX9_mostCommon_46 : decode cX9_mostCommon 46 = .ok (.aload_n 3, 1) := by decide +kernel
theorem dX9_mostCommon_47 : decode cX9_mostCommon 47 = .ok (.iload 5, 2) := by decide +kernel
theorem dX9_mostCommon_49 : decode cX9_mostCommon 49 = .ok (.invokevirtual 184, 3) := by decide +kernel
theorem dX9_mostCommon_52 : decode cX9_mostCommon 52 = .ok (.ifCond .eq 7, 3) := by decide +kernel
theorem dX9_mostCommon_55 : decode cX9_mostCommon 55 = .ok (.iload 5, 2) := by decide +kernel
theorem dX9_mostCommon_57 : decode cX9_mostCommon 57 = .ok (.istore 4, 2) := by decide +kernel
theorem dX9_mostCommon_59 : decode cX9_mostCommon 59 = .ok (.iinc 5 1, 3) := by decide +kernel
theorem dX9_mostCommon_62 : decode cX9_mostCommon 62 = .ok (.goto (-56), 3) := by decide +kernel
theorem dX9_mostCommon_65 : decode cX9_mostCommon 65 = .ok (.iload 4, 2) := by decide +kernel
theorem dX9_mostCommon_67 : decode cX9_mostCommon 67 = .ok (.ireturn, 1) := by decide +kernel
theorem dX9_heapsNeeded_0 : decode cX9_heapsNeeded 0 = .ok (.aload_n 1, 1) := by decide +kernel
theorem dX9_heapsNeeded_1 : decode cX9_heapsNeeded 1 = .ok (.iload_n 2, 1) := by decide +kernel
theorem dX9_heapsNeeded_2 : decode cX9_heapsNeeded 2 = .ok (.invokevirtual 165, 3) := by decide +kernel
theorem dX9_heapsNeeded_5 : decode cX9_heapsNeeded 5 = .ok (.istore_n 3, 1) := by decide +kernel
theorem dX9_heapsNeeded_6 : decode cX9_heapsNeeded 6 = .ok (.iload_n 3, 1) := by decide +kernel
theorem dX9_heapsNeeded_7 : decode cX9_heapsNeeded 7 = .ok (.ifCond .le 16, 3) := by decide +kernel
theorem dX9_heapsNeeded_10 : decode cX9_heapsNeeded 10 = .ok (.iload_n 2, 1) := by decide +kernel
theorem dX9_heapsNeeded_11 : decode cX9_heapsNeeded 11 = .ok (.invokestatic 202, 3) := by decide +kernel
theorem dX9_heapsNeeded_14 : decode cX9_heapsNeeded 14 = .ok (.iload_n 3, 1) := by decide +kernel
theorem dX9_heapsNeeded_15 : decode cX9_heapsNeeded 15 = .ok (.iadd, 1) := by decide +kernel
theorem dX9_heapsNeeded_16 : decode cX9_heapsNeeded 16 = .ok (.iconst 1, 1) := by decide +kernel
theorem dX9_heapsNeeded_17 : decode cX9_heapsNeeded 17 = .ok (.isub, 1) := by decide +kernel
theorem dX9_heapsNeeded_18 : decode cX9_heapsNeeded 18 = .ok (.iload_n 3, 1) := by decide +kernel
theorem dX9_heapsNeeded_19 : decode cX9_heapsNeeded 19 = .ok (.idiv, 1) := by decide +kernel
theorem dX9_heapsNeeded_20 : decode cX9_heapsNeeded 20 = .ok (.goto 4, 3) := by decide +kernel
theorem dX9_heapsNeeded_23 : decode cX9_heapsNeeded 23 = .ok (.iconst 0, 1) := by decide +kernel
theorem dX9_heapsNeeded_24 : decode cX9_heapsNeeded 24 = .ok (.ireturn, 1) := by decide +kernel
theorem dX9_mostCrowded_0 : decode cX9_mostCrowded 0 = .ok (.iconst 1, 1) := by decide +kernel
theorem dX9_mostCrowded_1 : decode cX9_mostCrowded 1 = .ok (.istore_n 2, 1) := by decide +kernel
theorem dX9_mostCrowded_2 : decode cX9_mostCrowded 2 = .ok (.aload_n 0, 1) := by decide +kernel
theorem dX9_mostCrowded_3 : decode cX9_mostCrowded 3 = .ok (.aload_n 1, 1) := by decide +kernel
theorem dX9_mostCrowded_4 : decode cX9_mostCrowded 4 = .ok (.iload_n 2, 1) := by decide +kernel
theorem dX9_mostCrowded_5 : decode cX9_mostCrowded 5 = .ok (.invokevirtual 222, 3) := by decide +kernel
theorem dX9_mostCrowded_8 : decode cX9_mostCrowded 8 = .ok (.istore_n 3, 1) := by decide +kernel
theorem dX9_mostCrowded_9 : decode cX9_mostCrowded 9 = .ok (.iconst 2, 1) := by decide +kernel
theorem dX9_mostCrowded_10 : decode cX9_mostCrowded 10 = .ok (.istore 4, 2) := by decide +kernel
theorem dX9_mostCrowded_12 : decode cX9_mostCrowded 12 = .ok (.iload 4, 2) := by decide +kernel
theorem dX9_mostCrowded_14 : decode cX9_mostCrowded 14 = .ok (.aload_n 0, 1) := by decide +kernel
theorem dX9_mostCrowded_15 : decode cX9_mostCrowded 15 = .ok (.getfield 135, 3) := by decide +kernel
theorem dX9_mostCrowded_18 : decode cX9_mostCrowded 18 = .ok (.if_icmp .gt 30, 3) := by decide +kernel
theorem dX9_mostCrowded_21 : decode cX9_mostCrowded 21 = .ok (.aload_n 0, 1) := by decide +kernel
theorem dX9_mostCrowded_22 : decode cX9_mostCrowded 22 = .ok (.aload_n 1, 1) := by decide +kernel
theorem dX9_mostCrowded_23 : decode cX9_mostCrowded 23 = .ok (.iload 4, 2) := by decide +kernel
theorem dX9_mostCrowded_25 : decode cX9_mostCrowded 25 = .ok (.invokevirtual 222, 3) := by decide +kernel
theorem dX9_mostCrowded_28 : decode cX9_mostCrowded 28 = .ok (.istore 5, 2) := by decide +kernel
theorem dX9_mostCrowded_30 : decode cX9_mostCrowded 30 = .ok (.iload 5, 2) := by decide +kernel
theorem dX9_mostCrowded_32 : decode cX9_mostCrowded 32 = .ok (.iload_n 3, 1) := by decide +kernel
theorem dX9_mostCrowded_33 : decode cX9_mostCrowded 33 = .ok (.if_icmp .le 9, 3) := by decide +kernel
theorem dX9_mostCrowded_36 : decode cX9_mostCrowded 36 = .ok (.iload 4, 2) := by decide +kernel
theorem dX9_mostCrowded_38 : decode cX9_mostCrowded 38 = .ok (.istore_n 2, 1) := by decide +kernel
theorem dX9_mostCrowded_39 : decode cX9_mostCrowded 39 = .ok (.iload 5, 2) := by decide +kernel
theorem dX9_mostCrowded_41 : decode cX9_mostCrowded 41 = .ok (.istore_n 3, 1) := by decide +kernel
theorem dX9_mostCrowded_42 : decode cX9_mostCrowded 42 = .ok (.iinc 4 1, 3) := by decide +kernel
theorem dX9_mostCrowded_45 : decode cX9_mostCrowded 45 = .ok (.goto (-33), 3) := by decide +kernel
theorem dX9_mostCrowded_48 : decode cX9_mostCrowded 48 = .ok (.iload_n 2, 1) := by decide +kernel
theorem dX9_mostCrowded_49 : decode cX9_mostCrowded 49 = .ok (.ireturn, 1) := by decide +kernel
theorem dX9_numberInDeal_0 : decode cX9_numberInDeal 0 = .ok (.aload_n 0, 1) := by decide +kernel
theorem dX9_numberInDeal_1 : decode cX9_numberInDeal 1 = .ok (.aload_n 1, 1) := by decide +kernel
theorem dX9_numberInDeal_2 : decode cX9_numberInDeal 2 = .ok (.aload_n 0, 1) := by decide +kernel
theorem dX9_numberInDeal_3 : decode cX9_numberInDeal 3 = .ok (.aload_n 1, 1) := by decide +kernel
theorem dX9_numberInDeal_4 : decode cX9_numberInDeal 4 = .ok (.invokevirtual 218, 3) := by decide +kernel
theorem dX9_numberInDeal_7 : decode cX9_numberInDeal 7 = .ok (.invokevirtual 222, 3) := by decide +kernel
theorem dX9_numberInDeal_10 : decode cX9_numberInDeal 10 = .ok (.istore_n 3, 1) := by decide +kernel
theorem dX9_numberInDeal_11 : decode cX9_numberInDeal 11 = .ok (.iconst 0, 1) := by decide +kernel
theorem dX9_numberInDeal_12 : decode cX9_numberInDeal 12 = .ok (.istore 4, 2) := by decide +kernel
theorem dX9_numberInDeal_14 : decode cX9_numberInDeal 14 = .ok (.iconst 0, 1) := by decide +kernel
theorem dX9_numberInDeal_15 : decode cX9_numberInDeal 15 = .ok (.istore 5, 2) := by decide +kernel
theorem dX9_numberInDeal_17 : decode cX9_numberInDeal 17 = .ok (.iconst 0, 1) := by decide +kernel
theorem dX9_numberInDeal_18 : decode cX9_numberInDeal 18 = .ok (.istore 6, 2) := by decide +kernel
theorem dX9_numberInDeal_20 : decode cX9_numberInDeal 20 = .ok (.iload 6, 2) := by decide +kernel
theorem dX9_numberInDeal_22 : decode cX9_numberInDeal 22 = .ok (.iload_n 2, 1) := by decide +kernel
theorem dX9_numberInDeal_23 : decode cX9_numberInDeal 23 = .ok (.if_icmp .gt 52, 3) := by decide +kernel
theorem dX9_numberInDeal_26 : decode cX9_numberInDeal 26 = .ok (.iload 4, 2) := by decide +kernel
theorem dX9_numberInDeal_28 : decode cX9_numberInDeal 28 = .ok (.aload_n 0, 1) := by decide +kernel
theorem dX9_numberInDeal_29 : decode cX9_numberInDeal 29 = .ok (.getfield 25, 3) := by decide +kernel
theorem dX9_numberInDeal_32 : decode cX9_numberInDeal 32 = .ok (.arraylength, 1) := by decide +kernel
theorem dX9_numberInDeal_33 : decode cX9_numberInDeal 33 = .ok (.if_icmp .ge 42, 3) := by decide +kernel
theorem dX9_numberInDeal_36 : decode cX9_numberInDeal 36 = .ok (.aload_n 0, 1) := by decide +kernel
theorem dX9_numberInDeal_37 : decode cX9_numberInDeal 37 = .ok (.aload_n 1, 1) := by decide +kernel
theorem dX9_numberInDeal_38 : decode cX9_numberInDeal 38 = .ok (.iload 6, 2) := by decide +kernel
theorem dX9_numberInDeal_40 : decode cX9_numberInDeal 40 = .ok (.iload 4, 2) := by decide +kernel
theorem dX9_numberInDeal_42 : decode cX9_numberInDeal 42 = .ok (.iload_n 3, 1) := by decide +kernel
theorem dX9_numberInDeal_43 : decode cX9_numberInDeal 43 = .ok (.invokevirtual 275, 3) := by decide +kernel
theorem dX9_numberInDeal_46 : decode cX9_numberInDeal 46 = .ok (.istore 5, 2) := by decide +kernel
theorem dX9_numberInDeal_48 : decode cX9_numberInDeal 48 = .ok (.iload 5, 2) := by decide +kernel
theorem dX9_numberInDeal_50 : decode cX9_numberInDeal 50 = .ok (.iload 4, 2) := by decide +kernel
theorem dX9_numberInDeal_52 : decode cX9_numberInDeal 52 = .ok (.if_icmp .ne 17, 3) := by decide +kernel
theorem dX9_numberInDeal_55 : decode cX9_numberInDeal 55 = .ok (.aload_n 0, 1) := by decide +kernel
theorem dX9_numberInDeal_56 : decode cX9_numberInDeal 56 = .ok (.getfield 25, 3) := by decide +kernel
theorem dX9_numberInDeal_59 : decode cX9_numberInDeal 59 = .ok (.iload 4, 2) := by decide +kernel
theorem dX9_numberInDeal_61 : decode cX9_numberInDeal 61 = .ok (.iconst 1, 1) := by decide +kernel
theorem dX9_numberInDeal_62 : decode cX9_numberInDeal 62 = .ok (.iload 6, 2) := by decide +kernel
theorem dX9_numberInDeal_64 : decode cX9_numberInDeal 64 = .ok (.ishl, 1) := by decide +kernel
theorem dX9_numberInDeal_65 : decode cX9_numberInDeal 65 = .ok (.iastore, 1) := by decide +kernel
theorem dX9_numberInDeal_66 : decode cX9_numberInDeal 66 = .ok (.iinc 4 1, 3) := by decide +kernel
theorem dX9_numberInDeal_69 : decode cX9_numberInDeal 69 = .ok (.iinc 6 1, 3) := by decide +kernel
theorem dX9_numberInDeal_72 : decode cX9_numberInDeal 72 = .ok (.goto (-52), 3) := by decide +kernel
theorem dX9_numberInDeal_75 : decode cX9_numberInDeal 75 = .ok (.iload 5, 2) := by decide +kernel
theorem dX9_numberInDeal_77 : decode cX9_numberInDeal 77 = .ok (.ireturn, 1) := by decide +kernel
theorem dX9_heapThatMayTake_0 : decode cX9_heapThatMayTake 0 = .ok (.iconst 0, 1) := by decide +kernel
theorem dX9_heapThatMayTake_1 : decode cX9_heapThatMayTake 1 = .ok (.istore 5, 2) := by decide +kernel
theorem dX9_heapThatMayTake_3 : decode cX9_heapThatMayTake 3 = .ok (.iload 5, 2) := by decide +kernel
theorem dX9_heapThatMayTake_5 : decode cX9_heapThatMayTake 5 = .ok (.iload_n 3, 1) := by decide +kernel
theorem dX9_heapThatMayTake_6 : decode cX9_heapThatMayTake 6 = .ok (.if_icmp .ge 71, 3) := by decide +kernel
theorem dX9_heapThatMayTake_9 : decode cX9_heapThatMayTake 9 = .ok (.aload_n 0, 1) := by decide +kernel
theorem dX9_heapThatMayTake_10 : decode cX9_heapThatMayTake 10 = .ok (.getfield 25, 3) := by decide +kernel
theorem dX9_heapThatMayTake_13 : decode cX9_heapThatMayTake 13 = .ok (.iload 5, 2) := by decide +kernel
theorem dX9_heapThatMayTake_15 : decode cX9_heapThatMayTake 15 = .ok (.iaload, 1) := by decide +kernel
theorem dX9_heapThatMayTake_16 : decode cX9_heapThatMayTake 16 = .ok (.istore 6, 2) := by decide +kernel
theorem dX9_heapThatMayTake_18 : decode cX9_heapThatMayTake 18 = .ok (.aload_n 0, 1) := by decide +kernel
theorem dX9_heapThatMayTake_19 : decode cX9_heapThatMayTake 19 = .ok (.getfield 25, 3) := by decide +kernel
theorem dX9_heapThatMayTake_22 : decode cX9_heapThatMayTake 22 = .ok (.iload 5, 2) := by decide +kernel
theorem dX9_heapThatMayTake_24 : decode cX9_heapThatMayTake 24 = .ok (.iload 6, 2) := by decide +kernel
theorem dX9_heapThatMayTake_26 : decode cX9_heapThatMayTake 26 = .ok (.iconst 1, 1) := by decide +kernel
theorem dX9_heapThatMayTake_27 : decode cX9_heapThatMayTake 27 = .ok (.iload_n 2, 1) := by decide +kernel
theorem dX9_heapThatMayTake_28 : decode cX9_heapThatMayTake 28 = .ok (.ishl, 1) := by decide +kernel
theorem dX9_heapThatMayTake_29 : decode cX9_heapThatMayTake 29 = .ok (.ior, 1) := by decide +kernel
theorem dX9_heapThatMayTake_30 : decode cX9_heapThatMayTake 30 = .ok (.iastore, 1) := by decide +kernel
theorem dX9_heapThatMayTake_31 : decode cX9_heapThatMayTake 31 = .ok (.aload_n 1, 1) := by decide +kernel
theorem dX9_heapThatMayTake_32 : decode cX9_heapThatMayTake 32 = .ok (.aload_n 0, 1) := by decide +kernel
theorem dX9_heapThatMayTake_33 : decode cX9_heapThatMayTake 33 = .ok (.getfield 25, 3) := by decide +kernel
theorem dX9_heapThatMayTake_36 : decode cX9_heapThatMayTake 36 = .ok (.iload 5, 2) := by decide +kernel
theorem dX9_heapThatMayTake_38 : decode cX9_heapThatMayTake 38 = .ok (.iaload, 1) := by decide +kernel
theorem dX9_heapThatMayTake_39 : decode cX9_heapThatMayTake 39 = .ok (.invokevirtual 184, 3) := by decide +kernel
theorem dX9_heapThatMayTake_42 : decode cX9_heapThatMayTake 42 = .ok (.ifCond .eq 20, 3) := by decide +kernel
theorem dX9_heapThatMayTake_45 : decode cX9_heapThatMayTake 45 = .ok (.aload_n 0, 1) := by decide +kernel
theorem dX9_heapThatMayTake_46 : decode cX9_heapThatMayTake 46 = .ok (.aload_n 1, 1) := by decide +kernel
theorem dX9_heapThatMayTake_47 : decode cX9_heapThatMayTake 47 = .ok (.iload_n 2, 1) := by decide +kernel
theorem dX9_heapThatMayTake_48 : decode cX9_heapThatMayTake 48 = .ok (.iconst 1, 1) := by decide +kernel
theorem dX9_heapThatMayTake_49 : decode cX9_heapThatMayTake 49 = .ok (.iadd, 1) := by decide +kernel
theorem dX9_heapThatMayTake_50 : decode cX9_heapThatMayTake 50 = .ok (.iload_n 3, 1) := by decide +kernel
theorem dX9_heapThatMayTake_51 : decode cX9_heapThatMayTake 51 = .ok (.iload 4, 2) := by decide +kernel
theorem dX9_heapThatMayTake_53 : decode cX9_heapThatMayTake 53 = .ok (.invokevirtual 279, 3) := by decide +kernel
theorem dX9_heapThatMayTake_56 : decode cX9_heapThatMayTake 56 = .ok (.ifCond .eq 6, 3) := by decide +kernel
theorem dX9_heapThatMayTake_59 : decode cX9_heapThatMayTake 59 = .ok (.iload 5, 2) := by decide +kernel
theorem dX9_heapThatMayTake_61 : decode cX9_heapThatMayTake 61 = .ok (.ireturn, 1) := by decide +kernel
theorem dX9_heapThatMayTake_62 : decode cX9_heapThatMayTake 62 = .ok (.aload_n 0, 1) := by decide +kernel
theorem dX9_heapThatMayTake_63 : decode cX9_heapThatMayTake 63 = .ok (.getfield 25, 3) := by decide +kernel
theorem dX9_heapThatMayTake_66 : decode cX9_heapThatMayTake 66 = .ok (.iload 5, 2) := by decide +kernel
theorem dX9_heapThatMayTake_68 : decode cX9_heapThatMayTake 68 = .ok (.iload 6, 2) := by decide +kernel
theorem dX9_heapThatMayTake_70 : decode cX9_heapThatMayTake 70 = .ok (.iastore, 1) := by decide +kernel
theorem dX9_heapThatMayTake_71 : decode cX9_heapThatMayTake 71 = .ok (.iinc 5 1, 3) := by decide +kernel
theorem dX9_heapThatMayTake_74 : decode cX9_heapThatMayTake 74 = .ok (.goto (-71), 3) := by decide +kernel
theorem dX9_heapThatMayTake_77 : decode cX9_heapThatMayTake 77 = .ok (.iload_n 3, 1) := by decide +kernel
theorem dX9_heapThatMayTake_78 : decode cX9_heapThatMayTake 78 = .ok (.ireturn, 1) := by decide +kernel
theorem dX9_restCanBeDealt_0 : decode cX9_restCanBeDealt 0 = .ok (.iconst 0, 1) := by decide +kernel
theorem dX9_restCanBeDealt_1 : decode cX9_restCanBeDealt 1 = .ok (.istore 5, 2) := by decide +kernel
theorem dX9_restCanBeDealt_3 : decode cX9_restCanBeDealt 3 = .ok (.iload 5, 2) := by decide +kernel
theorem dX9_restCanBeDealt_5 : decode cX9_restCanBeDealt 5 = .ok (.aload_n 0, 1) := by decide +kernel
theorem dX9_restCanBeDealt_6 : decode cX9_restCanBeDealt 6 = .ok (.getfield 135, 3) := by decide +kernel
theorem dX9_restCanBeDealt_9 : decode cX9_restCanBeDealt 9 = .ok (.iload_n 2, 1) := by decide +kernel
theorem dX9_restCanBeDealt_10 : decode cX9_restCanBeDealt 10 = .ok (.ishr, 1) := by decide +kernel
theorem dX9_restCanBeDealt_11 : decode cX9_restCanBeDealt 11 = .ok (.if_icmp .gt 35, 3) := by decide +kernel
theorem dX9_restCanBeDealt_14 : decode cX9_restCanBeDealt 14 = .ok (.iload 5, 2) := by decide +kernel
theorem dX9_restCanBeDealt_16 : decode cX9_restCanBeDealt 16 = .ok (.iload_n 2, 1) := by decide +kernel
theorem dX9_restCanBeDealt_17 : decode cX9_restCanBeDealt 17 = .ok (.ishl, 1) := by decide +kernel
theorem dX9_restCanBeDealt_18 : decode cX9_restCanBeDealt 18 = .ok (.istore 6, 2) := by decide +kernel
theorem dX9_restCanBeDealt_20 : decode cX9_restCanBeDealt 20 = .ok (.aload_n 0, 1) := by decide +kernel
theorem dX9_restCanBeDealt_21 : decode cX9_restCanBeDealt 21 = .ok (.aload_n 1, 1) := by decide +kernel
theorem dX9_restCanBeDealt_22 : decode cX9_restCanBeDealt 22 = .ok (.iload 6, 2) := by decide +kernel
theorem dX9_restCanBeDealt_24 : decode cX9_restCanBeDealt 24 = .ok (.iload_n 3, 1) := by decide +kernel
theorem dX9_restCanBeDealt_25 : decode cX9_restCanBeDealt 25 = .ok (.iload 4, 2) := by decide +kernel
theorem dX9_restCanBeDealt_27 : decode cX9_restCanBeDealt 27 = .ok (.invokevirtual 283, 3) := by decide +kernel
theorem dX9_restCanBeDealt_30 : decode cX9_restCanBeDealt 30 = .ok (.iload 6, 2) := by decide +kernel
theorem dX9_restCanBeDealt_32 : decode cX9_restCanBeDealt 32 = .ok (.invokestatic 202, 3) := by decide +kernel
theorem dX9_restCanBeDealt_35 : decode cX9_restCanBeDealt 35 = .ok (.if_icmp .ge 5, 3) := by decide +kernel
theorem dX9_restCanBeDealt_38 : decode cX9_restCanBeDealt 38 = .ok (.iconst 0, 1) := by decide +kernel
theorem dX9_restCanBeDealt_39 : decode cX9_restCanBeDealt 39 = .ok (.ireturn, 1) := by decide +kernel
theorem dX9_restCanBeDealt_40 : decode cX9_restCanBeDealt 40 = .ok (.iinc 5 1, 3) := by decide +kernel
theorem dX9_restCanBeDealt_43 : decode cX9_restCanBeDealt 43 = .ok (.goto (-40), 3) := by decide +kernel
theorem dX9_restCanBeDealt_46 : decode cX9_restCanBeDealt 46 = .ok (.iconst 1, 1) := by decide +kernel
theorem dX9_restCanBeDealt_47 : decode cX9_restCanBeDealt 47 = .ok (.ireturn, 1) := by decide +kernel
theorem dX9_roomFor_0 : decode cX9_roomFor 0 = .ok (.iload 4, 2) := by decide +kernel
theorem dX9_roomFor_2 : decode cX9_roomFor 2 = .ok (.iload_n 3, 1) := by decide +kernel
theorem dX9_roomFor_3 : decode cX9_roomFor 3 = .ok (.isub, 1) := by decide +kernel
theorem dX9_roomFor_4 : decode cX9_roomFor 4 = .ok (.aload_n 1, 1) := by decide +kernel
theorem dX9_roomFor_5 : decode cX9_roomFor 5 = .ok (.iload_n 2, 1) := by decide +kernel
theorem dX9_roomFor_6 : decode cX9_roomFor 6 = .ok (.invokevirtual 165, 3) := by decide +kernel
theorem dX9_roomFor_9 : decode cX9_roomFor 9 = .ok (.imul, 1) := by decide +kernel
theorem dX9_roomFor_10 : decode cX9_roomFor 10 = .ok (.istore 5, 2) := by decide +kernel
theorem dX9_roomFor_12 : decode cX9_roomFor 12 = .ok (.iconst 0, 1) := by decide +kernel
theorem dX9_roomFor_13 : decode cX9_roomFor 13 = .ok (.istore 6, 2) := by decide +kernel
theorem dX9_roomFor_15 : decode cX9_roomFor 15 = .ok (.iload 6, 2) := by decide +kernel
theorem dX9_roomFor_17 : decode cX9_roomFor 17 = .ok (.iload_n 3, 1) := by decide +kernel
theorem dX9_roomFor_18 : decode cX9_roomFor 18 = .ok (.if_icmp .ge 38, 3) := by decide +kernel
theorem dX9_roomFor_21 : decode cX9_roomFor 21 = .ok (.iload 5, 2) := by decide +kernel
theorem dX9_roomFor_23 : decode cX9_roomFor 23 = .ok (.aload_n 1, 1) := by decide +kernel
theorem dX9_roomFor_24 : decode cX9_roomFor 24 = .ok (.aload_n 0, 1) := by decide +kernel
theorem dX9_roomFor_25 : decode cX9_roomFor 25 = .ok (.getfield 25, 3) := by decide +kernel
theorem dX9_roomFor_28 : decode cX9_roomFor 28 = .ok (.iload 6, 2) := by decide +kernel
theorem dX9_roomFor_30 : decode cX9_roomFor 30 = .ok (.iaload, 1) := by decide +kernel
theorem dX9_roomFor_31 : decode cX9_roomFor 31 = .ok (.iload_n 2, 1) := by decide +kernel
theorem dX9_roomFor_32 : decode cX9_roomFor 32 = .ok (.ior, 1) := by decide +kernel
theorem dX9_roomFor_33 : decode cX9_roomFor 33 = .ok (.invokevirtual 165, 3) := by decide +kernel
theorem dX9_roomFor_36 : decode cX9_roomFor 36 = .ok (.aload_n 0, 1) := by decide +kernel
theorem dX9_roomFor_37 : decode cX9_roomFor 37 = .ok (.getfield 25, 3) := by decide +kernel
theorem dX9_roomFor_40 : decode cX9_roomFor 40 = .ok (.iload 6, 2) := by decide +kernel
theorem dX9_roomFor_42 : decode cX9_roomFor 42 = .ok (.iaload, 1) := by decide +kernel
theorem dX9_roomFor_43 : decode cX9_roomFor 43 = .ok (.invokestatic 202, 3) := by decide +kernel
theorem dX9_roomFor_46 : decode cX9_roomFor 46 = .ok (.isub, 1) := by decide +kernel
theorem dX9_roomFor_47 : decode cX9_roomFor 47 = .ok (.iadd, 1) := by decide +kernel
theorem dX9_roomFor_48 : decode cX9_roomFor 48 = .ok (.istore 5, 2) := by decide +kernel
theorem dX9_roomFor_50 : decode cX9_roomFor 50 = .ok (.iinc 6 1, 3) := by decide +kernel
theorem dX9_roomFor_53 : decode cX9_roomFor 53 = .ok (.goto (-38), 3) := by decide +kernel
theorem dX9_roomFor_56 : decode cX9_roomFor 56 = .ok (.iload 5, 2) := by decide +kernel
theorem dX9_roomFor_58 : decode cX9_roomFor 58 = .ok (.ireturn, 1) := by decide +kernel
theorem dX10_init_0 : decode cX10_init 0 = .ok (.aload_n 0, 1) := by decide +kernel
theorem dX10_init_1 : decode cX10_init 1 = .ok (.invokespecial 1, 3) := by decide +kernel
theorem dX10_init_4 : decode cX10_init 4 = .ok (.aload_n 0, 1) := by decide +kernel
theorem dX10_init_5 : decode cX10_init 5 = .ok (.bipush 8, 2) := by decide +kernel
theorem dX10_init_7 : decode cX10_init 7 = .ok (.putfield 7, 3) := by decide +kernel
theorem dX10_init_10 : decode cX10_init 10 = .ok (.aload_n 0, 1) := by decide +kernel
theorem dX10_init_11 : decode cX10_init 11 = .ok (.sipush 255, 3) := by decide +kernel
theorem dX10_init_14 : decode cX10_init 14 = .ok (.putfield 13, 3) := by decide +kernel
theorem dX10_init_17 : decode cX10_init 17 = .ok (.aload_n 0, 1) := by decide +kernel
theorem dX10_init_18 : decode cX10_init 18 = .ok (.bipush 12, 2) := by decide +kernel
theorem dX10_init_20 : decode cX10_init 20 = .ok (.newarray .int, 2) := by decide +kernel
theorem dX10_init_22 : decode cX10_init 22 = .ok (.putfield 16, 3) := by decide +kernel
theorem dX10_init_25 : decode cX10_init 25 = .ok (.aload_n 0, 1) := by decide +kernel
theorem dX10_init_26 : decode cX10_init 26 = .ok (.ldc 20, 2) := by decide +kernel
theorem dX10_init_28 : decode cX10_init 28 = .ok (.newarray .boolean, 2) := by decide +kernel
theorem dX10_init_30 : decode cX10_init 30 = .ok (.putfield 21, 3) := by decide +kernel
theorem dX10_init_33 : decode cX10_init 33 = .ok (.aload_n 0, 1) := by decide +kernel
theorem dX10_init_34 : decode cX10_init 34 = .ok (.ldc 20, 2) := by decide +kernel
theorem dX10_init_36 : decode cX10_init 36 = .ok (.newarray .byte, 2) := by decide +kernel
theorem dX10_init_38 : decode cX10_init 38 = .ok (.putfield 25, 3) := by decide +kernel
theorem dX10_init_41 : decode cX10_init 41 = .ok (.aload_n 0, 1) := by decide +kernel
theorem dX10_init_42 : decode cX10_init 42 = .ok (.bipush 24, 2) := by decide +kernel
theorem dX10_init_44 : decode cX10_init 44 = .ok (.newarray .int, 2) := by decide +kernel
theorem dX10_init_46 : decode cX10_init 46 = .ok (.putfield 29, 3) := by decide +kernel
theorem dX10_init_49 : decode cX10_init 49 = .ok (.aload_n 0, 1) := by decide +kernel
theorem dX10_init_50 : decode cX10_init 50 = .ok (.bipush 24, 2) := by decide +kernel
theorem dX10_init_52 : decode cX10_init 52 = .ok (.newarray .int, 2) := by decide +kernel
theorem dX10_init_54 : decode cX10_init 54 = .ok (.putfield 32, 3) := by decide +kernel
theorem dX10_init_57 : decode cX10_init 57 = .ok (.aload_n 0, 1) := by decide +kernel
theorem dX10_init_58 : decode cX10_init 58 = .ok (.bipush 24, 2) := by decide +kernel
theorem dX10_init_60 : decode cX10_init 60 = .ok (.newarray .int, 2) := by decide +kernel
theorem dX10_init_62 : decode cX10_init 62 = .ok (.putfield 35, 3) := by decide +kernel
theorem dX10_init_65 : decode cX10_init 65 = .ok (.aload_n 0, 1) := by decide +kernel
theorem dX10_init_66 : decode cX10_init 66 = .ok (.bipush 24, 2) := by decide +kernel
theorem dX10_init_68 : decode cX10_init 68 = .ok (.newarray .int, 2) := by decide +kernel
theorem dX10_init_70 : decode cX10_init 70 = .ok (.putfield 38, 3) := by decide +kernel
theorem dX10_init_73 : decode cX10_init 73 = .ok (.aload_n 0, 1) := by decide +kernel
theorem dX10_init_74 : decode cX10_init 74 = .ok (.iconst 3, 1) := by decide +kernel
theorem dX10_init_75 : decode cX10_init 75 = .ok (.newarray .int, 2) := by decide +kernel
theorem dX10_init_77 : decode cX10_init 77 = .ok (.putfield 41, 3) := by decide +kernel
theorem dX10_init_80 : decode cX10_init 80 = .ok (.aload_n 0, 1) := by decide +kernel
theorem dX10_init_81 : decode cX10_init 81 = .ok (.bipush 10, 2) := by decide +kernel
theorem dX10_init_83 : decode cX10_init 83 = .ok (.newarray .int, 2) := by decide +kernel
theorem dX10_init_85 : decode cX10_init 85 = .ok (.putfield 44, 3) := by decide +kernel
theorem dX10_init_88 : decode cX10_init 88 = .ok (.aload_n 0, 1) := by decide +kernel
theorem dX10_init_89 : decode cX10_init 89 = .ok (.bipush 10, 2) := by decide +kernel
theorem dX10_init_91 : decode cX10_init 91 = .ok (.newarray .int, 2) := by decide +kernel
theorem dX10_init_93 : decode cX10_init 93 = .ok (.putfield 47, 3) := by decide +kernel
theorem dX10_init_96 : decode cX10_init 96 = .ok (.aload_n 0, 1) := by decide +kernel
theorem dX10_init_97 : decode cX10_init 97 = .ok (.sipush 2000, 3) := by decide +kernel
theorem dX10_init_100 : decode cX10_init 100 = .ok (.newarray .long, 2) := by decide +kernel
theorem dX10_init_102 : decode cX10_init 102 = .ok (.putfield 50, 3) := by decide +kernel
theorem dX10_init_105 : decode cX10_init 105 = .ok (.aload_n 0, 1) := by decide +kernel
theorem dX10_init_106 : decode cX10_init 106 = .ok (.sipush 200, 3) := by decide +kernel
theorem dX10_init_109 : decode cX10_init 109 = .ok (.newarray .long, 2) := by decide +kernel
theorem dX10_init_111 : decode cX10_init 111 = .ok (.putfield 54, 3) := by decide +kernel
theorem dX10_init_114 : decode cX10_init 114 = .ok (.aload_n 0, 1) := by decide +kernel
theorem dX10_init_115 : decode cX10_init 115 = .ok (.sipush 200, 3) := by decide +kernel
theorem dX10_init_118 : decode cX10_init 118 = .ok (.newarray .int, 2) := by decide +kernel
theorem dX10_init_120 : decode cX10_init 120 = .ok (.putfield 57, 3) := by decide +kernel
theorem dX10_init_123 : decode cX10_init 123 = .ok (.aload_n 0, 1) := by decide +kernel
theorem dX10_init_124 : decode cX10_init 124 = .ok (.sipush 200, 3) := by decide +kernel
theorem dX10_init_127 : decode cX10_init 127 = .ok (.newarray .int, 2) := by decide +kernel
theorem dX10_init_129 : decode cX10_init 129 = .ok (.putfield 60, 3) := by decide +kernel
theorem dX10_init_132 : decode cX10_init 132 = .ok (.aload_n 0, 1) := by decide +kernel
theorem dX10_init_133 : decode cX10_init 133 = .ok (.bipush 16, 2) := by decide +kernel
theorem dX10_init_135 : decode cX10_init 135 = .ok (.newarray .int, 2) := by decide +kernel
theorem dX10_init_137 : decode cX10_init 137 = .ok (.putfield 63, 3) := by decide +kernel
theorem dX10_init_140 : decode cX10_init 140 = .ok (.aload_n 0, 1) := by decide +kernel
theorem dX10_init_141 : decode cX10_init 141 = .ok (.bipush 72, 2) := by decide +kernel
theorem dX10_init_143 : decode cX10_init 143 = .ok (.newarray .int, 2) := by decide +kernel
theorem dX10_init_145 : decode cX10_init 145 = .ok (.putfield 66, 3) := by decide +kernel
theorem dX10_init_148 : decode cX10_init 148 = .ok (.aload_n 0, 1) := by decide +kernel
theorem dX10_init_149 : decode cX10_init 149 = .ok (.bipush 72, 2) := by decide +kernel
theorem dX10_init_151 : decode cX10_init 151 = .ok (.newarray .int, 2) := by decide +kernel
theorem dX10_init_153 : decode cX10_init 153 = .ok (.putfield 69, 3) := by decide +kernel
theorem dX10_init_156 : decode cX10_init 156 = .ok (.aload_n 0, 1) := by decide +kernel
theorem dX10_init_157 : decode cX10_init 157 = .ok (.sipush 4096, 3) := by decide +kernel
theorem dX10_init_160 : decode cX10_init 160 = .ok (.newarray .byte, 2) := by decide +kernel
theorem dX10_init_162 : decode cX10_init 162 = .ok (.putfield 72, 3) := by decide +kernel
theorem dX10_init_165 : decode cX10_init 165 = .ok (.aload_n 0, 1) := by decide +kernel
theorem dX10_init_166 : decode cX10_init 166 = .ok (.bipush 12, 2) := by decide +kernel
theorem dX10_init_168 : decode cX10_init 168 = .ok (.newarray .int, 2) := by decide +kernel
theorem dX10_init_170 : decode cX10_init 170 = .ok (.putfield 75, 3) := by decide +kernel
theorem dX10_init_173 : decode cX10_init 173 = .ok (.aload_n 0, 1) := by decide +kernel
theorem dX10_init_174 : decode cX10_init 174 = .ok (.bipush 12, 2) := by decide +kernel
theorem dX10_init_176 : decode cX10_init 176 = .ok (.newarray .int, 2) := by decide +kernel
theorem dX10_init_178 : decode cX10_init 178 = .ok (.putfield 78, 3) := by decide +kernel
theorem dX10_init_181 : decode cX10_init 181 = .ok (.aload_n 0, 1) := by decide +kernel
theorem dX10_init_182 : decode cX10_init 182 = .ok (.bipush 8, 2) := by decide +kernel
theorem dX10_init_184 : decode cX10_init 184 = .ok (.invokevirtual 81, 3) := by decide +kernel
theorem dX10_init_187 : decode cX10_init 187 = .ok (.return_, 1) := by decide +kernel
theorem dX10_anew_0 : decode cX10_anew 0 = .ok (.aload_n 0, 1) := by decide +kernel
theorem dX10_anew_1 : decode cX10_anew 1 = .ok (.iload_n 1, 1) := by decide +kernel
theorem dX10_anew_2 : decode cX10_anew 2 = .ok (.putfield 7, 3) := by decide +kernel
theorem dX10_anew_5 : decode cX10_anew 5 = .ok (.aload_n 0, 1) := by decide +kernel
theorem dX10_anew_6 : decode cX10_anew 6 = .ok (.iconst 1, 1) := by decide +kernel
theorem dX10_anew_7 : decode cX10_anew 7 = .ok (.iload_n 1, 1) := by decide +kernel
theorem dX10_anew_8 : decode cX10_anew 8 = .ok (.ishl, 1) := by decide +kernel
theorem dX10_anew_9 : decode cX10_anew 9 = .ok (.iconst 1, 1) := by decide +kernel
theorem dX10_anew_10 : decode cX10_anew 10 = .ok (.isub, 1) := by decide +kernel
theorem dX10_anew_11 : decode cX10_anew 11 = .ok (.putfield 13, 3) := by decide +kernel
theorem dX10_anew_14 : decode cX10_anew 14 = .ok (.aload_n 0, 1) := by decide +kernel
theorem dX10_anew_15 : decode cX10_anew 15 = .ok (.iconst 0, 1) := by decide +kernel
theorem dX10_anew_16 : decode cX10_anew 16 = .ok (.putfield 85, 3) := by decide +kernel
theorem dX10_anew_19 : decode cX10_anew 19 = .ok (.iconst 0, 1) := by decide +kernel
theorem dX10_anew_20 : decode cX10_anew 20 = .ok (.istore_n 2, 1) := by decide +kernel
theorem dX10_anew_21 : decode cX10_anew 21 = .ok (.iload_n 2, 1) := by decide +kernel
theorem dX10_anew_22 : decode cX10_anew 22 = .ok (.bipush 12, 2) := by decide +kernel
theorem dX10_anew_24 : decode cX10_anew 24 = .ok (.if_icmp .ge 16, 3) := by decide +kernel
theorem dX10_anew_27 : decode cX10_anew 27 = .ok (.aload_n 0, 1) := by decide +kernel
theorem dX10_anew_28 : decode cX10_anew 28 = .ok (.getfield 16, 3) := by decide +kernel
theorem dX10_anew_31 : decode cX10_anew 31 = .ok (.iload_n 2, 1) := by decide +kernel
theorem dX10_anew_32 : decode cX10_anew 32 = .ok (.iconst 1, 1) := by decide +kernel
theorem dX10_anew_33 : decode cX10_anew 33 = .ok (.iastore, 1) := by decide +kernel
theorem dX10_anew_34 : decode cX10_anew 34 = .ok (.iinc 2 1, 3) := by decide +kernel
theorem dX10_anew_37 : decode cX10_anew 37 = .ok (.goto (-16), 3) := by decide +kernel
theorem dX10_anew_40 : decode cX10_anew 40 = .ok (.iconst 0, 1) := by decide +kernel
theorem dX10_anew_41 : decode cX10_anew 41 = .ok (.istore_n 2, 1) := by decide +kernel
theorem dX10_anew_42 : decode cX10_anew 42 = .ok (.iload_n 2, 1) := by decide +kernel
theorem dX10_anew_43 : decode cX10_anew 43 = .ok (.iconst 3, 1) := by decide +kernel
theorem dX10_anew_44 : decode cX10_anew 44 = .ok (.if_icmp .ge 16, 3) := by decide +kernel
theorem dX10_anew_47 : decode cX10_anew 47 = .ok (.aload_n 0, 1) := by decide +kernel
theorem dX10_anew_48 : decode cX10_anew 48 = .ok (.getfield 41, 3) := by decide +kernel
theorem dX10_anew_51 : decode cX10_anew 51 = .ok (.iload_n 2, 1) := by decide +kernel
theorem dX10_anew_52 : decode cX10_anew 52 = .ok (.iconst 0, 1) := by decide +kernel
theorem dX10_anew_53 : decode cX10_anew 53 = .ok (.iastore, 1) := by decide +kernel
theorem dX10_anew_54 : decode cX10_anew 54 = .ok (.iinc 2 1, 3) := by decide +kernel
theorem dX10_anew_57 : decode cX10_anew 57 = .ok (.goto (-15), 3) := by decide +kernel
theorem dX10_anew_60 : decode cX10_anew 60 = .ok (.return_, 1) := by decide +kernel
theorem dX10_fresh_0 : decode cX10_fresh 0 = .ok (.iload_n 1, 1) := by decide +kernel
theorem dX10_fresh_1 : decode cX10_fresh 1 = .ok (.iconst 1, 1) := by decide +kernel
theorem dX10_fresh_2 : decode cX10_fresh 2 = .ok (.if_icmp .lt 9, 3) := by decide +kernel
theorem dX10_fresh_5 : decode cX10_fresh 5 = .ok (.iload_n 1, 1) := by decide +kernel
theorem dX10_fresh_6 : decode cX10_fresh 6 = .ok (.bipush 12, 2) := by decide +kernel
theorem dX10_fresh_8 : decode cX10_fresh 8 = .ok (.if_icmp .le 5, 3) := by decide +kernel
theorem dX10_fresh_11 : decode cX10_fresh 11 = .ok (.iconst 0, 1) := by decide +kernel
theorem dX10_fresh_12 : decode cX10_fresh 12 = .ok (.ireturn, 1) := by decide +kernel
theorem dX10_fresh_13 : decode cX10_fresh 13 = .ok (.aload_n 0, 1) := by decide +kernel
theorem dX10_fresh_14 : decode cX10_fresh 14 = .ok (.iload_n 1, 1) := by decide +kernel
theorem dX10_fresh_15 : decode cX10_fresh 15 = .ok (.invokevirtual 81, 3) := by decide +kernel
theorem dX10_fresh_18 : decode cX10_fresh 18 = .ok (.iconst 1, 1) := by decide +kernel
theorem dX10_fresh_19 : decode cX10_fresh 19 = .ok (.ireturn, 1) := by decide +kernel
theorem dX10_isThing_0 : decode cX10_isThing 0 = .ok (.iload_n 1, 1) := by decide +kernel
theorem dX10_isThing_1 : decode cX10_isThing 1 = .ok (.ifCond .lt 15, 3) := by decide +kernel
theorem dX10_isThing_4 : decode cX10_isThing 4 = .ok (.iload_n 1, 1) := by decide +kernel
theorem dX10_isThing_5 : decode cX10_isThing 5 = .ok (.aload_n 0, 1) := by decide +kernel
theorem dX10_isThing_6 : decode cX10_isThing 6 = .ok (.getfield 7, 3) := by decide +kernel
theorem dX10_isThing_9 : decode cX10_isThing 9 = .ok (.if_icmp .ge 7, 3) := by decide +kernel
theorem dX10_isThing_12 : decode cX10_isThing 12 = .ok (.iconst 1, 1) := by decide +kernel
theorem dX10_isThing_13 : decode cX10_isThing 13 = .ok (.goto 4, 3) := by decide +kernel
theorem dX10_isThing_16 : decode cX10_isThing 16 = .ok (.iconst 0, 1) := by decide +kernel
theorem dX10_isThing_17 : decode cX10_isThing 17 = .ok (.ireturn, 1) := by decide +kernel
theorem dX10_isSet_0 : decode cX10_isSet 0 = .ok (.iload_n 1, 1) := by decide +kernel
theorem dX10_isSet_1 : decode cX10_isSet 1 = .ok (.ifCond .lt 15, 3) := by decide +kernel
theorem dX10_isSet_4 : decode cX10_isSet 4 = .ok (.iload_n 1, 1) := by decide +kernel
theorem dX10_isSet_5 : decode cX10_isSet 5 = .ok (.aload_n 0, 1) := by decide +kernel
theorem dX10_isSet_6 : decode cX10_isSet 6 = .ok (.getfield 13, 3) := by decide +kernel
theorem dX10_isSet_9 : decode cX10_isSet 9 = .ok (.if_icmp .gt 7, 3) := by decide +kernel
theorem dX10_isSet_12 : decode cX10_isSet 12 = .ok (.iconst 1, 1) := by decide +kernel
theorem dX10_isSet_13 : decode cX10_isSet 13 = .ok (.goto 4, 3) := by decide +kernel
theorem dX10_isSet_16 : decode cX10_isSet 16 = .ok (.iconst 0, 1) := by decide +kernel
theorem dX10_isSet_17 : decode cX10_isSet 17 = .ok (.ireturn, 1) := by decide +kernel
theorem dX10_isRule_0 : decode cX10_isRule 0 = .ok (.iload_n 1, 1) := by decide +kernel
theorem dX10_isRule_1 : decode cX10_isRule 1 = .ok (.ifCond .lt 15, 3) := by decide +kernel
theorem dX10_isRule_4 : decode cX10_isRule 4 = .ok (.iload_n 1, 1) := by decide +kernel
theorem dX10_isRule_5 : decode cX10_isRule 5 = .ok (.aload_n 0, 1) := by decide +kernel
theorem dX10_isRule_6 : decode cX10_isRule 6 = .ok (.getfield 85, 3) := by decide +kernel
theorem dX10_isRule_9 : decode cX10_isRule 9 = .ok (.if_icmp .ge 7, 3) := by decide +kernel
theorem dX10_isRule_12 : decode cX10_isRule 12 = .ok (.iconst 1, 1) := by decide +kernel
theorem dX10_isRule_13 : decode cX10_isRule 13 = .ok (.goto 4, 3) := by decide +kernel
theorem dX10_isRule_16 : decode cX10_isRule 16 = .ok (.iconst 0, 1) := by decide +kernel
theorem dX10_isRule_17 : decode cX10_isRule 17 = .ok (.ireturn, 1) := by decide +kernel
theorem dX10_weight_0 : decode cX10_weight 0 = .ok (.aload_n 0, 1) := by decide +kernel
theorem dX10_weight_1 : decode cX10_weight 1 = .ok (.iload_n 1, 1) := by decide +kernel
theorem dX10_weight_2 : decode cX10_weight 2 = .ok (.invokevirtual 88, 3) := by decide +kernel
theorem dX10_weight_5 : decode cX10_weight 5 = .ok (.ifCond .eq 13, 3) := by decide +kernel
theorem dX10_weight_8 : decode cX10_weight 8 = .ok (.iload_n 2, 1) := by decide +kernel
theorem dX10_weight_9 : decode cX10_weight 9 = .ok (.ifCond .lt 9, 3) := by decide +kernel
theorem dX10_weight_12 : decode cX10_weight 12 = .ok (.iload_n 2, 1) := by decide +kernel
theorem dX10_weight_13 : decode cX10_weight 13 = .ok (.ldc 92, 2) := by decide +kernel
theorem dX10_weight_15 : decode cX10_weight 15 = .ok (.if_icmp .le 5, 3) := by decide +kernel
theorem dX10_weight_18 : decode cX10_weight 18 = .ok (.iconst (-1), 1) := by decide +kernel
theorem dX10_weight_19 : decode cX10_weight 19 = .ok (.ireturn, 1) := by decide +kernel
theorem dX10_weight_20 : decode cX10_weight 20 = .ok (.aload_n 0, 1) := by decide +kernel
theorem dX10_weight_21 : decode cX10_weight 21 = .ok (.getfield 16, 3) := by decide +kernel
theorem dX10_weight_24 : decode cX10_weight 24 = .ok (.iload_n 1, 1) := by decide +kernel
theorem dX10_weight_25 : decode cX10_weight 25 = .ok (.iaload, 1) := by decide +kernel
theorem dX10_weight_26 : decode cX10_weight 26 = .ok (.istore_n 3, 1) := by decide +kernel
theorem dX10_weight_27 : decode cX10_weight 27 = .ok (.aload_n 0, 1) := by decide +kernel
theorem dX10_weight_28 : decode cX10_weight 28 = .ok (.getfield 16, 3) := by decide +kernel
theorem dX10_weight_31 : decode cX10_weight 31 = .ok (.iload_n 1, 1) := by decide +kernel
theorem dX10_weight_32 : decode cX10_weight 32 = .ok (.iload_n 2, 1) := by decide +kernel
theorem dX10_weight_33 : decode cX10_weight 33 = .ok (.iastore, 1) := by decide +kernel
theorem dX10_weight_34 : decode cX10_weight 34 = .ok (.iload_n 3, 1) := by decide +kernel
theorem dX10_weight_35 : decode cX10_weight 35 = .ok (.ireturn, 1) := by decide +kernel
theorem dX10_isSlot_0 : decode cX10_isSlot 0 = .ok (.iload_n 0, 1) := by decide +kernel
theorem dX10_isSlot_1 : decode cX10_isSlot 1 = .ok (.ifCond .lt 13, 3) := by decide +kernel
theorem dX10_isSlot_4 : decode cX10_isSlot 4 = .ok (.iload_n 0, 1) := by decide +kernel
theorem dX10_isSlot_5 : decode cX10_isSlot 5 = .ok (.bipush 9, 2) := by decide +kernel
theorem dX10_isSlot_7 : decode cX10_isSlot 7 = .ok (.if_icmp .gt 7, 3) := by decide +kernel
theorem dX10_isSlot_10 : decode cX10_isSlot 10 = .ok (.iconst 1, 1) := by decide +kernel
theorem dX10_isSlot_11 : decode cX10_isSlot 11 = .ok (.goto 4, 3) := by decide +kernel
theorem dX10_isSlot_14 : decode cX10_isSlot 14 = .ok (.iconst 0, 1) := by decide +kernel
theorem dX10_isSlot_15 : decode cX10_isSlot 15 = .ok (.ireturn, 1) := by decide +kernel
theorem dX10_row_0 : decode cX10_row 0 = .ok (.iload_n 1, 1) := by decide +kernel
theorem dX10_row_1 : decode cX10_row 1 = .ok (.invokestatic 93, 3) := by decide +kernel
theorem dX10_row_4 : decode cX10_row 4 = .ok (.ifCond .eq 19, 3) := by decide +kernel
theorem dX10_row_7 : decode cX10_row 7 = .ok (.iload_n 2, 1) := by decide +kernel
theorem dX10_row_8 : decode cX10_row 8 = .ok (.ifCond .lt 15, 3) := by decide +kernel
theorem dX10_row_11 : decode cX10_row 11 = .ok (.iload_n 2, 1) := by decide +kernel
theorem dX10_row_12 : decode cX10_row 12 = .ok (.iconst 3, 1) := by decide +kernel
theorem dX10_row_13 : decode cX10_row 13 = .ok (.if_icmp .gt 10, 3) := by decide +kernel
theorem dX10_row_16 : decode cX10_row 16 = .ok (.iload_n 3, 1) := by decide +kernel
theorem dX10_row_17 : decode cX10_row 17 = .ok (.sipush 200, 3) := by decide +kernel
theorem dX10_row_20 : decode cX10_row 20 = .ok (.if_icmp .le 6, 3) := by decide +kernel
theorem dX10_row_23 : decode cX10_row 23 = .ok (.bipush (-2), 2) := by decide +kernel
theorem dX10_row_25 : decode cX10_row 25 = .ok (.ireturn, 1) := by decide +kernel
theorem dX10_row_26 : decode cX10_row 26 = .ok (.iload_n 3, 1) := by decide +kernel
theorem dX10_row_27 : decode cX10_row 27 = .ok (.ifCond .ge 6, 3) := by decide +kernel
theorem dX10_row_30 : decode cX10_row 30 = .ok (.bipush (-3), 2) := by decide +kernel
theorem dX10_row_32 : decode cX10_row 32 = .ok (.ireturn, 1) := by decide +kernel
theorem dX10_row_33 : decode cX10_row 33 = .ok (.aload_n 0, 1) := by decide +kernel
theorem dX10_row_34 : decode cX10_row 34 = .ok (.getfield 44, 3) := by decide +kernel
theorem dX10_row_37 : decode cX10_row 37 = .ok (.iload_n 1, 1) := by decide +kernel
theorem dX10_row_38 : decode cX10_row 38 = .ok (.iload_n 3, 1) := by decide +kernel
theorem dX10_row_39 : decode cX10_row 39 = .ok (.iconst 1, 1) := by decide +kernel
theorem dX10_row_40 : decode cX10_row 40 = .ok (.iadd, 1) := by decide +kernel
theorem dX10_row_41 : decode cX10_row 41 = .ok (.iastore, 1) := by decide +kernel
theorem dX10_row_42 : decode cX10_row 42 = .ok (.aload_n 0, 1) := by decide +kernel
theorem dX10_row_43 : decode cX10_row 43 = .ok (.getfield 47, 3) := by decide +kernel
theorem dX10_row_46 : decode cX10_row 46 = .ok (.iload_n 1, 1) := by decide +kernel
theorem dX10_row_47 : decode cX10_row 47 = .ok (.iload_n 2, 1) := by decide +kernel
theorem dX10_row_48 : decode cX10_row 48 = .ok (.iastore, 1) := by decide +kernel
theorem dX10_row_49 : decode cX10_row 49 = .ok (.iconst 0, 1) := by decide +kernel
theorem dX10_row_50 : decode cX10_row 50 = .ok (.istore 4, 2) := by decide +kernel
theorem dX10_row_52 : decode cX10_row 52 = .ok (.iload 4, 2) := by decide +kernel
theorem dX10_row_54 : decode cX10_row 54 = .ok (.iload_n 3, 1) := by decide +kernel
theorem dX10_row_55 : decode cX10_row 55 = .ok (.if_icmp .ge 23, 3) := by decide +kernel
theorem dX10_row_58 : decode cX10_row 58 = .ok (.aload_n 0, 1) := by decide +kernel
theorem dX10_row_59 : decode cX10_row 59 = .ok (.getfield 50, 3) := by decide +kernel
theorem dX10_row_62 : decode cX10_row 62 = .ok (.sipush 200, 3) := by decide +kernel
theorem dX10_row_65 : decode cX10_row 65 = .ok (.iload_n 1, 1) := by decide +kernel
theorem dX10_row_66 : decode cX10_row 66 = .ok (.imul, 1) := by decide +kernel
theorem dX10_row_67 : decode cX10_row 67 = .ok (.iload 4, 2) := by decide +kernel
theorem dX10_row_69 : decode cX10_row 69 = .ok (.iadd, 1) := by decide +kernel
theorem dX10_row_70 : decode cX10_row 70 = .ok (.lconst 0, 1) := by decide +kernel
theorem dX10_row_71 : decode cX10_row 71 = .ok (.lastore, 1) := by decide +kernel
theorem dX10_row_72 : decode cX10_row 72 = .ok (.iinc 4 1, 3) := by decide +kernel
theorem dX10_row_75 : decode cX10_row 75 = .ok (.goto (-23), 3) := by decide +kernel
theorem dX10_row_78 : decode cX10_row 78 = .ok (.iconst 0, 1) := by decide +kernel
theorem dX10_row_79 : decode cX10_row 79 = .ok (.ireturn, 1) := by decide +kernel
theorem dX10_tear_0 : decode cX10_tear 0 = .ok (.iload_n 1, 1) := by decide +kernel
theorem dX10_tear_1 : decode cX10_tear 1 = .ok (.invokestatic 93, 3) := by decide +kernel
theorem dX10_tear_4 : decode cX10_tear 4 = .ok (.ifCond .eq 12, 3) := by decide +kernel
theorem dX10_tear_7 : decode cX10_tear 7 = .ok (.aload_n 0, 1) := by decide +kernel
theorem dX10_tear_8 : decode cX10_tear 8 = .ok (.getfield 44, 3) := by decide +kernel
theorem dX10_tear_11 : decode cX10_tear 11 = .ok (.iload_n 1, 1) := by decide +kernel
theorem dX10_tear_12 : decode cX10_tear 12 = .ok (.iaload, 1) := by decide +kernel
theorem dX10_tear_13 : decode cX10_tear 13 = .ok (.ifCond .ne 5, 3) := by decide +kernel
theorem dX10_tear_16 : decode cX10_tear 16 = .ok (.iconst 0, 1) := by decide +kernel
theorem dX10_tear_17 : decode cX10_tear 17 = .ok (.ireturn, 1) := by decide +kernel
theorem dX10_tear_18 : decode cX10_tear 18 = .ok (.aload_n 0, 1) := by decide +kernel
theorem dX10_tear_19 : decode cX10_tear 19 = .ok (.getfield 44, 3) := by decide +kernel
theorem dX10_tear_22 : decode cX10_tear 22 = .ok (.iload_n 1, 1) := by decide +kernel
theorem dX10_tear_23 : decode cX10_tear 23 = .ok (.iconst 0, 1) := by decide +kernel
theorem dX10_tear_24 : decode cX10_tear 24 = .ok (.iastore, 1) := by decide +kernel
theorem dX10_tear_25 : decode cX10_tear 25 = .ok (.iconst 1, 1) := by decide +kernel
theorem dX10_tear_26 : decode cX10_tear 26 = .ok (.ireturn, 1) := by decide +kernel
theorem dX10_wrong_0 : decode cX10_wrong 0 = .ok (.iload_n 1, 1) := by decide +kernel
theorem dX10_wrong_1 : decode cX10_wrong 1 = .ok (.invokestatic 93, 3) := by decide +kernel
theorem dX10_wrong_4 : decode cX10_wrong 4 = .ok (.ifCond .ne 6, 3) := by decide +kernel
theorem dX10_wrong_7 : decode cX10_wrong 7 = .ok (.bipush (-2), 2) := by decide +kernel
theorem dX10_wrong_9 : decode cX10_wrong 9 = .ok (.ireturn, 1) := by decide +kernel
theorem dX10_wrong_10 : decode cX10_wrong 10 = .ok (.aload_n 0, 1) := by decide +kernel
theorem dX10_wrong_11 : decode cX10_wrong 11 = .ok (.getfield 44, 3) := by decide +kernel
theorem dX10_wrong_14 : decode cX10_wrong 14 = .ok (.iload_n 1, 1) := by decide +kernel
theorem dX10_wrong_15 : decode cX10_wrong 15 = .ok (.iaload, 1) := by decide +kernel
theorem dX10_wrong_16 : decode cX10_wrong 16 = .ok (.ifCond .ne 8, 3) := by decide +kernel
theorem dX10_wrong_19 : decode cX10_wrong 19 = .ok (.bipush (-5), 2) := by decide +kernel
theorem dX10_wrong_21 : decode cX10_wrong 21 = .ok (.goto 25, 3) := by decide +kernel
theorem dX10_wrong_24 : decode cX10_wrong 24 = .ok (.iload_n 2, 1) := by decide +kernel
theorem dX10_wrong_25 : decode cX10_wrong 25 = .ok (.ifCond .lt 15, 3) := by decide +kernel
theorem dX10_wrong_28 : decode cX10_wrong 28 = .ok (.iload_n 2, 1) := by decide +kernel
theorem dX10_wrong_29 : decode cX10_wrong 29 = .ok (.aload_n 0, 1) := by decide +kernel
theorem dX10_wrong_30 : decode cX10_wrong 30 = .ok (.getfield 44, 3) := by decide +kernel
theorem dX10_wrong_33 : decode cX10_wrong 33 = .ok (.iload_n 1, 1) := by decide +kernel
theorem dX10_wrong_34 : decode cX10_wrong 34 = .ok (.iaload, 1) := by decide +kernel
theorem dX10_wrong_35 : decode cX10_wrong 35 = .ok (.iconst 1, 1) := by decide +kernel
theorem dX10_wrong_36 : decode cX10_wrong 36 = .ok (.isub, 1) := by decide +kernel
theorem dX10_wrong_37 : decode cX10_wrong 37 = .ok (.if_icmp .lt 8, 3) := by decide +kernel
theorem dX10_wrong_40 : decode cX10_wrong 40 = .ok (.bipush (-6), 2) := by decide +kernel
theorem dX10_wrong_42 : decode cX10_wrong 42 = .ok (.goto 4, 3) := by decide +kernel
theorem dX10_wrong_45 : decode cX10_wrong 45 = .ok (.iconst 0, 1) := by decide +kernel
theorem dX10_wrong_46 : decode cX10_wrong 46 = .ok (.ireturn, 1) := by decide +kernel
theorem dX10_write_0 : decode cX10_write 0 = .ok (.aload_n 0, 1) := by decide +kernel
theorem dX10_write_1 : decode cX10_write 1 = .ok (.iload_n 1, 1) := by decide +kernel
theorem dX10_write_2 : decode cX10_write 2 = .ok (.iload_n 2, 1) := by decide +kernel
theorem dX10_write_3 : decode cX10_write 3 = .ok (.invokevirtual 96, 3) := by decide +kernel
theorem dX10_write_6 : decode cX10_write 6 = .ok (.istore 5, 2) := by decide +kernel
theorem dX10_write_8 : decode cX10_write 8 = .ok (.iload 5, 2) := by decide +kernel
theorem dX10_write_10 : decode cX10_write 10 = .ok (.ifCond .ne 61, 3) := by decide +kernel
theorem dX10_write_13 : decode cX10_write 13 = .ok (.aload_n 0, 1) := by decide +kernel
theorem dX10_write_14 : decode cX10_write 14 = .ok (.getfield 47, 3) := by decide +kernel
theorem dX10_write_17 : decode cX10_write 17 = .ok (.iload_n 1, 1) := by decide +kernel
theorem dX10_write_18 : decode cX10_write 18 = .ok (.iaload, 1) := by decide +kernel
theorem dX10_write_19 : decode cX10_write 19 = .ok (.istore 6, 2) := by decide +kernel
theorem dX10_write_21 : decode cX10_write 21 = .ok (.aload_n 0, 1) := by decide +kernel
theorem dX10_write_22 : decode cX10_write 22 = .ok (.getfield 50, 3) := by decide +kernel
theorem dX10_write_25 : decode cX10_write 25 = .ok (.sipush 200, 3) := by decide +kernel
theorem dX10_write_28 : decode cX10_write 28 = .ok (.iload_n 1, 1) := by decide +kernel
theorem dX10_write_29 : decode cX10_write 29 = .ok (.imul, 1) := by decide +kernel
theorem dX10_write_30 : decode cX10_write 30 = .ok (.iload_n 2, 1) := by decide +kernel
theorem dX10_write_31 : decode cX10_write 31 = .ok (.iadd, 1) := by decide +kernel
theorem dX10_write_32 : decode cX10_write 32 = .ok (.iload 6, 2) := by decide +kernel
theorem dX10_write_34 : decode cX10_write 34 = .ok (.ifCond .ne 10, 3) := by decide +kernel
theorem dX10_write_37 : decode cX10_write 37 = .ok (.lload_n 3, 1) := by decide +kernel
theorem dX10_write_38 : decode cX10_write 38 = .ok (.l2i, 1) := by decide +kernel
theorem dX10_write_39 : decode cX10_write 39 = .ok (.i2b, 1) := by decide +kernel
theorem dX10_write_40 : decode cX10_write 40 = .ok (.i2l, 1) := by decide +kernel
theorem dX10_write_41 : decode cX10_write 41 = .ok (.goto 29, 3) := by decide +kernel
theorem dX10_write_44 : decode cX10_write 44 = .ok (.iload 6, 2) := by decide +kernel
theorem dX10_write_46 : decode cX10_write 46 = .ok (.iconst 1, 1) := by decide +kernel
theorem dX10_write_47 : decode cX10_write 47 = .ok (.if_icmp .ne 10, 3) := by decide +kernel
theorem dX10_write_50 : decode cX10_write 50 = .ok (.lload_n 3, 1) := by decide +kernel
theorem dX10_write_51 : decode cX10_write 51 = .ok (.l2i, 1) := by decide +kernel
theorem dX10_write_52 : decode cX10_write 52 = .ok (.i2s, 1) := by decide +kernel
theorem dX10_write_53 : decode cX10_write 53 = .ok (.i2l, 1) := by decide +kernel
theorem dX10_write_54 : decode cX10_write 54 = .ok (.goto 16, 3) := by decide +kernel
theorem dX10_write_57 : decode cX10_write 57 = .ok (.iload 6, 2) := by decide +kernel
theorem dX10_write_59 : decode cX10_write 59 = .ok (.iconst 2, 1) := by decide +kernel
theorem dX10_write_60 : decode cX10_write 60 = .ok (.if_icmp .ne 9, 3) := by decide +kernel
theorem dX10_write_63 : decode cX10_write 63 = .ok (.lload_n 3, 1) := by decide +kernel
theorem dX10_write_64 : decode cX10_write 64 = .ok (.l2i, 1) := by decide +kernel
theorem dX10_write_65 : decode cX10_write 65 = .ok (.i2l, 1) := by decide +kernel
theorem dX10_write_66 : decode cX10_write 66 = .ok (.goto 4, 3) := by decide +kernel
theorem dX10_write_69 : decode cX10_write 69 = .ok (.lload_n 3, 1) := by decide +kernel
theorem dX10_write_70 : decode cX10_write 70 = .ok (.lastore, 1) := by decide +kernel
theorem dX10_write_71 : decode cX10_write 71 = .ok (.iload 5, 2) := by decide +kernel
theorem dX10_write_73 : decode cX10_write 73 = .ok (.ireturn, 1) := by decide +kernel
theorem dX10_read_0 : decode cX10_read 0 = .ok (.aload_n 0, 1) := by decide +kernel
theorem dX10_read_1 : decode cX10_read 1 = .ok (.iload_n 1, 1) := by decide +kernel
theorem dX10_read_2 : decode cX10_read 2 = .ok (.iload_n 2, 1) := by decide +kernel
theorem dX10_read_3 : decode cX10_read 3 = .ok (.invokevirtual 96, 3) := by decide +kernel
theorem dX10_read_6 : decode cX10_read 6 = .ok (.ifCond .ne 18, 3) := by decide +kernel
theorem dX10_read_9 : decode cX10_read 9 = .ok (.aload_n 0, 1) := by decide +kernel
theorem dX10_read_10 : decode cX10_read 10 = .ok (.getfield 50, 3) := by decide +kernel
theorem dX10_read_13 : decode cX10_read 13 = .ok (.sipush 200, 3) := by decide +kernel
theorem dX10_read_16 : decode cX10_read 16 = .ok (.iload_n 1, 1) := by decide +kernel
theorem dX10_read_17 : decode cX10_read 17 = .ok (.imul, 1) := by decide +kernel
theorem dX10_read_18 : decode cX10_read 18 = .ok (.iload_n 2, 1) := by decide +kernel
theorem dX10_read_19 : decode cX10_read 19 = .ok (.iadd, 1) := by decide +kernel
theorem dX10_read_20 : decode cX10_read 20 = .ok (.laload, 1) := by decide +kernel
theorem dX10_read_21 : decode cX10_read 21 = .ok (.goto 4, 3) := by decide +kernel
theorem dX10_read_24 : decode cX10_read 24 = .ok (.lconst 0, 1) := by decide +kernel
theorem dX10_read_25 : decode cX10_read 25 = .ok (.lreturn, 1) := by decide +kernel
theorem dX10_copy_0 : decode cX10_copy 0 = .ok (.iload_n 1, 1) := by decide +kernel
theorem dX10_copy_1 : decode cX10_copy 1 = .ok (.invokestatic 93, 3) := by decide +kernel
theorem dX10_copy_4 : decode cX10_copy 4 = .ok (.ifCond .eq 10, 3) := by decide +kernel
theorem dX10_copy_7 : decode cX10_copy 7 = .ok (.iload_n 3, 1) := by decide +kernel
theorem dX10_copy_8 : decode cX10_copy 8 = .ok (.invokestatic 93, 3) := by decide +kernel
theorem dX10_copy_11 : decode cX10_copy 11 = .ok (.ifCond .ne 6, 3) := by decide +kernel
theorem dX10_copy_14 : decode cX10_copy 14 = .ok (.bipush (-2), 2) := by decide +kernel
theorem dX10_copy_16 : decode cX10_copy 16 = .ok (.ireturn, 1) := by decide +kernel
theorem dX10_copy_17 : decode cX10_copy 17 = .ok (.aload_n 0, 1) := by decide +kernel
theorem dX10_copy_18 : decode cX10_copy 18 = .ok (.getfield 44, 3) := by decide +kernel
theorem dX10_copy_21 : decode cX10_copy 21 = .ok (.iload_n 1, 1) := by decide +kernel
theorem dX10_copy_22 : decode cX10_copy 22 = .ok (.iaload, 1) := by decide +kernel
theorem dX10_copy_23 : decode cX10_copy 23 = .ok (.ifCond .eq 12, 3) := by decide +kernel
theorem dX10_copy_26 : decode cX10_copy 26 = .ok (.aload_n 0, 1) := by decide +kernel
theorem dX10_copy_27 : decode cX10_copy 27 = .ok (.getfield 44, 3) := by decide +kernel
theorem dX10_copy_30 : decode cX10_copy 30 = .ok (.iload_n 3, 1) := by decide +kernel
theorem dX10_copy_31 : decode cX10_copy 31 = .ok (.iaload, 1) := by decide +kernel
theorem dX10_copy_32 : decode cX10_copy 32 = .ok (.ifCond .ne 6, 3) := by decide +kernel
theorem dX10_copy_35 : decode cX10_copy 35 = .ok (.bipush (-5), 2) := by decide +kernel
theorem dX10_copy_37 : decode cX10_copy 37 = .ok (.ireturn, 1) := by decide +kernel
theorem dX10_copy_38 : decode cX10_copy 38 = .ok (.aload_n 0, 1) := by decide +kernel
theorem dX10_copy_39 : decode cX10_copy 39 = .ok (.getfield 47, 3) := by decide +kernel
theorem dX10_copy_42 : decode cX10_copy 42 = .ok (.iload_n 1, 1) := by decide +kernel
theorem dX10_copy_43 : decode cX10_copy 43 = .ok (.iaload, 1) := by decide +kernel
theorem dX10_copy_44 : decode cX10_copy 44 = .ok (.aload_n 0, 1) := by decide +kernel
theorem dX10_copy_45 : decode cX10_copy 45 = .ok (.getfield 47, 3) := by decide +kernel
theorem dX10_copy_48 : decode cX10_copy 48 = .ok (.iload_n 3, 1) := by decide +kernel
theorem dX10_copy_49 : decode cX10_copy 49 = .ok (.iaload, 1) := by decide +kernel
theorem dX10_copy_50 : decode cX10_copy 50 = .ok (.if_icmp .eq 6, 3) := by decide +kernel
theorem dX10_copy_53 : decode cX10_copy 53 = .ok (.bipush (-7), 2) := by decide +kernel
theorem dX10_copy_55 : decode cX10_copy 55 = .ok (.ireturn, 1) := by decide +kernel
theorem dX10_copy_56 : decode cX10_copy 56 = .ok (.iload_n 2, 1) := by decide +kernel
theorem dX10_copy_57 : decode cX10_copy 57 = .ok (.ifCond .lt 52, 3) := by decide +kernel
theorem dX10_copy_60 : decode cX10_copy 60 = .ok (.iload 4, 2) := by decide +kernel
theorem dX10_copy_62 : decode cX10_copy 62 = .ok (.ifCond .lt 47, 3) := by decide +kernel
theorem dX10_copy_65 : decode cX10_copy 65 = .ok (.iload 5, 2) := by decide +kernel
theorem dX10_copy_67 : decode cX10_copy 67 = .ok (.ifCond .lt 42, 3) := by decide +kernel
theorem dX10_copy_70 : decode cX10_copy 70 = .ok (.iload_n 2, 1) := by decide +kernel
theorem dX10_copy_71 : decode cX10_copy 71 = .ok (.i2l, 1) := by decide +kernel
theorem dX10_copy_72 : decode cX10_copy 72 = .ok (.iload 5, 2) := by decide +kernel
theorem dX10_copy_74 : decode cX10_copy 74 = .ok (.i2l, 1) := by decide +kernel
theorem dX10_copy_75 : decode cX10_copy 75 = .ok (.ladd, 1) := by decide +kernel
theorem dX10_copy_76 : decode cX10_copy 76 = .ok (.aload_n 0, 1) := by decide +kernel
theorem dX10_copy_77 : decode cX10_copy 77 = .ok (.getfield 44, 3) := by decide +kernel
theorem dX10_copy_80 : decode cX10_copy 80 = .ok (.iload_n 1, 1) := by decide +kernel
theorem dX10_copy_81 : decode cX10_copy 81 = .ok (.iaload, 1) := by decide +kernel
theorem dX10_copy_82 : decode cX10_copy 82 = .ok (.iconst 1, 1) := by decide +kernel
theorem dX10_copy_83 : decode cX10_copy 83 = .ok (.isub, 1) := by decide +kernel
theorem dX10_copy_84 : decode cX10_copy 84 = .ok (.i2l, 1) := by decide +kernel
theorem dX10_copy_85 : decode cX10_copy 85 = .ok (.lcmp, 1) := by decide +kernel
theorem dX10_copy_86 : decode cX10_copy 86 = .ok (.ifCond .gt 23, 3) := by decide +kernel
theorem dX10_copy_89 : decode cX10_copy 89 = .ok (.iload 4, 2) := by decide +kernel
theorem dX10_copy_91 : decode cX10_copy 91 = .ok (.i2l, 1) := by decide +kernel
theorem dX10_copy_92 : decode cX10_copy 92 = .ok (.iload 5, 2) := by decide +kernel
theorem dX10_copy_94 : decode cX10_copy 94 = .ok (.i2l, 1) := by decide +kernel
theorem dX10_copy_95 : decode cX10_copy 95 = .ok (.ladd, 1) := by decide +kernel
theorem dX10_copy_96 : decode cX10_copy 96 = .ok (.aload_n 0, 1) := by decide +kernel
theorem dX10_copy_97 : decode cX10_copy 97 = .ok (.getfield 44, 3) := by decide +kernel
theorem dX10_copy_100 : decode cX10_copy 100 = .ok (.iload_n 3, 1) := by decide +kernel
theorem dX10_copy_101 : decode cX10_copy 101 = .ok (.iaload, 1) := by decide +kernel
theorem dX10_copy_102 : decode cX10_copy 102 = .ok (.iconst 1, 1) := by decide +kernel
theorem dX10_copy_103 : decode cX10_copy 103 = .ok (.isub, 1) := by decide +kernel
theorem dX10_copy_104 : decode cX10_copy 104 = .ok (.i2l, 1) := by decide +kernel
theorem dX10_copy_105 : decode cX10_copy 105 = .ok (.lcmp, 1) := by decide +kernel
theorem dX10_copy_106 : decode cX10_copy 106 = .ok (.ifCond .le 6, 3) := by decide +kernel
theorem dX10_copy_109 : decode cX10_copy 109 = .ok (.bipush (-6), 2) := by decide +kernel
theorem dX10_copy_111 : decode cX10_copy 111 = .ok (.ireturn, 1) := by decide +kernel
theorem dX10_copy_112 : decode cX10_copy 112 = .ok (.iconst 0, 1) := by decide +kernel
theorem dX10_copy_113 : decode cX10_copy 113 = .ok (.istore 6, 2) := by decide +kernel
theorem dX10_copy_115 : decode cX10_copy 115 = .ok (.iload 6, 2) := by decide +kernel
theorem dX10_copy_117 : decode cX10_copy 117 = .ok (.iload 5, 2) := by decide +kernel
theorem dX10_copy_119 : decode cX10_copy 119 = .ok (.if_icmp .ge 31, 3) := by decide +kernel
theorem dX10_copy_122 : decode cX10_copy 122 = .ok (.aload_n 0, 1) := by decide +kernel
theorem dX10_copy_123 : decode cX10_copy 123 = .ok (.getfield 54, 3) := by decide +kernel
theorem dX10_copy_126 : decode cX10_copy 126 = .ok (.iload 6, 2) := by decide +kernel
theorem dX10_copy_128 : decode cX10_copy 128 = .ok (.aload_n 0, 1) := by decide +kernel
theorem dX10_copy_129 : decode cX10_copy 129 = .ok (.getfield 50, 3) := by decide +kernel
theorem dX10_copy_132 : decode cX10_copy 132 = .ok (.sipush 200, 3) := by decide +kernel
theorem dX10_copy_135 : decode cX10_copy 135 = .ok (.iload_n 1, 1) := by decide +kernel
theorem dX10_copy_136 : decode cX10_copy 136 = .ok (.imul, 1) := by decide +kernel
theorem dX10_copy_137 : decode cX10_copy 137 = .ok (.iload_n 2, 1) := by decide +kernel
theorem dX10_copy_138 : decode cX10_copy 138 = .ok (.iadd, 1) := by decide +kernel
theorem dX10_copy_139 : decode cX10_copy 139 = .ok (.iload 6, 2) := by decide +kernel
theorem dX10_copy_141 : decode cX10_copy 141 = .ok (.iadd, 1) := by decide +kernel
theorem dX10_copy_142 : decode cX10_copy 142 = .ok (.laload, 1) := by decide +kernel
theorem dX10_copy_143 : decode cX10_copy 143 = .ok (.lastore, 1) := by decide +kernel
theorem dX10_copy_144 : decode cX10_copy 144 = .ok (.iinc 6 1, 3) := by decide +kernel
theorem dX10_copy_147 : decode cX10_copy 147 = .ok (.goto (-32), 3) := by decide +kernel
theorem dX10_copy_150 : decode cX10_copy 150 = .ok (.iconst 0, 1) := by decide +kernel
theorem dX10_copy_151 : decode cX10_copy 151 = .ok (.istore 6, 2) := by decide +kernel
theorem dX10_copy_153 : decode cX10_copy 153 = .ok (.iload 6, 2) := by decide +kernel
theorem dX10_copy_155 : decode cX10_copy 155 = .ok (.iload 5, 2) := by decide +kernel
theorem dX10_copy_157 : decode cX10_copy 157 = .ok (.if_icmp .ge 32, 3) := by decide +kernel
theorem dX10_copy_160 : decode cX10_copy 160 = .ok (.aload_n 0, 1) := by decide +kernel
theorem dX10_copy_161 : decode cX10_copy 161 = .ok (.getfield 50, 3) := by decide +kernel
theorem dX10_copy_164 : decode cX10_copy 164 = .ok (.sipush 200, 3) := by decide +kernel
theorem dX10_copy_167 : decode cX10_copy 167 = .ok (.iload_n 3, 1) := by decide +kernel
theorem dX10_copy_168 : decode cX10_copy 168 = .ok (.imul, 1) := by decide +kernel
theorem dX10_copy_169 : decode cX10_copy 169 = .ok (.iload 4, 2) := by decide +kernel
theorem dX10_copy_171 : decode cX10_copy 171 = .ok (.iadd, 1) := by decide +kernel
theorem dX10_copy_172 : decode cX10_copy 172 = .ok (.iload 6, 2) := by decide +kernel
theorem dX10_copy_174 : decode cX10_copy 174 = .ok (.iadd, 1) := by decide +kernel
theorem dX10_copy_175 : decode cX10_copy 175 = .ok (.aload_n 0, 1) := by decide +kernel
theorem dX10_copy_176 : decode cX10_copy 176 = .ok (.getfield 54, 3) := by decide +kernel
theorem dX10_copy_179 : decode cX10_copy 179 = .ok (.iload 6, 2) := by decide +kernel
theorem dX10_copy_181 : decode cX10_copy 181 = .ok (.laload, 1) := by decide +kernel
theorem dX10_copy_182 : decode cX10_copy 182 = .ok (.lastore, 1) := by decide +kernel
theorem dX10_copy_183 : decode cX10_copy 183 = .ok (.iinc 6 1, 3) := by decide +kernel
theorem dX10_copy_186 : decode cX10_copy 186 = .ok (.goto (-33), 3) := by decide +kernel
theorem dX10_copy_189 : decode cX10_copy 189 = .ok (.iconst 0, 1) := by decide +kernel
theorem dX10_copy_190 : decode cX10_copy 190 = .ok (.ireturn, 1) := by decide +kernel
theorem dX10_bitsOf_0 : decode cX10_bitsOf 0 = .ok (.iconst 0, 1) := by decide +kernel
theorem dX10_bitsOf_1 : decode cX10_bitsOf 1 = .ok (.istore_n 1, 1) := by decide +kernel
theorem dX10_bitsOf_2 : decode cX10_bitsOf 2 = .ok (.iconst 0, 1) := by decide +kernel
theorem dX10_bitsOf_3 : decode cX10_bitsOf 3 = .ok (.istore_n 2, 1) := by decide +kernel
theorem dX10_bitsOf_4 : decode cX10_bitsOf 4 = .ok (.iload_n 2, 1) := by decide +kernel
theorem dX10_bitsOf_5 : decode cX10_bitsOf 5 = .ok (.bipush 12, 2) := by decide +kernel
theorem dX10_bitsOf_7 : decode cX10_bitsOf 7 = .ok (.if_icmp .ge 17, 3) := by decide +kernel
theorem dX10_bitsOf_10 : decode cX10_bitsOf 10 = .ok (.iload_n 1, 1) := by decide +kernel
theorem dX10_bitsOf_11 : decode cX10_bitsOf 11 = .ok (.iload_n 0, 1) := by decide +kernel
theorem dX10_bitsOf_12 : decode cX10_bitsOf 12 = .ok (.iload_n 2, 1) := by decide +kernel
theorem dX10_bitsOf_13 : decode cX10_bitsOf 13 = .ok (.ishr, 1) := by decide +kernel
theorem dX10_bitsOf_14 : decode cX10_bitsOf 14 = .ok (.iconst 1, 1) := by decide +kernel
theorem dX10_bitsOf_15 : decode cX10_bitsOf 15 = .ok (.iand, 1) := by decide +kernel
theorem dX10_bitsOf_16 : decode cX10_bitsOf 16 = .ok (.iadd, 1) := by decide +kernel
theorem dX10_bitsOf_17 : decode cX10_bitsOf 17 = .ok (.istore_n 1, 1) := by decide +kernel
theorem dX10_bitsOf_18 : decode cX10_bitsOf 18 = .ok (.iinc 2 1, 3) := by decide +kernel
theorem dX10_bitsOf_21 : decode cX10_bitsOf 21 = .ok (.goto (-17), 3) := by decide +kernel
theorem dX10_bitsOf_24 : decode cX10_bitsOf 24 = .ok (.iload_n 1, 1) := by decide +kernel
theorem dX10_bitsOf_25 : decode cX10_bitsOf 25 = .ok (.ireturn, 1) := by decide +kernel
theorem dX10_isAllowed_0 : decode cX10_isAllowed 0 = .ok (.aload_n 0, 1) := by decide +kernel
theorem dX10_isAllowed_1 : decode cX10_isAllowed 1 = .ok (.getfield 21, 3) := by decide +kernel
theorem dX10_isAllowed_4 : decode cX10_isAllowed 4 = .ok (.sipush 4096, 3) := by decide +kernel
theorem dX10_isAllowed_7 : decode cX10_isAllowed 7 = .ok (.iload_n 1, 1) := by decide +kernel
theorem dX10_isAllowed_8 : decode cX10_isAllowed 8 = .ok (.imul, 1) := by decide +kernel
theorem dX10_isAllowed_9 : decode cX10_isAllowed 9 = .ok (.iload_n 2, 1) := by decide +kernel
theorem dX10_isAllowed_10 : decode cX10_isAllowed 10 = .ok (.iadd, 1) := by decide +kernel
theorem dX10_isAllowed_11 : decode cX10_isAllowed 11 = .ok (.baload, 1) := by decide +kernel
theorem dX10_isAllowed_12 : decode cX10_isAllowed 12 = .ok (.ireturn, 1) := by decide +kernel
theorem dX10_rankOf_0 : decode cX10_rankOf 0 = .ok (.aload_n 0, 1) := by decide +kernel
theorem dX10_rankOf_1 : decode cX10_rankOf 1 = .ok (.getfield 25, 3) := by decide +kernel
theorem dX10_rankOf_4 : decode cX10_rankOf 4 = .ok (.sipush 4096, 3) := by decide +kernel
theorem dX10_rankOf_7 : decode cX10_rankOf 7 = .ok (.iload_n 1, 1) := by decide +kernel
theorem dX10_rankOf_8 : decode cX10_rankOf 8 = .ok (.imul, 1) := by decide +kernel
theorem dX10_rankOf_9 : decode cX10_rankOf 9 = .ok (.iload_n 2, 1) := by decide +kernel
theorem dX10_rankOf_10 : decode cX10_rankOf 10 = .ok (.iadd, 1) := by decide +kernel
theorem dX10_rankOf_11 : decode cX10_rankOf 11 = .ok (.baload, 1) := by decide +kernel
theorem dX10_rankOf_12 : decode cX10_rankOf 12 = .ok (.ireturn, 1) := by decide +kernel
theorem dX10_made_0 : decode cX10_made 0 = .ok (.aload_n 0, 1) := by decide +kernel
theorem dX10_made_1 : decode cX10_made 1 = .ok (.getfield 85, 3) := by decide +kernel
theorem dX10_made_4 : decode cX10_made 4 = .ok (.istore 5, 2) := by decide +kernel
theorem dX10_made_6 : decode cX10_made 6 = .ok (.iconst 0, 1) := by decide +kernel
theorem dX10_made_7 : decode cX10_made 7 = .ok (.istore 6, 2) := by decide +kernel
theorem dX10_made_9 : decode cX10_made 9 = .ok (.iload 6, 2) := by decide +kernel
theorem dX10_made_11 : decode cX10_made 11 = .ok (.aload_n 0, 1) := by decide +kernel
theorem dX10_made_12 : decode cX10_made 12 = .ok (.getfield 13, 3) := by decide +kernel
theorem dX10_made_15 : decode cX10_made 15 = .ok (.if_icmp .gt 99, 3) := by decide +kernel
theorem dX10_made_18 : decode cX10_made 18 = .ok (.aload_n 0, 1) := by decide +kernel
theorem dX10_made_19 : decode cX10_made 19 = .ok (.iload 5, 2) := by decide +kernel
theorem dX10_made_21 : decode cX10_made 21 = .ok (.iload 6, 2) := by decide +kernel
theorem dX10_made_23 : decode cX10_made 23 = .ok (.invokevirtual 100, 3) := by decide +kernel
theorem dX10_made_26 : decode cX10_made 26 = .ok (.ifCond .eq 11, 3) := by decide +kernel
theorem dX10_made_29 : decode cX10_made 29 = .ok (.iload 6, 2) := by decide +kernel
theorem dX10_made_31 : decode cX10_made 31 = .ok (.invokestatic 104, 3) := by decide +kernel
theorem dX10_made_34 : decode cX10_made 34 = .ok (.goto 4, 3) := by decide +kernel
theorem dX10_made_37 : decode cX10_made 37 = .ok (.iconst 0, 1) := by decide +kernel
theorem dX10_made_38 : decode cX10_made 38 = .ok (.istore 7, 2) := by decide +kernel
theorem dX10_made_40 : decode cX10_made 40 = .ok (.iconst 0, 1) := by decide +kernel
theorem dX10_made_41 : decode cX10_made 41 = .ok (.istore 8, 2) := by decide +kernel
theorem dX10_made_43 : decode cX10_made 43 = .ok (.iload 8, 2) := by decide +kernel
theorem dX10_made_45 : decode cX10_made 45 = .ok (.aload_n 0, 1) := by decide +kernel
theorem dX10_made_46 : decode cX10_made 46 = .ok (.getfield 7, 3) := by decide +kernel
theorem dX10_made_49 : decode cX10_made 49 = .ok (.if_icmp .ge 42, 3) := by decide +kernel
theorem dX10_made_52 : decode cX10_made 52 = .ok (.iload 6, 2) := by decide +kernel
theorem dX10_made_54 : decode cX10_made 54 = .ok (.iload 8, 2) := by decide +kernel
end
section
theorem dX10_made_56 : decode cX10_made 56 = .ok (.ishr, 1) := by decide +kernel
theorem dX10_made_57 : decode cX10_made 57 = .ok (.iconst 1, 1) := by decide +kernel
theorem dX10_made_58 : decode cX10_made 58 = .ok (.iand, 1) := by decide +kernel
theorem dX10_made_59 : decode cX10_made 59 = .ok (.iconst 1, 1) := by decide +kernel
theorem dX10_made_60 : decode cX10_made 60 = .ok (.if_icmp .ne 25, 3) := by decide +kernel
theorem dX10_made_63 : decode cX10_made 63 = .ok (.iload 7, 2) := by decide +kernel
theorem dX10_made_65 : decode cX10_made 65 = .ok (.aload_n 0, 1) := by decide +kernel
theorem dX10_made_66 : decode cX10_made 66 = .ok (.iload 5, 2) := by decide +kernel
theorem dX10_made_68 : decode cX10_made 68 = .ok (.iload 6, 2) := by decide +kernel
theorem dX10_made_70 : decode cX10_made 70 = .ok (.iconst 1, 1) := by decide +kernel
theorem dX10_made_71 : decode cX10_made 71 = .ok (.iload 8, 2) := by decide +kernel
theorem dX10_made_73 : decode cX10_made 73 = .ok (.ishl, 1) := by decide +kernel
theorem dX10_made_74 : decode cX10_made 74 = .ok (.iconst (-1), 1) := by decide +kernel
theorem dX10_made_75 : decode cX10_made 75 = .ok (.ixor, 1) := by decide +kernel
theorem dX10_made_76 : decode cX10_made 76 = .ok (.iand, 1) := by decide +kernel
theorem dX10_made_77 : decode cX10_made 77 = .ok (.invokevirtual 108, 3) := by decide +kernel
theorem dX10_made_80 : decode cX10_made 80 = .ok (.invokestatic 111, 3) := by decide +kernel
theorem dX10_made_83 : decode cX10_made 83 = .ok (.istore 7, 2) := by decide +kernel
theorem dX10_made_85 : decode cX10_made 85 = .ok (.iinc 8 1, 3) := by decide +kernel
theorem dX10_made_88 : decode cX10_made 88 = .ok (.goto (-45), 3) := by decide +kernel
theorem dX10_made_91 : decode cX10_made 91 = .ok (.aload_n 0, 1) := by decide +kernel
theorem dX10_made_92 : decode cX10_made 92 = .ok (.getfield 25, 3) := by decide +kernel
theorem dX10_made_95 : decode cX10_made 95 = .ok (.sipush 4096, 3) := by decide +kernel
theorem dX10_made_98 : decode cX10_made 98 = .ok (.iload 5, 2) := by decide +kernel
theorem dX10_made_100 : decode cX10_made 100 = .ok (.imul, 1) := by decide +kernel
theorem dX10_made_101 : decode cX10_made 101 = .ok (.iload 6, 2) := by decide +kernel
theorem dX10_made_103 : decode cX10_made 103 = .ok (.iadd, 1) := by decide +kernel
theorem dX10_made_104 : decode cX10_made 104 = .ok (.iload 7, 2) := by decide +kernel
theorem dX10_made_106 : decode cX10_made 106 = .ok (.i2b, 1) := by decide +kernel
theorem dX10_made_107 : decode cX10_made 107 = .ok (.bastore, 1) := by decide +kernel
theorem dX10_made_108 : decode cX10_made 108 = .ok (.iinc 6 1, 3) := by decide +kernel
theorem dX10_made_111 : decode cX10_made 111 = .ok (.goto (-102), 3) := by decide +kernel
theorem dX10_made_114 : decode cX10_made 114 = .ok (.aload_n 0, 1) := by decide +kernel
theorem dX10_made_115 : decode cX10_made 115 = .ok (.getfield 29, 3) := by decide +kernel
theorem dX10_made_118 : decode cX10_made 118 = .ok (.iload 5, 2) := by decide +kernel
theorem dX10_made_120 : decode cX10_made 120 = .ok (.iload_n 1, 1) := by decide +kernel
theorem dX10_made_121 : decode cX10_made 121 = .ok (.iastore, 1) := by decide +kernel
theorem dX10_made_122 : decode cX10_made 122 = .ok (.aload_n 0, 1) := by decide +kernel
theorem dX10_made_123 : decode cX10_made 123 = .ok (.getfield 32, 3) := by decide +kernel
theorem dX10_made_126 : decode cX10_made 126 = .ok (.iload 5, 2) := by decide +kernel
theorem dX10_made_128 : decode cX10_made 128 = .ok (.iload_n 2, 1) := by decide +kernel
theorem dX10_made_129 : decode cX10_made 129 = .ok (.iastore, 1) := by decide +kernel
theorem dX10_made_130 : decode cX10_made 130 = .ok (.aload_n 0, 1) := by decide +kernel
theorem dX10_made_131 : decode cX10_made 131 = .ok (.getfield 35, 3) := by decide +kernel
theorem dX10_made_134 : decode cX10_made 134 = .ok (.iload 5, 2) := by decide +kernel
theorem dX10_made_136 : decode cX10_made 136 = .ok (.iload_n 3, 1) := by decide +kernel
theorem dX10_made_137 : decode cX10_made 137 = .ok (.iastore, 1) := by decide +kernel
theorem dX10_made_138 : decode cX10_made 138 = .ok (.aload_n 0, 1) := by decide +kernel
theorem dX10_made_139 : decode cX10_made 139 = .ok (.getfield 38, 3) := by decide +kernel
theorem dX10_made_142 : decode cX10_made 142 = .ok (.iload 5, 2) := by decide +kernel
theorem dX10_made_144 : decode cX10_made 144 = .ok (.iload 4, 2) := by decide +kernel
theorem dX10_made_146 : decode cX10_made 146 = .ok (.iastore, 1) := by decide +kernel
theorem dX10_made_147 : decode cX10_made 147 = .ok (.aload_n 0, 1) := by decide +kernel
theorem dX10_made_148 : decode cX10_made 148 = .ok (.dup, 1) := by decide +kernel
theorem dX10_made_149 : decode cX10_made 149 = .ok (.getfield 85, 3) := by decide +kernel
theorem dX10_made_152 : decode cX10_made 152 = .ok (.iconst 1, 1) := by decide +kernel
theorem dX10_made_153 : decode cX10_made 153 = .ok (.iadd, 1) := by decide +kernel
theorem dX10_made_154 : decode cX10_made 154 = .ok (.putfield 85, 3) := by decide +kernel
theorem dX10_made_157 : decode cX10_made 157 = .ok (.iload 5, 2) := by decide +kernel
theorem dX10_made_159 : decode cX10_made 159 = .ok (.ireturn, 1) := by decide +kernel
theorem dX10_next_0 : decode cX10_next 0 = .ok (.aload_n 0, 1) := by decide +kernel
theorem dX10_next_1 : decode cX10_next 1 = .ok (.getfield 116, 3) := by decide +kernel
theorem dX10_next_4 : decode cX10_next 4 = .ok (.ifCond .eq 5, 3) := by decide +kernel
theorem dX10_next_7 : decode cX10_next 7 = .ok (.iconst 0, 1) := by decide +kernel
theorem dX10_next_8 : decode cX10_next 8 = .ok (.ireturn, 1) := by decide +kernel
theorem dX10_next_9 : decode cX10_next 9 = .ok (.aload_n 0, 1) := by decide +kernel
theorem dX10_next_10 : decode cX10_next 10 = .ok (.getfield 119, 3) := by decide +kernel
theorem dX10_next_13 : decode cX10_next 13 = .ok (.aload_n 0, 1) := by decide +kernel
theorem dX10_next_14 : decode cX10_next 14 = .ok (.getfield 44, 3) := by decide +kernel
theorem dX10_next_17 : decode cX10_next 17 = .ok (.aload_n 0, 1) := by decide +kernel
theorem dX10_next_18 : decode cX10_next 18 = .ok (.getfield 122, 3) := by decide +kernel
theorem dX10_next_21 : decode cX10_next 21 = .ok (.iaload, 1) := by decide +kernel
theorem dX10_next_22 : decode cX10_next 22 = .ok (.iconst 1, 1) := by decide +kernel
theorem dX10_next_23 : decode cX10_next 23 = .ok (.isub, 1) := by decide +kernel
theorem dX10_next_24 : decode cX10_next 24 = .ok (.if_icmp .lt 11, 3) := by decide +kernel
theorem dX10_next_27 : decode cX10_next 27 = .ok (.aload_n 0, 1) := by decide +kernel
theorem dX10_next_28 : decode cX10_next 28 = .ok (.bipush (-6), 2) := by decide +kernel
theorem dX10_next_30 : decode cX10_next 30 = .ok (.putfield 116, 3) := by decide +kernel
theorem dX10_next_33 : decode cX10_next 33 = .ok (.iconst 0, 1) := by decide +kernel
theorem dX10_next_34 : decode cX10_next 34 = .ok (.ireturn, 1) := by decide +kernel
theorem dX10_next_35 : decode cX10_next 35 = .ok (.aload_n 0, 1) := by decide +kernel
theorem dX10_next_36 : decode cX10_next 36 = .ok (.getfield 50, 3) := by decide +kernel
theorem dX10_next_39 : decode cX10_next 39 = .ok (.sipush 200, 3) := by decide +kernel
theorem dX10_next_42 : decode cX10_next 42 = .ok (.aload_n 0, 1) := by decide +kernel
theorem dX10_next_43 : decode cX10_next 43 = .ok (.getfield 122, 3) := by decide +kernel
theorem dX10_next_46 : decode cX10_next 46 = .ok (.imul, 1) := by decide +kernel
theorem dX10_next_47 : decode cX10_next 47 = .ok (.aload_n 0, 1) := by decide +kernel
theorem dX10_next_48 : decode cX10_next 48 = .ok (.getfield 119, 3) := by decide +kernel
theorem dX10_next_51 : decode cX10_next 51 = .ok (.iadd, 1) := by decide +kernel
theorem dX10_next_52 : decode cX10_next 52 = .ok (.laload, 1) := by decide +kernel
theorem dX10_next_53 : decode cX10_next 53 = .ok (.lstore 5, 2) := by decide +kernel
theorem dX10_next_55 : decode cX10_next 55 = .ok (.aload_n 0, 1) := by decide +kernel
theorem dX10_next_56 : decode cX10_next 56 = .ok (.dup, 1) := by decide +kernel
theorem dX10_next_57 : decode cX10_next 57 = .ok (.getfield 119, 3) := by decide +kernel
theorem dX10_next_60 : decode cX10_next 60 = .ok (.iconst 1, 1) := by decide +kernel
theorem dX10_next_61 : decode cX10_next 61 = .ok (.iadd, 1) := by decide +kernel
theorem dX10_next_62 : decode cX10_next 62 = .ok (.putfield 119, 3) := by decide +kernel
theorem dX10_next_65 : decode cX10_next 65 = .ok (.lload 5, 2) := by decide +kernel
theorem dX10_next_67 : decode cX10_next 67 = .ok (.lload_n 1, 1) := by decide +kernel
theorem dX10_next_68 : decode cX10_next 68 = .ok (.lcmp, 1) := by decide +kernel
theorem dX10_next_69 : decode cX10_next 69 = .ok (.ifCond .lt 10, 3) := by decide +kernel
theorem dX10_next_72 : decode cX10_next 72 = .ok (.lload 5, 2) := by decide +kernel
theorem dX10_next_74 : decode cX10_next 74 = .ok (.lload_n 3, 1) := by decide +kernel
theorem dX10_next_75 : decode cX10_next 75 = .ok (.lcmp, 1) := by decide +kernel
theorem dX10_next_76 : decode cX10_next 76 = .ok (.ifCond .le 11, 3) := by decide +kernel
theorem dX10_next_79 : decode cX10_next 79 = .ok (.aload_n 0, 1) := by decide +kernel
theorem dX10_next_80 : decode cX10_next 80 = .ok (.bipush (-4), 2) := by decide +kernel
theorem dX10_next_82 : decode cX10_next 82 = .ok (.putfield 116, 3) := by decide +kernel
theorem dX10_next_85 : decode cX10_next 85 = .ok (.iconst 0, 1) := by decide +kernel
theorem dX10_next_86 : decode cX10_next 86 = .ok (.ireturn, 1) := by decide +kernel
theorem dX10_next_87 : decode cX10_next 87 = .ok (.lload 5, 2) := by decide +kernel
theorem dX10_next_89 : decode cX10_next 89 = .ok (.l2i, 1) := by decide +kernel
theorem dX10_next_90 : decode cX10_next 90 = .ok (.ireturn, 1) := by decide +kernel
theorem dX10_rule_0 : decode cX10_rule 0 = .ok (.iload_n 2, 1) := by decide +kernel
theorem dX10_rule_1 : decode cX10_rule 1 = .ok (.invokestatic 93, 3) := by decide +kernel
theorem dX10_rule_4 : decode cX10_rule 4 = .ok (.ifCond .eq 13, 3) := by decide +kernel
theorem dX10_rule_7 : decode cX10_rule 7 = .ok (.iload_n 1, 1) := by decide +kernel
theorem dX10_rule_8 : decode cX10_rule 8 = .ok (.ifCond .lt 9, 3) := by decide +kernel
theorem dX10_rule_11 : decode cX10_rule 11 = .ok (.iload_n 1, 1) := by decide +kernel
theorem dX10_rule_12 : decode cX10_rule 12 = .ok (.bipush 6, 2) := by decide +kernel
theorem dX10_rule_14 : decode cX10_rule 14 = .ok (.if_icmp .le 6, 3) := by decide +kernel
theorem dX10_rule_17 : decode cX10_rule 17 = .ok (.bipush (-2), 2) := by decide +kernel
theorem dX10_rule_19 : decode cX10_rule 19 = .ok (.ireturn, 1) := by decide +kernel
theorem dX10_rule_20 : decode cX10_rule 20 = .ok (.aload_n 0, 1) := by decide +kernel
theorem dX10_rule_21 : decode cX10_rule 21 = .ok (.getfield 85, 3) := by decide +kernel
theorem dX10_rule_24 : decode cX10_rule 24 = .ok (.bipush 24, 2) := by decide +kernel
theorem dX10_rule_26 : decode cX10_rule 26 = .ok (.if_icmp .ne 6, 3) := by decide +kernel
theorem dX10_rule_29 : decode cX10_rule 29 = .ok (.bipush (-8), 2) := by decide +kernel
theorem dX10_rule_31 : decode cX10_rule 31 = .ok (.ireturn, 1) := by decide +kernel
theorem dX10_rule_32 : decode cX10_rule 32 = .ok (.aload_n 0, 1) := by decide +kernel
theorem dX10_rule_33 : decode cX10_rule 33 = .ok (.getfield 44, 3) := by decide +kernel
theorem dX10_rule_36 : decode cX10_rule 36 = .ok (.iload_n 2, 1) := by decide +kernel
theorem dX10_rule_37 : decode cX10_rule 37 = .ok (.iaload, 1) := by decide +kernel
theorem dX10_rule_38 : decode cX10_rule 38 = .ok (.ifCond .ne 6, 3) := by decide +kernel
theorem dX10_rule_41 : decode cX10_rule 41 = .ok (.bipush (-5), 2) := by decide +kernel
theorem dX10_rule_43 : decode cX10_rule 43 = .ok (.ireturn, 1) := by decide +kernel
theorem dX10_rule_44 : decode cX10_rule 44 = .ok (.aload_n 0, 1) := by decide +kernel
theorem dX10_rule_45 : decode cX10_rule 45 = .ok (.iload_n 2, 1) := by decide +kernel
theorem dX10_rule_46 : decode cX10_rule 46 = .ok (.putfield 122, 3) := by decide +kernel
theorem dX10_rule_49 : decode cX10_rule 49 = .ok (.aload_n 0, 1) := by decide +kernel
theorem dX10_rule_50 : decode cX10_rule 50 = .ok (.iconst 0, 1) := by decide +kernel
theorem dX10_rule_51 : decode cX10_rule 51 = .ok (.putfield 119, 3) := by decide +kernel
theorem dX10_rule_54 : decode cX10_rule 54 = .ok (.aload_n 0, 1) := by decide +kernel
theorem dX10_rule_55 : decode cX10_rule 55 = .ok (.iconst 0, 1) := by decide +kernel
theorem dX10_rule_56 : decode cX10_rule 56 = .ok (.putfield 116, 3) := by decide +kernel
theorem dX10_rule_59 : decode cX10_rule 59 = .ok (.iconst 0, 1) := by decide +kernel
theorem dX10_rule_60 : decode cX10_rule 60 = .ok (.istore_n 3, 1) := by decide +kernel
theorem dX10_rule_61 : decode cX10_rule 61 = .ok (.iload_n 3, 1) := by decide +kernel
theorem dX10_rule_62 : decode cX10_rule 62 = .ok (.aload_n 0, 1) := by decide +kernel
theorem dX10_rule_63 : decode cX10_rule 63 = .ok (.getfield 13, 3) := by decide +kernel
theorem dX10_rule_66 : decode cX10_rule 66 = .ok (.if_icmp .gt 25, 3) := by decide +kernel
theorem dX10_rule_69 : decode cX10_rule 69 = .ok (.aload_n 0, 1) := by decide +kernel
theorem dX10_rule_70 : decode cX10_rule 70 = .ok (.getfield 21, 3) := by decide +kernel
theorem dX10_rule_73 : decode cX10_rule 73 = .ok (.sipush 4096, 3) := by decide +kernel
theorem dX10_rule_76 : decode cX10_rule 76 = .ok (.aload_n 0, 1) := by decide +kernel
theorem dX10_rule_77 : decode cX10_rule 77 = .ok (.getfield 85, 3) := by decide +kernel
theorem dX10_rule_80 : decode cX10_rule 80 = .ok (.imul, 1) := by decide +kernel
theorem dX10_rule_81 : decode cX10_rule 81 = .ok (.iload_n 3, 1) := by decide +kernel
theorem dX10_rule_82 : decode cX10_rule 82 = .ok (.iadd, 1) := by decide +kernel
theorem dX10_rule_83 : decode cX10_rule 83 = .ok (.iconst 0, 1) := by decide +kernel
theorem dX10_rule_84 : decode cX10_rule 84 = .ok (.bastore, 1) := by decide +kernel
theorem dX10_rule_85 : decode cX10_rule 85 = .ok (.iinc 3 1, 3) := by decide +kernel
theorem dX10_rule_88 : decode cX10_rule 88 = .ok (.goto (-27), 3) := by decide +kernel
theorem dX10_rule_91 : decode cX10_rule 91 = .ok (.iload_n 1, 1) := by decide +kernel
theorem dX10_rule_92 : decode cX10_rule 92 = .ok (.tableswitch 82 0 5 #[40, 47, 54, 61, 68, 75], 40) := by decide +kernel
theorem dX10_rule_132 : decode cX10_rule 132 = .ok (.aload_n 0, 1) := by decide +kernel
theorem dX10_rule_133 : decode cX10_rule 133 = .ok (.invokevirtual 125, 3) := by decide +kernel
theorem dX10_rule_136 : decode cX10_rule 136 = .ok (.goto 42, 3) := by decide +kernel
theorem dX10_rule_139 : decode cX10_rule 139 = .ok (.aload_n 0, 1) := by decide +kernel
theorem dX10_rule_140 : decode cX10_rule 140 = .ok (.invokevirtual 128, 3) := by decide +kernel
theorem dX10_rule_143 : decode cX10_rule 143 = .ok (.goto 35, 3) := by decide +kernel
theorem dX10_rule_146 : decode cX10_rule 146 = .ok (.aload_n 0, 1) := by decide +kernel
theorem dX10_rule_147 : decode cX10_rule 147 = .ok (.invokevirtual 131, 3) := by decide +kernel
theorem dX10_rule_150 : decode cX10_rule 150 = .ok (.goto 28, 3) := by decide +kernel
theorem dX10_rule_153 : decode cX10_rule 153 = .ok (.aload_n 0, 1) := by decide +kernel
theorem dX10_rule_154 : decode cX10_rule 154 = .ok (.invokevirtual 134, 3) := by decide +kernel
theorem dX10_rule_157 : decode cX10_rule 157 = .ok (.goto 21, 3) := by decide +kernel
theorem dX10_rule_160 : decode cX10_rule 160 = .ok (.aload_n 0, 1) := by decide +kernel
theorem dX10_rule_161 : decode cX10_rule 161 = .ok (.invokevirtual 137, 3) := by decide +kernel
theorem dX10_rule_164 : decode cX10_rule 164 = .ok (.goto 14, 3) := by decide +kernel
theorem dX10_rule_167 : decode cX10_rule 167 = .ok (.aload_n 0, 1) := by decide +kernel
theorem dX10_rule_168 : decode cX10_rule 168 = .ok (.invokevirtual 140, 3) := by decide +kernel
theorem dX10_rule_171 : decode cX10_rule 171 = .ok (.goto 7, 3) := by decide +kernel
theorem dX10_rule_174 : decode cX10_rule 174 = .ok (.aload_n 0, 1) := by decide +kernel
theorem dX10_rule_175 : decode cX10_rule 175 = .ok (.invokevirtual 143, 3) := by decide +kernel
theorem dX10_rule_178 : decode cX10_rule 178 = .ok (.aload_n 0, 1) := by decide +kernel
theorem dX10_rule_179 : decode cX10_rule 179 = .ok (.getfield 116, 3) := by decide +kernel
theorem dX10_rule_182 : decode cX10_rule 182 = .ok (.ifCond .eq 10, 3) := by decide +kernel
theorem dX10_rule_185 : decode cX10_rule 185 = .ok (.aload_n 0, 1) := by decide +kernel
theorem dX10_rule_186 : decode cX10_rule 186 = .ok (.getfield 116, 3) := by decide +kernel
theorem dX10_rule_189 : decode cX10_rule 189 = .ok (.goto 11, 3) := by decide +kernel
theorem dX10_rule_192 : decode cX10_rule 192 = .ok (.aload_n 0, 1) := by decide +kernel
theorem dX10_rule_193 : decode cX10_rule 193 = .ok (.iload_n 1, 1) := by decide +kernel
theorem dX10_rule_194 : decode cX10_rule 194 = .ok (.iconst (-1), 1) := by decide +kernel
theorem dX10_rule_195 : decode cX10_rule 195 = .ok (.iconst (-1), 1) := by decide +kernel
theorem dX10_rule_196 : decode cX10_rule 196 = .ok (.iconst 1, 1) := by decide +kernel
theorem dX10_rule_197 : decode cX10_rule 197 = .ok (.invokevirtual 146, 3) := by decide +kernel
theorem dX10_rule_200 : decode cX10_rule 200 = .ok (.ireturn, 1) := by decide +kernel
theorem dX10_allow_0 : decode cX10_allow 0 = .ok (.aload_n 0, 1) := by decide +kernel
theorem dX10_allow_1 : decode cX10_allow 1 = .ok (.getfield 21, 3) := by decide +kernel
theorem dX10_allow_4 : decode cX10_allow 4 = .ok (.sipush 4096, 3) := by decide +kernel
theorem dX10_allow_7 : decode cX10_allow 7 = .ok (.aload_n 0, 1) := by decide +kernel
theorem dX10_allow_8 : decode cX10_allow 8 = .ok (.getfield 85, 3) := by decide +kernel
theorem dX10_allow_11 : decode cX10_allow 11 = .ok (.imul, 1) := by decide +kernel
theorem dX10_allow_12 : decode cX10_allow 12 = .ok (.iload_n 1, 1) := by decide +kernel
theorem dX10_allow_13 : decode cX10_allow 13 = .ok (.iadd, 1) := by decide +kernel
theorem dX10_allow_14 : decode cX10_allow 14 = .ok (.iconst 1, 1) := by decide +kernel
theorem dX10_allow_15 : decode cX10_allow 15 = .ok (.bastore, 1) := by decide +kernel
theorem dX10_allow_16 : decode cX10_allow 16 = .ok (.return_, 1) := by decide +kernel
theorem dX10_readsTold_0 : decode cX10_readsTold 0 = .ok (.aload_n 0, 1) := by decide +kernel
theorem dX10_readsTold_1 : decode cX10_readsTold 1 = .ok (.lconst 0, 1) := by decide +kernel
theorem dX10_readsTold_2 : decode cX10_readsTold 2 = .ok (.ldc2_w 150, 3) := by decide +kernel
theorem dX10_readsTold_5 : decode cX10_readsTold 5 = .ok (.invokevirtual 152, 3) := by decide +kernel
theorem dX10_readsTold_8 : decode cX10_readsTold 8 = .ok (.istore_n 1, 1) := by decide +kernel
theorem dX10_readsTold_9 : decode cX10_readsTold 9 = .ok (.iconst 0, 1) := by decide +kernel
theorem dX10_readsTold_10 : decode cX10_readsTold 10 = .ok (.istore_n 2, 1) := by decide +kernel
theorem dX10_readsTold_11 : decode cX10_readsTold 11 = .ok (.iload_n 2, 1) := by decide +kernel
theorem dX10_readsTold_12 : decode cX10_readsTold 12 = .ok (.iload_n 1, 1) := by decide +kernel
theorem dX10_readsTold_13 : decode cX10_readsTold 13 = .ok (.if_icmp .ge 39, 3) := by decide +kernel
theorem dX10_readsTold_16 : decode cX10_readsTold 16 = .ok (.aload_n 0, 1) := by decide +kernel
theorem dX10_readsTold_17 : decode cX10_readsTold 17 = .ok (.getfield 116, 3) := by decide +kernel
theorem dX10_readsTold_20 : decode cX10_readsTold 20 = .ok (.ifCond .ne 32, 3) := by decide +kernel
theorem dX10_readsTold_23 : decode cX10_readsTold 23 = .ok (.aload_n 0, 1) := by decide +kernel
theorem dX10_readsTold_24 : decode cX10_readsTold 24 = .ok (.lconst 0, 1) := by decide +kernel
theorem dX10_readsTold_25 : decode cX10_readsTold 25 = .ok (.aload_n 0, 1) := by decide +kernel
theorem dX10_readsTold_26 : decode cX10_readsTold 26 = .ok (.getfield 13, 3) := by decide +kernel
theorem dX10_readsTold_29 : decode cX10_readsTold 29 = .ok (.i2l, 1) := by decide +kernel
theorem dX10_readsTold_30 : decode cX10_readsTold 30 = .ok (.invokevirtual 152, 3) := by decide +kernel
theorem dX10_readsTold_33 : decode cX10_readsTold 33 = .ok (.istore_n 3, 1) := by decide +kernel
theorem dX10_readsTold_34 : decode cX10_readsTold 34 = .ok (.aload_n 0, 1) := by decide +kernel
theorem dX10_readsTold_35 : decode cX10_readsTold 35 = .ok (.getfield 116, 3) := by decide +kernel
theorem dX10_readsTold_38 : decode cX10_readsTold 38 = .ok (.ifCond .ne 8, 3) := by decide +kernel
theorem dX10_readsTold_41 : decode cX10_readsTold 41 = .ok (.aload_n 0, 1) := by decide +kernel
theorem dX10_readsTold_42 : decode cX10_readsTold 42 = .ok (.iload_n 3, 1) := by decide +kernel
theorem dX10_readsTold_43 : decode cX10_readsTold 43 = .ok (.invokevirtual 156, 3) := by decide +kernel
theorem dX10_readsTold_46 : decode cX10_readsTold 46 = .ok (.iinc 2 1, 3) := by decide +kernel
theorem dX10_readsTold_49 : decode cX10_readsTold 49 = .ok (.goto (-38), 3) := by decide +kernel
theorem dX10_readsTold_52 : decode cX10_readsTold 52 = .ok (.aload_n 0, 1) := by decide +kernel
theorem dX10_readsTold_53 : decode cX10_readsTold 53 = .ok (.getfield 116, 3) := by decide +kernel
theorem dX10_readsTold_56 : decode cX10_readsTold 56 = .ok (.ifCond .ne 16, 3) := by decide +kernel
theorem dX10_readsTold_59 : decode cX10_readsTold 59 = .ok (.aload_n 0, 1) := by decide +kernel
theorem dX10_readsTold_60 : decode cX10_readsTold 60 = .ok (.invokevirtual 159, 3) := by decide +kernel
theorem dX10_readsTold_63 : decode cX10_readsTold 63 = .ok (.ifCond .eq 9, 3) := by decide +kernel
theorem dX10_readsTold_66 : decode cX10_readsTold 66 = .ok (.aload_n 0, 1) := by decide +kernel
theorem dX10_readsTold_67 : decode cX10_readsTold 67 = .ok (.bipush (-9), 2) := by decide +kernel
theorem dX10_readsTold_69 : decode cX10_readsTold 69 = .ok (.putfield 116, 3) := by decide +kernel
theorem dX10_readsTold_72 : decode cX10_readsTold 72 = .ok (.return_, 1) := by decide +kernel
theorem dX10_breaks_0 : decode cX10_breaks 0 = .ok (.aload_n 0, 1) := by decide +kernel
theorem dX10_breaks_1 : decode cX10_breaks 1 = .ok (.getfield 41, 3) := by decide +kernel
theorem dX10_breaks_4 : decode cX10_breaks 4 = .ok (.iconst 0, 1) := by decide +kernel
theorem dX10_breaks_5 : decode cX10_breaks 5 = .ok (.iload_n 1, 1) := by decide +kernel
theorem dX10_breaks_6 : decode cX10_breaks 6 = .ok (.iastore, 1) := by decide +kernel
theorem dX10_breaks_7 : decode cX10_breaks 7 = .ok (.aload_n 0, 1) := by decide +kernel
theorem dX10_breaks_8 : decode cX10_breaks 8 = .ok (.getfield 41, 3) := by decide +kernel
theorem dX10_breaks_11 : decode cX10_breaks 11 = .ok (.iconst 1, 1) := by decide +kernel
theorem dX10_breaks_12 : decode cX10_breaks 12 = .ok (.iload_n 2, 1) := by decide +kernel
theorem dX10_breaks_13 : decode cX10_breaks 13 = .ok (.iastore, 1) := by decide +kernel
theorem dX10_breaks_14 : decode cX10_breaks 14 = .ok (.aload_n 0, 1) := by decide +kernel
theorem dX10_breaks_15 : decode cX10_breaks 15 = .ok (.getfield 41, 3) := by decide +kernel
theorem dX10_breaks_18 : decode cX10_breaks 18 = .ok (.iconst 2, 1) := by decide +kernel
theorem dX10_breaks_19 : decode cX10_breaks 19 = .ok (.iload_n 3, 1) := by decide +kernel
theorem dX10_breaks_20 : decode cX10_breaks 20 = .ok (.iastore, 1) := by decide +kernel
theorem dX10_breaks_21 : decode cX10_breaks 21 = .ok (.iconst 1, 1) := by decide +kernel
theorem dX10_breaks_22 : decode cX10_breaks 22 = .ok (.ireturn, 1) := by decide +kernel
theorem dX10_breaks__0 : decode cX10_breaks_ 0 = .ok (.aload_n 0, 1) := by decide +kernel
theorem dX10_breaks__1 : decode cX10_breaks_ 1 = .ok (.getfield 85, 3) := by decide +kernel
theorem dX10_breaks__4 : decode cX10_breaks_ 4 = .ok (.istore_n 1, 1) := by decide +kernel
theorem dX10_breaks__5 : decode cX10_breaks_ 5 = .ok (.aload_n 0, 1) := by decide +kernel
theorem dX10_breaks__6 : decode cX10_breaks_ 6 = .ok (.iload_n 1, 1) := by decide +kernel
theorem dX10_breaks__7 : decode cX10_breaks_ 7 = .ok (.iconst 0, 1) := by decide +kernel
theorem dX10_breaks__8 : decode cX10_breaks_ 8 = .ok (.invokevirtual 100, 3) := by decide +kernel
theorem dX10_breaks__11 : decode cX10_breaks_ 11 = .ok (.ifCond .ne 11, 3) := by decide +kernel
theorem dX10_breaks__14 : decode cX10_breaks_ 14 = .ok (.aload_n 0, 1) := by decide +kernel
theorem dX10_breaks__15 : decode cX10_breaks_ 15 = .ok (.iconst 1, 1) := by decide +kernel
theorem dX10_breaks__16 : decode cX10_breaks_ 16 = .ok (.iconst 0, 1) := by decide +kernel
theorem dX10_breaks__17 : decode cX10_breaks_ 17 = .ok (.iconst 0, 1) := by decide +kernel
theorem dX10_breaks__18 : decode cX10_breaks_ 18 = .ok (.invokevirtual 163, 3) := by decide +kernel
theorem dX10_breaks__21 : decode cX10_breaks_ 21 = .ok (.ireturn, 1) := by decide +kernel
theorem dX10_breaks__22 : decode cX10_breaks_ 22 = .ok (.iconst 0, 1) := by decide +kernel
theorem dX10_breaks__23 : decode cX10_breaks_ 23 = .ok (.istore_n 2, 1) := by decide +kernel
theorem dX10_breaks__24 : decode cX10_breaks_ 24 = .ok (.iload_n 2, 1) := by decide +kernel
theorem dX10_breaks__25 : decode cX10_breaks_ 25 = .ok (.aload_n 0, 1) := by decide +kernel
theorem dX10_breaks__26 : decode cX10_breaks_ 26 = .ok (.getfield 13, 3) := by decide +kernel
theorem dX10_breaks__29 : decode cX10_breaks_ 29 = .ok (.if_icmp .gt 56, 3) := by decide +kernel
theorem dX10_breaks__32 : decode cX10_breaks_ 32 = .ok (.iconst 0, 1) := by decide +kernel
theorem dX10_breaks__33 : decode cX10_breaks_ 33 = .ok (.istore_n 3, 1) := by decide +kernel
theorem dX10_breaks__34 : decode cX10_breaks_ 34 = .ok (.iload_n 3, 1) := by decide +kernel
theorem dX10_breaks__35 : decode cX10_breaks_ 35 = .ok (.iload_n 2, 1) := by decide +kernel
theorem dX10_breaks__36 : decode cX10_breaks_ 36 = .ok (.if_icmp .ge 43, 3) := by decide +kernel
theorem dX10_breaks__39 : decode cX10_breaks_ 39 = .ok (.aload_n 0, 1) := by decide +kernel
theorem dX10_breaks__40 : decode cX10_breaks_ 40 = .ok (.iload_n 1, 1) := by decide +kernel
theorem dX10_breaks__41 : decode cX10_breaks_ 41 = .ok (.iload_n 2, 1) := by decide +kernel
theorem dX10_breaks__42 : decode cX10_breaks_ 42 = .ok (.invokevirtual 100, 3) := by decide +kernel
theorem dX10_breaks__45 : decode cX10_breaks_ 45 = .ok (.ifCond .eq 34, 3) := by decide +kernel
theorem dX10_breaks__48 : decode cX10_breaks_ 48 = .ok (.iload_n 3, 1) := by decide +kernel
theorem dX10_breaks__49 : decode cX10_breaks_ 49 = .ok (.iload_n 2, 1) := by decide +kernel
theorem dX10_breaks__50 : decode cX10_breaks_ 50 = .ok (.iconst (-1), 1) := by decide +kernel
theorem dX10_breaks__51 : decode cX10_breaks_ 51 = .ok (.ixor, 1) := by decide +kernel
theorem dX10_breaks__52 : decode cX10_breaks_ 52 = .ok (.iand, 1) := by decide +kernel
theorem dX10_breaks__53 : decode cX10_breaks_ 53 = .ok (.ifCond .ne 20, 3) := by decide +kernel
theorem dX10_breaks__56 : decode cX10_breaks_ 56 = .ok (.aload_n 0, 1) := by decide +kernel
theorem dX10_breaks__57 : decode cX10_breaks_ 57 = .ok (.iload_n 1, 1) := by decide +kernel
theorem dX10_breaks__58 : decode cX10_breaks_ 58 = .ok (.iload_n 3, 1) := by decide +kernel
theorem dX10_breaks__59 : decode cX10_breaks_ 59 = .ok (.invokevirtual 100, 3) := by decide +kernel
theorem dX10_breaks__62 : decode cX10_breaks_ 62 = .ok (.ifCond .ne 11, 3) := by decide +kernel
theorem dX10_breaks__65 : decode cX10_breaks_ 65 = .ok (.aload_n 0, 1) := by decide +kernel
theorem dX10_breaks__66 : decode cX10_breaks_ 66 = .ok (.iconst 2, 1) := by decide +kernel
theorem dX10_breaks__67 : decode cX10_breaks_ 67 = .ok (.iload_n 2, 1) := by decide +kernel
theorem dX10_breaks__68 : decode cX10_breaks_ 68 = .ok (.iload_n 3, 1) := by decide +kernel
theorem dX10_breaks__69 : decode cX10_breaks_ 69 = .ok (.invokevirtual 163, 3) := by decide +kernel
theorem dX10_breaks__72 : decode cX10_breaks_ 72 = .ok (.ireturn, 1) := by decide +kernel
theorem dX10_breaks__73 : decode cX10_breaks_ 73 = .ok (.iinc 3 1, 3) := by decide +kernel
theorem dX10_breaks__76 : decode cX10_breaks_ 76 = .ok (.goto (-42), 3) := by decide +kernel
theorem dX10_breaks__79 : decode cX10_breaks_ 79 = .ok (.iinc 2 1, 3) := by decide +kernel
theorem dX10_breaks__82 : decode cX10_breaks_ 82 = .ok (.goto (-58), 3) := by decide +kernel
theorem dX10_breaks__85 : decode cX10_breaks_ 85 = .ok (.iconst 0, 1) := by decide +kernel
theorem dX10_breaks__86 : decode cX10_breaks_ 86 = .ok (.istore_n 2, 1) := by decide +kernel
theorem dX10_breaks__87 : decode cX10_breaks_ 87 = .ok (.iload_n 2, 1) := by decide +kernel
theorem dX10_breaks__88 : decode cX10_breaks_ 88 = .ok (.aload_n 0, 1) := by decide +kernel
theorem dX10_breaks__89 : decode cX10_breaks_ 89 = .ok (.getfield 13, 3) := by decide +kernel
theorem dX10_breaks__92 : decode cX10_breaks_ 92 = .ok (.if_icmp .gt 130, 3) := by decide +kernel
theorem dX10_breaks__95 : decode cX10_breaks_ 95 = .ok (.iconst 0, 1) := by decide +kernel
theorem dX10_breaks__96 : decode cX10_breaks_ 96 = .ok (.istore_n 3, 1) := by decide +kernel
theorem dX10_breaks__97 : decode cX10_breaks_ 97 = .ok (.iload_n 3, 1) := by decide +kernel
theorem dX10_breaks__98 : decode cX10_breaks_ 98 = .ok (.aload_n 0, 1) := by decide +kernel
theorem dX10_breaks__99 : decode cX10_breaks_ 99 = .ok (.getfield 13, 3) := by decide +kernel
theorem dX10_breaks__102 : decode cX10_breaks_ 102 = .ok (.if_icmp .gt 114, 3) := by decide +kernel
theorem dX10_breaks__105 : decode cX10_breaks_ 105 = .ok (.aload_n 0, 1) := by decide +kernel
theorem dX10_breaks__106 : decode cX10_breaks_ 106 = .ok (.iload_n 1, 1) := by decide +kernel
theorem dX10_breaks__107 : decode cX10_breaks_ 107 = .ok (.iload_n 2, 1) := by decide +kernel
theorem dX10_breaks__108 : decode cX10_breaks_ 108 = .ok (.invokevirtual 100, 3) := by decide +kernel
theorem dX10_breaks__111 : decode cX10_breaks_ 111 = .ok (.ifCond .eq 105, 3) := by decide +kernel
theorem dX10_breaks__114 : decode cX10_breaks_ 114 = .ok (.aload_n 0, 1) := by decide +kernel
theorem dX10_breaks__115 : decode cX10_breaks_ 115 = .ok (.iload_n 1, 1) := by decide +kernel
theorem dX10_breaks__116 : decode cX10_breaks_ 116 = .ok (.iload_n 3, 1) := by decide +kernel
theorem dX10_breaks__117 : decode cX10_breaks_ 117 = .ok (.invokevirtual 100, 3) := by decide +kernel
theorem dX10_breaks__120 : decode cX10_breaks_ 120 = .ok (.ifCond .eq 90, 3) := by decide +kernel
theorem dX10_breaks__123 : decode cX10_breaks_ 123 = .ok (.iload_n 3, 1) := by decide +kernel
theorem dX10_breaks__124 : decode cX10_breaks_ 124 = .ok (.invokestatic 104, 3) := by decide +kernel
theorem dX10_breaks__127 : decode cX10_breaks_ 127 = .ok (.iload_n 2, 1) := by decide +kernel
theorem dX10_breaks__128 : decode cX10_breaks_ 128 = .ok (.invokestatic 104, 3) := by decide +kernel
theorem dX10_breaks__131 : decode cX10_breaks_ 131 = .ok (.if_icmp .gt 6, 3) := by decide +kernel
theorem dX10_breaks__134 : decode cX10_breaks_ 134 = .ok (.goto 76, 3) := by decide +kernel
theorem dX10_breaks__137 : decode cX10_breaks_ 137 = .ok (.iconst 0, 1) := by decide +kernel
theorem dX10_breaks__138 : decode cX10_breaks_ 138 = .ok (.istore 4, 2) := by decide +kernel
theorem dX10_breaks__140 : decode cX10_breaks_ 140 = .ok (.iconst 0, 1) := by decide +kernel
theorem dX10_breaks__141 : decode cX10_breaks_ 141 = .ok (.istore 5, 2) := by decide +kernel
theorem dX10_breaks__143 : decode cX10_breaks_ 143 = .ok (.iload 5, 2) := by decide +kernel
theorem dX10_breaks__145 : decode cX10_breaks_ 145 = .ok (.aload_n 0, 1) := by decide +kernel
theorem dX10_breaks__146 : decode cX10_breaks_ 146 = .ok (.getfield 7, 3) := by decide +kernel
theorem dX10_breaks__149 : decode cX10_breaks_ 149 = .ok (.if_icmp .ge 48, 3) := by decide +kernel
theorem dX10_breaks__152 : decode cX10_breaks_ 152 = .ok (.iload 4, 2) := by decide +kernel
theorem dX10_breaks__154 : decode cX10_breaks_ 154 = .ok (.ifCond .ne 30, 3) := by decide +kernel
theorem dX10_breaks__157 : decode cX10_breaks_ 157 = .ok (.iload_n 3, 1) := by decide +kernel
theorem dX10_breaks__158 : decode cX10_breaks_ 158 = .ok (.iload_n 2, 1) := by decide +kernel
theorem dX10_breaks__159 : decode cX10_breaks_ 159 = .ok (.iconst (-1), 1) := by decide +kernel
theorem dX10_breaks__160 : decode cX10_breaks_ 160 = .ok (.ixor, 1) := by decide +kernel
theorem dX10_breaks__161 : decode cX10_breaks_ 161 = .ok (.iand, 1) := by decide +kernel
theorem dX10_breaks__162 : decode cX10_breaks_ 162 = .ok (.iconst 1, 1) := by decide +kernel
theorem dX10_breaks__163 : decode cX10_breaks_ 163 = .ok (.iload 5, 2) := by decide +kernel
theorem dX10_breaks__165 : decode cX10_breaks_ 165 = .ok (.ishl, 1) := by decide +kernel
theorem dX10_breaks__166 : decode cX10_breaks_ 166 = .ok (.iand, 1) := by decide +kernel
theorem dX10_breaks__167 : decode cX10_breaks_ 167 = .ok (.ifCond .eq 21, 3) := by decide +kernel
theorem dX10_breaks__170 : decode cX10_breaks_ 170 = .ok (.aload_n 0, 1) := by decide +kernel
theorem dX10_breaks__171 : decode cX10_breaks_ 171 = .ok (.iload_n 1, 1) := by decide +kernel
theorem dX10_breaks__172 : decode cX10_breaks_ 172 = .ok (.iload_n 2, 1) := by decide +kernel
theorem dX10_breaks__173 : decode cX10_breaks_ 173 = .ok (.iconst 1, 1) := by decide +kernel
theorem dX10_breaks__174 : decode cX10_breaks_ 174 = .ok (.iload 5, 2) := by decide +kernel
theorem dX10_breaks__176 : decode cX10_breaks_ 176 = .ok (.ishl, 1) := by decide +kernel
theorem dX10_breaks__177 : decode cX10_breaks_ 177 = .ok (.ior, 1) := by decide +kernel
theorem dX10_breaks__178 : decode cX10_breaks_ 178 = .ok (.invokevirtual 100, 3) := by decide +kernel
theorem dX10_breaks__181 : decode cX10_breaks_ 181 = .ok (.ifCond .eq 7, 3) := by decide +kernel
theorem dX10_breaks__184 : decode cX10_breaks_ 184 = .ok (.iconst 1, 1) := by decide +kernel
theorem dX10_breaks__185 : decode cX10_breaks_ 185 = .ok (.goto 4, 3) := by decide +kernel
theorem dX10_breaks__188 : decode cX10_breaks_ 188 = .ok (.iconst 0, 1) := by decide +kernel
theorem dX10_breaks__189 : decode cX10_breaks_ 189 = .ok (.istore 4, 2) := by decide +kernel
theorem dX10_breaks__191 : decode cX10_breaks_ 191 = .ok (.iinc 5 1, 3) := by decide +kernel
theorem dX10_breaks__194 : decode cX10_breaks_ 194 = .ok (.goto (-51), 3) := by decide +kernel
theorem dX10_breaks__197 : decode cX10_breaks_ 197 = .ok (.iload 4, 2) := by decide +kernel
theorem dX10_breaks__199 : decode cX10_breaks_ 199 = .ok (.ifCond .ne 11, 3) := by decide +kernel
theorem dX10_breaks__202 : decode cX10_breaks_ 202 = .ok (.aload_n 0, 1) := by decide +kernel
theorem dX10_breaks__203 : decode cX10_breaks_ 203 = .ok (.iconst 3, 1) := by decide +kernel
theorem dX10_breaks__204 : decode cX10_breaks_ 204 = .ok (.iload_n 2, 1) := by decide +kernel
theorem dX10_breaks__205 : decode cX10_breaks_ 205 = .ok (.iload_n 3, 1) := by decide +kernel
theorem dX10_breaks__206 : decode cX10_breaks_ 206 = .ok (.invokevirtual 163, 3) := by decide +kernel
theorem dX10_breaks__209 : decode cX10_breaks_ 209 = .ok (.ireturn, 1) := by decide +kernel
theorem dX10_breaks__210 : decode cX10_breaks_ 210 = .ok (.iinc 3 1, 3) := by decide +kernel
theorem dX10_breaks__213 : decode cX10_breaks_ 213 = .ok (.goto (-116), 3) := by decide +kernel
theorem dX10_breaks__216 : decode cX10_breaks_ 216 = .ok (.iinc 2 1, 3) := by decide +kernel
theorem dX10_breaks__219 : decode cX10_breaks_ 219 = .ok (.goto (-132), 3) := by decide +kernel
theorem dX10_breaks__222 : decode cX10_breaks_ 222 = .ok (.iconst 0, 1) := by decide +kernel
theorem dX10_breaks__223 : decode cX10_breaks_ 223 = .ok (.ireturn, 1) := by decide +kernel
theorem dX10_readsEven_0 : decode cX10_readsEven 0 = .ok (.aload_n 0, 1) := by decide +kernel
theorem dX10_readsEven_1 : decode cX10_readsEven 1 = .ok (.lconst 0, 1) := by decide +kernel
theorem dX10_readsEven_2 : decode cX10_readsEven 2 = .ok (.ldc2_w 166, 3) := by decide +kernel
theorem dX10_readsEven_5 : decode cX10_readsEven 5 = .ok (.invokevirtual 152, 3) := by decide +kernel
theorem dX10_readsEven_8 : decode cX10_readsEven 8 = .ok (.istore_n 1, 1) := by decide +kernel
theorem dX10_readsEven_9 : decode cX10_readsEven 9 = .ok (.iconst 0, 1) := by decide +kernel
theorem dX10_readsEven_10 : decode cX10_readsEven 10 = .ok (.istore_n 2, 1) := by decide +kernel
theorem dX10_readsEven_11 : decode cX10_readsEven 11 = .ok (.iload_n 2, 1) := by decide +kernel
theorem dX10_readsEven_12 : decode cX10_readsEven 12 = .ok (.aload_n 0, 1) := by decide +kernel
theorem dX10_readsEven_13 : decode cX10_readsEven 13 = .ok (.getfield 13, 3) := by decide +kernel
theorem dX10_readsEven_16 : decode cX10_readsEven 16 = .ok (.if_icmp .gt 29, 3) := by decide +kernel
theorem dX10_readsEven_19 : decode cX10_readsEven 19 = .ok (.aload_n 0, 1) := by decide +kernel
theorem dX10_readsEven_20 : decode cX10_readsEven 20 = .ok (.getfield 116, 3) := by decide +kernel
theorem dX10_readsEven_23 : decode cX10_readsEven 23 = .ok (.ifCond .ne 22, 3) := by decide +kernel
theorem dX10_readsEven_26 : decode cX10_readsEven 26 = .ok (.iload_n 2, 1) := by decide +kernel
theorem dX10_readsEven_27 : decode cX10_readsEven 27 = .ok (.invokestatic 104, 3) := by decide +kernel
theorem dX10_readsEven_30 : decode cX10_readsEven 30 = .ok (.iload_n 1, 1) := by decide +kernel
theorem dX10_readsEven_31 : decode cX10_readsEven 31 = .ok (.if_icmp .gt 8, 3) := by decide +kernel
theorem dX10_readsEven_34 : decode cX10_readsEven 34 = .ok (.aload_n 0, 1) := by decide +kernel
theorem dX10_readsEven_35 : decode cX10_readsEven 35 = .ok (.iload_n 2, 1) := by decide +kernel
theorem dX10_readsEven_36 : decode cX10_readsEven 36 = .ok (.invokevirtual 156, 3) := by decide +kernel
theorem dX10_readsEven_39 : decode cX10_readsEven 39 = .ok (.iinc 2 1, 3) := by decide +kernel
theorem dX10_readsEven_42 : decode cX10_readsEven 42 = .ok (.goto (-31), 3) := by decide +kernel
theorem dX10_readsEven_45 : decode cX10_readsEven 45 = .ok (.return_, 1) := by decide +kernel
theorem dX10_readsParts_0 : decode cX10_readsParts 0 = .ok (.iconst 0, 1) := by decide +kernel
theorem dX10_readsParts_1 : decode cX10_readsParts 1 = .ok (.istore_n 1, 1) := by decide +kernel
theorem dX10_readsParts_2 : decode cX10_readsParts 2 = .ok (.iconst 0, 1) := by decide +kernel
theorem dX10_readsParts_3 : decode cX10_readsParts 3 = .ok (.istore_n 2, 1) := by decide +kernel
theorem dX10_readsParts_4 : decode cX10_readsParts 4 = .ok (.iload_n 2, 1) := by decide +kernel
theorem dX10_readsParts_5 : decode cX10_readsParts 5 = .ok (.aload_n 0, 1) := by decide +kernel
theorem dX10_readsParts_6 : decode cX10_readsParts 6 = .ok (.getfield 7, 3) := by decide +kernel
theorem dX10_readsParts_9 : decode cX10_readsParts 9 = .ok (.if_icmp .ge 34, 3) := by decide +kernel
theorem dX10_readsParts_12 : decode cX10_readsParts 12 = .ok (.aload_n 0, 1) := by decide +kernel
theorem dX10_readsParts_13 : decode cX10_readsParts 13 = .ok (.getfield 57, 3) := by decide +kernel
theorem dX10_readsParts_16 : decode cX10_readsParts 16 = .ok (.iload_n 2, 1) := by decide +kernel
theorem dX10_readsParts_17 : decode cX10_readsParts 17 = .ok (.aload_n 0, 1) := by decide +kernel
theorem dX10_readsParts_18 : decode cX10_readsParts 18 = .ok (.lconst 0, 1) := by decide +kernel
theorem dX10_readsParts_19 : decode cX10_readsParts 19 = .ok (.ldc2_w 168, 3) := by decide +kernel
theorem dX10_readsParts_22 : decode cX10_readsParts 22 = .ok (.invokevirtual 152, 3) := by decide +kernel
theorem dX10_readsParts_25 : decode cX10_readsParts 25 = .ok (.iastore, 1) := by decide +kernel
theorem dX10_readsParts_26 : decode cX10_readsParts 26 = .ok (.iload_n 1, 1) := by decide +kernel
theorem dX10_readsParts_27 : decode cX10_readsParts 27 = .ok (.aload_n 0, 1) := by decide +kernel
theorem dX10_readsParts_28 : decode cX10_readsParts 28 = .ok (.getfield 57, 3) := by decide +kernel
theorem dX10_readsParts_31 : decode cX10_readsParts 31 = .ok (.iload_n 2, 1) := by decide +kernel
theorem dX10_readsParts_32 : decode cX10_readsParts 32 = .ok (.iaload, 1) := by decide +kernel
theorem dX10_readsParts_33 : decode cX10_readsParts 33 = .ok (.invokestatic 111, 3) := by decide +kernel
theorem dX10_readsParts_36 : decode cX10_readsParts 36 = .ok (.istore_n 1, 1) := by decide +kernel
theorem dX10_readsParts_37 : decode cX10_readsParts 37 = .ok (.iinc 2 1, 3) := by decide +kernel
theorem dX10_readsParts_40 : decode cX10_readsParts 40 = .ok (.goto (-36), 3) := by decide +kernel
theorem dX10_readsParts_43 : decode cX10_readsParts 43 = .ok (.iconst 0, 1) := by decide +kernel
theorem dX10_readsParts_44 : decode cX10_readsParts 44 = .ok (.istore_n 2, 1) := by decide +kernel
theorem dX10_readsParts_45 : decode cX10_readsParts 45 = .ok (.iload_n 2, 1) := by decide +kernel
theorem dX10_readsParts_46 : decode cX10_readsParts 46 = .ok (.iload_n 1, 1) := by decide +kernel
theorem dX10_readsParts_47 : decode cX10_readsParts 47 = .ok (.if_icmp .gt 23, 3) := by decide +kernel
theorem dX10_readsParts_50 : decode cX10_readsParts 50 = .ok (.aload_n 0, 1) := by decide +kernel
theorem dX10_readsParts_51 : decode cX10_readsParts 51 = .ok (.getfield 60, 3) := by decide +kernel
theorem dX10_readsParts_54 : decode cX10_readsParts 54 = .ok (.iload_n 2, 1) := by decide +kernel
theorem dX10_readsParts_55 : decode cX10_readsParts 55 = .ok (.aload_n 0, 1) := by decide +kernel
theorem dX10_readsParts_56 : decode cX10_readsParts 56 = .ok (.lconst 0, 1) := by decide +kernel
theorem dX10_readsParts_57 : decode cX10_readsParts 57 = .ok (.ldc2_w 166, 3) := by decide +kernel
theorem dX10_readsParts_60 : decode cX10_readsParts 60 = .ok (.invokevirtual 152, 3) := by decide +kernel
theorem dX10_readsParts_63 : decode cX10_readsParts 63 = .ok (.iastore, 1) := by decide +kernel
theorem dX10_readsParts_64 : decode cX10_readsParts 64 = .ok (.iinc 2 1, 3) := by decide +kernel
theorem dX10_readsParts_67 : decode cX10_readsParts 67 = .ok (.goto (-22), 3) := by decide +kernel
theorem dX10_readsParts_70 : decode cX10_readsParts 70 = .ok (.iconst 0, 1) := by decide +kernel
theorem dX10_readsParts_71 : decode cX10_readsParts 71 = .ok (.istore_n 2, 1) := by decide +kernel
theorem dX10_readsParts_72 : decode cX10_readsParts 72 = .ok (.iload_n 2, 1) := by decide +kernel
theorem dX10_readsParts_73 : decode cX10_readsParts 73 = .ok (.aload_n 0, 1) := by decide +kernel
theorem dX10_readsParts_74 : decode cX10_readsParts 74 = .ok (.getfield 13, 3) := by decide +kernel
theorem dX10_readsParts_77 : decode cX10_readsParts 77 = .ok (.if_icmp .gt 117, 3) := by decide +kernel
theorem dX10_readsParts_80 : decode cX10_readsParts 80 = .ok (.aload_n 0, 1) := by decide +kernel
theorem dX10_readsParts_81 : decode cX10_readsParts 81 = .ok (.getfield 116, 3) := by decide +kernel
theorem dX10_readsParts_84 : decode cX10_readsParts 84 = .ok (.ifCond .ne 110, 3) := by decide +kernel
theorem dX10_readsParts_87 : decode cX10_readsParts 87 = .ok (.iconst 1, 1) := by decide +kernel
theorem dX10_readsParts_88 : decode cX10_readsParts 88 = .ok (.istore_n 3, 1) := by decide +kernel
theorem dX10_readsParts_89 : decode cX10_readsParts 89 = .ok (.iconst 0, 1) := by decide +kernel
theorem dX10_readsParts_90 : decode cX10_readsParts 90 = .ok (.istore 4, 2) := by decide +kernel
theorem dX10_readsParts_92 : decode cX10_readsParts 92 = .ok (.iload 4, 2) := by decide +kernel
theorem dX10_readsParts_94 : decode cX10_readsParts 94 = .ok (.iload_n 1, 1) := by decide +kernel
theorem dX10_readsParts_95 : decode cX10_readsParts 95 = .ok (.if_icmp .gt 84, 3) := by decide +kernel
theorem dX10_readsParts_98 : decode cX10_readsParts 98 = .ok (.iconst 0, 1) := by decide +kernel
theorem dX10_readsParts_99 : decode cX10_readsParts 99 = .ok (.istore 5, 2) := by decide +kernel
theorem dX10_readsParts_101 : decode cX10_readsParts 101 = .ok (.iconst 0, 1) := by decide +kernel
theorem dX10_readsParts_102 : decode cX10_readsParts 102 = .ok (.istore 6, 2) := by decide +kernel
theorem dX10_readsParts_104 : decode cX10_readsParts 104 = .ok (.iload 6, 2) := by decide +kernel
theorem dX10_readsParts_106 : decode cX10_readsParts 106 = .ok (.aload_n 0, 1) := by decide +kernel
theorem dX10_readsParts_107 : decode cX10_readsParts 107 = .ok (.getfield 7, 3) := by decide +kernel
theorem dX10_readsParts_110 : decode cX10_readsParts 110 = .ok (.if_icmp .ge 41, 3) := by decide +kernel
theorem dX10_readsParts_113 : decode cX10_readsParts 113 = .ok (.iload 5, 2) := by decide +kernel
theorem dX10_readsParts_115 : decode cX10_readsParts 115 = .ok (.iload_n 2, 1) := by decide +kernel
theorem dX10_readsParts_116 : decode cX10_readsParts 116 = .ok (.iload 6, 2) := by decide +kernel
theorem dX10_readsParts_118 : decode cX10_readsParts 118 = .ok (.ishr, 1) := by decide +kernel
theorem dX10_readsParts_119 : decode cX10_readsParts 119 = .ok (.iconst 1, 1) := by decide +kernel
theorem dX10_readsParts_120 : decode cX10_readsParts 120 = .ok (.iand, 1) := by decide +kernel
theorem dX10_readsParts_121 : decode cX10_readsParts 121 = .ok (.iconst 1, 1) := by decide +kernel
theorem dX10_readsParts_122 : decode cX10_readsParts 122 = .ok (.if_icmp .ne 19, 3) := by decide +kernel
theorem dX10_readsParts_125 : decode cX10_readsParts 125 = .ok (.aload_n 0, 1) := by decide +kernel
theorem dX10_readsParts_126 : decode cX10_readsParts 126 = .ok (.getfield 57, 3) := by decide +kernel
theorem dX10_readsParts_129 : decode cX10_readsParts 129 = .ok (.iload 6, 2) := by decide +kernel
theorem dX10_readsParts_131 : decode cX10_readsParts 131 = .ok (.iaload, 1) := by decide +kernel
theorem dX10_readsParts_132 : decode cX10_readsParts 132 = .ok (.iload 4, 2) := by decide +kernel
theorem dX10_readsParts_134 : decode cX10_readsParts 134 = .ok (.if_icmp .ne 7, 3) := by decide +kernel
theorem dX10_readsParts_137 : decode cX10_readsParts 137 = .ok (.iconst 1, 1) := by decide +kernel
theorem dX10_readsParts_138 : decode cX10_readsParts 138 = .ok (.goto 4, 3) := by decide +kernel
theorem dX10_readsParts_141 : decode cX10_readsParts 141 = .ok (.iconst 0, 1) := by decide +kernel
theorem dX10_readsParts_142 : decode cX10_readsParts 142 = .ok (.iadd, 1) := by decide +kernel
theorem dX10_readsParts_143 : decode cX10_readsParts 143 = .ok (.istore 5, 2) := by decide +kernel
theorem dX10_readsParts_145 : decode cX10_readsParts 145 = .ok (.iinc 6 1, 3) := by decide +kernel
theorem dX10_readsParts_148 : decode cX10_readsParts 148 = .ok (.goto (-44), 3) := by decide +kernel
theorem dX10_readsParts_151 : decode cX10_readsParts 151 = .ok (.iload_n 3, 1) := by decide +kernel
theorem dX10_readsParts_152 : decode cX10_readsParts 152 = .ok (.ifCond .eq 19, 3) := by decide +kernel
theorem dX10_readsParts_155 : decode cX10_readsParts 155 = .ok (.iload 5, 2) := by decide +kernel
theorem dX10_readsParts_157 : decode cX10_readsParts 157 = .ok (.aload_n 0, 1) := by decide +kernel
theorem dX10_readsParts_158 : decode cX10_readsParts 158 = .ok (.getfield 60, 3) := by decide +kernel
theorem dX10_readsParts_161 : decode cX10_readsParts 161 = .ok (.iload 4, 2) := by decide +kernel
theorem dX10_readsParts_163 : decode cX10_readsParts 163 = .ok (.iaload, 1) := by decide +kernel
theorem dX10_readsParts_164 : decode cX10_readsParts 164 = .ok (.if_icmp .gt 7, 3) := by decide +kernel
theorem dX10_readsParts_167 : decode cX10_readsParts 167 = .ok (.iconst 1, 1) := by decide +kernel
theorem dX10_readsParts_168 : decode cX10_readsParts 168 = .ok (.goto 4, 3) := by decide +kernel
theorem dX10_readsParts_171 : decode cX10_readsParts 171 = .ok (.iconst 0, 1) := by decide +kernel
theorem dX10_readsParts_172 : decode cX10_readsParts 172 = .ok (.istore_n 3, 1) := by decide +kernel
theorem dX10_readsParts_173 : decode cX10_readsParts 173 = .ok (.iinc 4 1, 3) := by decide +kernel
theorem dX10_readsParts_176 : decode cX10_readsParts 176 = .ok (.goto (-84), 3) := by decide +kernel
theorem dX10_readsParts_179 : decode cX10_readsParts 179 = .ok (.iload_n 3, 1) := by decide +kernel
theorem dX10_readsParts_180 : decode cX10_readsParts 180 = .ok (.ifCond .eq 8, 3) := by decide +kernel
theorem dX10_readsParts_183 : decode cX10_readsParts 183 = .ok (.aload_n 0, 1) := by decide +kernel
theorem dX10_readsParts_184 : decode cX10_readsParts 184 = .ok (.iload_n 2, 1) := by decide +kernel
theorem dX10_readsParts_185 : decode cX10_readsParts 185 = .ok (.invokevirtual 156, 3) := by decide +kernel
theorem dX10_readsParts_188 : decode cX10_readsParts 188 = .ok (.iinc 2 1, 3) := by decide +kernel
theorem dX10_readsParts_191 : decode cX10_readsParts 191 = .ok (.goto (-119), 3) := by decide +kernel
theorem dX10_readsParts_194 : decode cX10_readsParts 194 = .ok (.return_, 1) := by decide +kernel
theorem dX10_readsNested_0 : decode cX10_readsNested 0 = .ok (.aload_n 0, 1) := by decide +kernel
theorem dX10_readsNested_1 : decode cX10_readsNested 1 = .ok (.lconst 0, 1) := by decide +kernel
theorem dX10_readsNested_2 : decode cX10_readsNested 2 = .ok (.ldc2_w 170, 3) := by decide +kernel
theorem dX10_readsNested_5 : decode cX10_readsNested 5 = .ok (.invokevirtual 152, 3) := by decide +kernel
theorem dX10_readsNested_8 : decode cX10_readsNested 8 = .ok (.istore_n 1, 1) := by decide +kernel
theorem dX10_readsNested_9 : decode cX10_readsNested 9 = .ok (.iconst 0, 1) := by decide +kernel
theorem dX10_readsNested_10 : decode cX10_readsNested 10 = .ok (.istore_n 2, 1) := by decide +kernel
theorem dX10_readsNested_11 : decode cX10_readsNested 11 = .ok (.iload_n 2, 1) := by decide +kernel
theorem dX10_readsNested_12 : decode cX10_readsNested 12 = .ok (.iload_n 1, 1) := by decide +kernel
theorem dX10_readsNested_13 : decode cX10_readsNested 13 = .ok (.if_icmp .ge 39, 3) := by decide +kernel
theorem dX10_readsNested_16 : decode cX10_readsNested 16 = .ok (.aload_n 0, 1) := by decide +kernel
theorem dX10_readsNested_17 : decode cX10_readsNested 17 = .ok (.getfield 57, 3) := by decide +kernel
theorem dX10_readsNested_20 : decode cX10_readsNested 20 = .ok (.iload_n 2, 1) := by decide +kernel
theorem dX10_readsNested_21 : decode cX10_readsNested 21 = .ok (.aload_n 0, 1) := by decide +kernel
theorem dX10_readsNested_22 : decode cX10_readsNested 22 = .ok (.lconst 0, 1) := by decide +kernel
theorem dX10_readsNested_23 : decode cX10_readsNested 23 = .ok (.aload_n 0, 1) := by decide +kernel
theorem dX10_readsNested_24 : decode cX10_readsNested 24 = .ok (.getfield 13, 3) := by decide +kernel
theorem dX10_readsNested_27 : decode cX10_readsNested 27 = .ok (.i2l, 1) := by decide +kernel
theorem dX10_readsNested_28 : decode cX10_readsNested 28 = .ok (.invokevirtual 152, 3) := by decide +kernel
theorem dX10_readsNested_31 : decode cX10_readsNested 31 = .ok (.iastore, 1) := by decide +kernel
theorem dX10_readsNested_32 : decode cX10_readsNested 32 = .ok (.aload_n 0, 1) := by decide +kernel
theorem dX10_readsNested_33 : decode cX10_readsNested 33 = .ok (.getfield 60, 3) := by decide +kernel
theorem dX10_readsNested_36 : decode cX10_readsNested 36 = .ok (.iload_n 2, 1) := by decide +kernel
theorem dX10_readsNested_37 : decode cX10_readsNested 37 = .ok (.aload_n 0, 1) := by decide +kernel
theorem dX10_readsNested_38 : decode cX10_readsNested 38 = .ok (.lconst 0, 1) := by decide +kernel
theorem dX10_readsNested_39 : decode cX10_readsNested 39 = .ok (.ldc2_w 166, 3) := by decide +kernel
theorem dX10_readsNested_42 : decode cX10_readsNested 42 = .ok (.invokevirtual 152, 3) := by decide +kernel
theorem dX10_readsNested_45 : decode cX10_readsNested 45 = .ok (.iastore, 1) := by decide +kernel
theorem dX10_readsNested_46 : decode cX10_readsNested 46 = .ok (.iinc 2 1, 3) := by decide +kernel
theorem dX10_readsNested_49 : decode cX10_readsNested 49 = .ok (.goto (-38), 3) := by decide +kernel
theorem dX10_readsNested_52 : decode cX10_readsNested 52 = .ok (.iconst 0, 1) := by decide +kernel
theorem dX10_readsNested_53 : decode cX10_readsNested 53 = .ok (.istore_n 2, 1) := by decide +kernel
theorem dX10_readsNested_54 : decode cX10_readsNested 54 = .ok (.iload_n 2, 1) := by decide +kernel
theorem dX10_readsNested_55 : decode cX10_readsNested 55 = .ok (.iload_n 1, 1) := by decide +kernel
theorem dX10_readsNested_56 : decode cX10_readsNested 56 = .ok (.if_icmp .ge 77, 3) := by decide +kernel
theorem dX10_readsNested_59 : decode cX10_readsNested 59 = .ok (.aload_n 0, 1) := by decide +kernel
theorem dX10_readsNested_60 : decode cX10_readsNested 60 = .ok (.getfield 116, 3) := by decide +kernel
theorem dX10_readsNested_63 : decode cX10_readsNested 63 = .ok (.ifCond .ne 70, 3) := by decide +kernel
theorem dX10_readsNested_66 : decode cX10_readsNested 66 = .ok (.iconst 0, 1) := by decide +kernel
theorem dX10_readsNested_67 : decode cX10_readsNested 67 = .ok (.istore_n 3, 1) := by decide +kernel
theorem dX10_readsNested_68 : decode cX10_readsNested 68 = .ok (.iload_n 3, 1) := by decide +kernel
theorem dX10_readsNested_69 : decode cX10_readsNested 69 = .ok (.iload_n 2, 1) := by decide +kernel
theorem dX10_readsNested_70 : decode cX10_readsNested 70 = .ok (.if_icmp .ge 57, 3) := by decide +kernel
theorem dX10_readsNested_73 : decode cX10_readsNested 73 = .ok (.aload_n 0, 1) := by decide +kernel
theorem dX10_readsNested_74 : decode cX10_readsNested 74 = .ok (.getfield 57, 3) := by decide +kernel
theorem dX10_readsNested_77 : decode cX10_readsNested 77 = .ok (.iload_n 2, 1) := by decide +kernel
theorem dX10_readsNested_78 : decode cX10_readsNested 78 = .ok (.iaload, 1) := by decide +kernel
theorem dX10_readsNested_79 : decode cX10_readsNested 79 = .ok (.aload_n 0, 1) := by decide +kernel
theorem dX10_readsNested_80 : decode cX10_readsNested 80 = .ok (.getfield 57, 3) := by decide +kernel
theorem dX10_readsNested_83 : decode cX10_readsNested 83 = .ok (.iload_n 3, 1) := by decide +kernel
theorem dX10_readsNested_84 : decode cX10_readsNested 84 = .ok (.iaload, 1) := by decide +kernel
theorem dX10_readsNested_85 : decode cX10_readsNested 85 = .ok (.iand, 1) := by decide +kernel
theorem dX10_readsNested_86 : decode cX10_readsNested 86 = .ok (.istore 4, 2) := by decide +kernel
theorem dX10_readsNested_88 : decode cX10_readsNested 88 = .ok (.iload 4, 2) := by decide +kernel
theorem dX10_readsNested_90 : decode cX10_readsNested 90 = .ok (.ifCond .eq 31, 3) := by decide +kernel
theorem dX10_readsNested_93 : decode cX10_readsNested 93 = .ok (.iload 4, 2) := by decide +kernel
theorem dX10_readsNested_95 : decode cX10_readsNested 95 = .ok (.aload_n 0, 1) := by decide +kernel
theorem dX10_readsNested_96 : decode cX10_readsNested 96 = .ok (.getfield 57, 3) := by decide +kernel
theorem dX10_readsNested_99 : decode cX10_readsNested 99 = .ok (.iload_n 2, 1) := by decide +kernel
theorem dX10_readsNested_100 : decode cX10_readsNested 100 = .ok (.iaload, 1) := by decide +kernel
theorem dX10_readsNested_101 : decode cX10_readsNested 101 = .ok (.if_icmp .eq 20, 3) := by decide +kernel
theorem dX10_readsNested_104 : decode cX10_readsNested 104 = .ok (.iload 4, 2) := by decide +kernel
theorem dX10_readsNested_106 : decode cX10_readsNested 106 = .ok (.aload_n 0, 1) := by decide +kernel
theorem dX10_readsNested_107 : decode cX10_readsNested 107 = .ok (.getfield 57, 3) := by decide +kernel
theorem dX10_readsNested_110 : decode cX10_readsNested 110 = .ok (.iload_n 3, 1) := by decide +kernel
theorem dX10_readsNested_111 : decode cX10_readsNested 111 = .ok (.iaload, 1) := by decide +kernel
theorem dX10_readsNested_112 : decode cX10_readsNested 112 = .ok (.if_icmp .eq 9, 3) := by decide +kernel
theorem dX10_readsNested_115 : decode cX10_readsNested 115 = .ok (.aload_n 0, 1) := by decide +kernel
theorem dX10_readsNested_116 : decode cX10_readsNested 116 = .ok (.bipush (-7), 2) := by decide +kernel
theorem dX10_readsNested_118 : decode cX10_readsNested 118 = .ok (.putfield 116, 3) := by decide +kernel
theorem dX10_readsNested_121 : decode cX10_readsNested 121 = .ok (.iinc 3 1, 3) := by decide +kernel
theorem dX10_readsNested_124 : decode cX10_readsNested 124 = .ok (.goto (-56), 3) := by decide +kernel
theorem dX10_readsNested_127 : decode cX10_readsNested 127 = .ok (.iinc 2 1, 3) := by decide +kernel
theorem dX10_readsNested_130 : decode cX10_readsNested 130 = .ok (.goto (-76), 3) := by decide +kernel
theorem dX10_readsNested_133 : decode cX10_readsNested 133 = .ok (.iconst 0, 1) := by decide +kernel
theorem dX10_readsNested_134 : decode cX10_readsNested 134 = .ok (.istore_n 2, 1) := by decide +kernel
theorem dX10_readsNested_135 : decode cX10_readsNested 135 = .ok (.iload_n 2, 1) := by decide +kernel
theorem dX10_readsNested_136 : decode cX10_readsNested 136 = .ok (.aload_n 0, 1) := by decide +kernel
theorem dX10_readsNested_137 : decode cX10_readsNested 137 = .ok (.getfield 13, 3) := by decide +kernel
theorem dX10_readsNested_140 : decode cX10_readsNested 140 = .ok (.if_icmp .gt 74, 3) := by decide +kernel
theorem dX10_readsNested_143 : decode cX10_readsNested 143 = .ok (.aload_n 0, 1) := by decide +kernel
theorem dX10_readsNested_144 : decode cX10_readsNested 144 = .ok (.getfield 116, 3) := by decide +kernel
theorem dX10_readsNested_147 : decode cX10_readsNested 147 = .ok (.ifCond .ne 67, 3) := by decide +kernel
theorem dX10_readsNested_150 : decode cX10_readsNested 150 = .ok (.iconst 1, 1) := by decide +kernel
theorem dX10_readsNested_151 : decode cX10_readsNested 151 = .ok (.istore_n 3, 1) := by decide +kernel
theorem dX10_readsNested_152 : decode cX10_readsNested 152 = .ok (.iconst 0, 1) := by decide +kernel
theorem dX10_readsNested_153 : decode cX10_readsNested 153 = .ok (.istore 4, 2) := by decide +kernel
theorem dX10_readsNested_155 : decode cX10_readsNested 155 = .ok (.iload 4, 2) := by decide +kernel
theorem dX10_readsNested_157 : decode cX10_readsNested 157 = .ok (.iload_n 1, 1) := by decide +kernel
theorem dX10_readsNested_158 : decode cX10_readsNested 158 = .ok (.if_icmp .ge 41, 3) := by decide +kernel
theorem dX10_readsNested_161 : decode cX10_readsNested 161 = .ok (.iload_n 3, 1) := by decide +kernel
theorem dX10_readsNested_162 : decode cX10_readsNested 162 = .ok (.ifCond .eq 29, 3) := by decide +kernel
theorem dX10_readsNested_165 : decode cX10_readsNested 165 = .ok (.iload_n 2, 1) := by decide +kernel
theorem dX10_readsNested_166 : decode cX10_readsNested 166 = .ok (.aload_n 0, 1) := by decide +kernel
theorem dX10_readsNested_167 : decode cX10_readsNested 167 = .ok (.getfield 57, 3) := by decide +kernel
theorem dX10_readsNested_170 : decode cX10_readsNested 170 = .ok (.iload 4, 2) := by decide +kernel
theorem dX10_readsNested_172 : decode cX10_readsNested 172 = .ok (.iaload, 1) := by decide +kernel
theorem dX10_readsNested_173 : decode cX10_readsNested 173 = .ok (.iand, 1) := by decide +kernel
theorem dX10_readsNested_174 : decode cX10_readsNested 174 = .ok (.invokestatic 104, 3) := by decide +kernel
theorem dX10_readsNested_177 : decode cX10_readsNested 177 = .ok (.aload_n 0, 1) := by decide +kernel
theorem dX10_readsNested_178 : decode cX10_readsNested 178 = .ok (.getfield 60, 3) := by decide +kernel
theorem dX10_readsNested_181 : decode cX10_readsNested 181 = .ok (.iload 4, 2) := by decide +kernel
theorem dX10_readsNested_183 : decode cX10_readsNested 183 = .ok (.iaload, 1) := by decide +kernel
theorem dX10_readsNested_184 : decode cX10_readsNested 184 = .ok (.if_icmp .gt 7, 3) := by decide +kernel
theorem dX10_readsNested_187 : decode cX10_readsNested 187 = .ok (.iconst 1, 1) := by decide +kernel
theorem dX10_readsNested_188 : decode cX10_readsNested 188 = .ok (.goto 4, 3) := by decide +kernel
theorem dX10_readsNested_191 : decode cX10_readsNested 191 = .ok (.iconst 0, 1) := by decide +kernel
theorem dX10_readsNested_192 : decode cX10_readsNested 192 = .ok (.istore_n 3, 1) := by decide +kernel
theorem dX10_readsNested_193 : decode cX10_readsNested 193 = .ok (.iinc 4 1, 3) := by decide +kernel
theorem dX10_readsNested_196 : decode cX10_readsNested 196 = .ok (.goto (-41), 3) := by decide +kernel
theorem dX10_readsNested_199 : decode cX10_readsNested 199 = .ok (.iload_n 3, 1) := by decide +kernel
theorem dX10_readsNested_200 : decode cX10_readsNested 200 = .ok (.ifCond .eq 8, 3) := by decide +kernel
theorem dX10_readsNested_203 : decode cX10_readsNested 203 = .ok (.aload_n 0, 1) := by decide +kernel
theorem dX10_readsNested_204 : decode cX10_readsNested 204 = .ok (.iload_n 2, 1) := by decide +kernel
theorem dX10_readsNested_205 : decode cX10_readsNested 205 = .ok (.invokevirtual 156, 3) := by decide +kernel
theorem dX10_readsNested_208 : decode cX10_readsNested 208 = .ok (.iinc 2 1, 3) := by decide +kernel
theorem dX10_readsNested_211 : decode cX10_readsNested 211 = .ok (.goto (-76), 3) := by decide +kernel
theorem dX10_readsNested_214 : decode cX10_readsNested 214 = .ok (.return_, 1) := by decide +kernel
theorem dX10_readsEdges_0 : decode cX10_readsEdges 0 = .ok (.iconst 0, 1) := by decide +kernel
theorem dX10_readsEdges_1 : decode cX10_readsEdges 1 = .ok (.istore_n 1, 1) := by decide +kernel
theorem dX10_readsEdges_2 : decode cX10_readsEdges 2 = .ok (.iload_n 1, 1) := by decide +kernel
theorem dX10_readsEdges_3 : decode cX10_readsEdges 3 = .ok (.aload_n 0, 1) := by decide +kernel
theorem dX10_readsEdges_4 : decode cX10_readsEdges 4 = .ok (.getfield 7, 3) := by decide +kernel
theorem dX10_readsEdges_7 : decode cX10_readsEdges 7 = .ok (.if_icmp .ge 37, 3) := by decide +kernel
theorem dX10_readsEdges_10 : decode cX10_readsEdges 10 = .ok (.aload_n 0, 1) := by decide +kernel
theorem dX10_readsEdges_11 : decode cX10_readsEdges 11 = .ok (.getfield 57, 3) := by decide +kernel
theorem dX10_readsEdges_14 : decode cX10_readsEdges 14 = .ok (.iload_n 1, 1) := by decide +kernel
theorem dX10_readsEdges_15 : decode cX10_readsEdges 15 = .ok (.aload_n 0, 1) := by decide +kernel
theorem dX10_readsEdges_16 : decode cX10_readsEdges 16 = .ok (.lconst 0, 1) := by decide +kernel
theorem dX10_readsEdges_17 : decode cX10_readsEdges 17 = .ok (.ldc2_w 172, 3) := by decide +kernel
theorem dX10_readsEdges_20 : decode cX10_readsEdges 20 = .ok (.invokevirtual 152, 3) := by decide +kernel
theorem dX10_readsEdges_23 : decode cX10_readsEdges 23 = .ok (.iastore, 1) := by decide +kernel
theorem dX10_readsEdges_24 : decode cX10_readsEdges 24 = .ok (.aload_n 0, 1) := by decide +kernel
theorem dX10_readsEdges_25 : decode cX10_readsEdges 25 = .ok (.getfield 60, 3) := by decide +kernel
theorem dX10_readsEdges_28 : decode cX10_readsEdges 28 = .ok (.iload_n 1, 1) := by decide +kernel
theorem dX10_readsEdges_29 : decode cX10_readsEdges 29 = .ok (.aload_n 0, 1) := by decide +kernel
theorem dX10_readsEdges_30 : decode cX10_readsEdges 30 = .ok (.lconst 0, 1) := by decide +kernel
theorem dX10_readsEdges_31 : decode cX10_readsEdges 31 = .ok (.ldc2_w 172, 3) := by decide +kernel
theorem dX10_readsEdges_34 : decode cX10_readsEdges 34 = .ok (.invokevirtual 152, 3) := by decide +kernel
theorem dX10_readsEdges_37 : decode cX10_readsEdges 37 = .ok (.iastore, 1) := by decide +kernel
theorem dX10_readsEdges_38 : decode cX10_readsEdges 38 = .ok (.iinc 1 1, 3) := by decide +kernel
theorem dX10_readsEdges_41 : decode cX10_readsEdges 41 = .ok (.goto (-39), 3) := by decide +kernel
theorem dX10_readsEdges_44 : decode cX10_readsEdges 44 = .ok (.iconst 0, 1) := by decide +kernel
theorem dX10_readsEdges_45 : decode cX10_readsEdges 45 = .ok (.istore_n 1, 1) := by decide +kernel
theorem dX10_readsEdges_46 : decode cX10_readsEdges 46 = .ok (.iload_n 1, 1) := by decide +kernel
theorem dX10_readsEdges_47 : decode cX10_readsEdges 47 = .ok (.aload_n 0, 1) := by decide +kernel
theorem dX10_readsEdges_48 : decode cX10_readsEdges 48 = .ok (.getfield 13, 3) := by decide +kernel
theorem dX10_readsEdges_51 : decode cX10_readsEdges 51 = .ok (.if_icmp .gt 165, 3) := by decide +kernel
theorem dX10_readsEdges_54 : decode cX10_readsEdges 54 = .ok (.aload_n 0, 1) := by decide +kernel
theorem dX10_readsEdges_55 : decode cX10_readsEdges 55 = .ok (.getfield 116, 3) := by decide +kernel
theorem dX10_readsEdges_58 : decode cX10_readsEdges 58 = .ok (.ifCond .ne 158, 3) := by decide +kernel
theorem dX10_readsEdges_61 : decode cX10_readsEdges 61 = .ok (.iconst 0, 1) := by decide +kernel
theorem dX10_readsEdges_62 : decode cX10_readsEdges 62 = .ok (.istore_n 2, 1) := by decide +kernel
theorem dX10_readsEdges_63 : decode cX10_readsEdges 63 = .ok (.iload_n 2, 1) := by decide +kernel
theorem dX10_readsEdges_64 : decode cX10_readsEdges 64 = .ok (.bipush 16, 2) := by decide +kernel
theorem dX10_readsEdges_66 : decode cX10_readsEdges 66 = .ok (.if_icmp .ge 16, 3) := by decide +kernel
theorem dX10_readsEdges_69 : decode cX10_readsEdges 69 = .ok (.aload_n 0, 1) := by decide +kernel
theorem dX10_readsEdges_70 : decode cX10_readsEdges 70 = .ok (.getfield 63, 3) := by decide +kernel
theorem dX10_readsEdges_73 : decode cX10_readsEdges 73 = .ok (.iload_n 2, 1) := by decide +kernel
theorem dX10_readsEdges_74 : decode cX10_readsEdges 74 = .ok (.iload_n 2, 1) := by decide +kernel
theorem dX10_readsEdges_75 : decode cX10_readsEdges 75 = .ok (.iastore, 1) := by decide +kernel
theorem dX10_readsEdges_76 : decode cX10_readsEdges 76 = .ok (.iinc 2 1, 3) := by decide +kernel
theorem dX10_readsEdges_79 : decode cX10_readsEdges 79 = .ok (.goto (-16), 3) := by decide +kernel
theorem dX10_readsEdges_82 : decode cX10_readsEdges 82 = .ok (.iconst 1, 1) := by decide +kernel
theorem dX10_readsEdges_83 : decode cX10_readsEdges 83 = .ok (.istore_n 2, 1) := by decide +kernel
theorem dX10_readsEdges_84 : decode cX10_readsEdges 84 = .ok (.iconst 0, 1) := by decide +kernel
theorem dX10_readsEdges_85 : decode cX10_readsEdges 85 = .ok (.istore_n 3, 1) := by decide +kernel
theorem dX10_readsEdges_86 : decode cX10_readsEdges 86 = .ok (.iload_n 3, 1) := by decide +kernel
theorem dX10_readsEdges_87 : decode cX10_readsEdges 87 = .ok (.aload_n 0, 1) := by decide +kernel
theorem dX10_readsEdges_88 : decode cX10_readsEdges 88 = .ok (.getfield 7, 3) := by decide +kernel
theorem dX10_readsEdges_91 : decode cX10_readsEdges 91 = .ok (.if_icmp .ge 110, 3) := by decide +kernel
theorem dX10_readsEdges_94 : decode cX10_readsEdges 94 = .ok (.iload_n 1, 1) := by decide +kernel
theorem dX10_readsEdges_95 : decode cX10_readsEdges 95 = .ok (.iload_n 3, 1) := by decide +kernel
theorem dX10_readsEdges_96 : decode cX10_readsEdges 96 = .ok (.ishr, 1) := by decide +kernel
theorem dX10_readsEdges_97 : decode cX10_readsEdges 97 = .ok (.iconst 1, 1) := by decide +kernel
theorem dX10_readsEdges_98 : decode cX10_readsEdges 98 = .ok (.iand, 1) := by decide +kernel
theorem dX10_readsEdges_99 : decode cX10_readsEdges 99 = .ok (.ifCond .ne 6, 3) := by decide +kernel
theorem dX10_readsEdges_102 : decode cX10_readsEdges 102 = .ok (.goto 93, 3) := by decide +kernel
theorem dX10_readsEdges_105 : decode cX10_readsEdges 105 = .ok (.aload_n 0, 1) := by decide +kernel
theorem dX10_readsEdges_106 : decode cX10_readsEdges 106 = .ok (.getfield 63, 3) := by decide +kernel
theorem dX10_readsEdges_109 : decode cX10_readsEdges 109 = .ok (.aload_n 0, 1) := by decide +kernel
theorem dX10_readsEdges_110 : decode cX10_readsEdges 110 = .ok (.getfield 57, 3) := by decide +kernel
theorem dX10_readsEdges_113 : decode cX10_readsEdges 113 = .ok (.iload_n 3, 1) := by decide +kernel
theorem dX10_readsEdges_114 : decode cX10_readsEdges 114 = .ok (.iaload, 1) := by decide +kernel
theorem dX10_readsEdges_115 : decode cX10_readsEdges 115 = .ok (.iaload, 1) := by decide +kernel
theorem dX10_readsEdges_116 : decode cX10_readsEdges 116 = .ok (.istore 4, 2) := by decide +kernel
theorem dX10_readsEdges_118 : decode cX10_readsEdges 118 = .ok (.aload_n 0, 1) := by decide +kernel
theorem dX10_readsEdges_119 : decode cX10_readsEdges 119 = .ok (.getfield 63, 3) := by decide +kernel
theorem dX10_readsEdges_122 : decode cX10_readsEdges 122 = .ok (.aload_n 0, 1) := by decide +kernel
theorem dX10_readsEdges_123 : decode cX10_readsEdges 123 = .ok (.getfield 60, 3) := by decide +kernel
theorem dX10_readsEdges_126 : decode cX10_readsEdges 126 = .ok (.iload_n 3, 1) := by decide +kernel
theorem dX10_readsEdges_127 : decode cX10_readsEdges 127 = .ok (.iaload, 1) := by decide +kernel
theorem dX10_readsEdges_128 : decode cX10_readsEdges 128 = .ok (.iaload, 1) := by decide +kernel
theorem dX10_readsEdges_129 : decode cX10_readsEdges 129 = .ok (.istore 5, 2) := by decide +kernel
theorem dX10_readsEdges_131 : decode cX10_readsEdges 131 = .ok (.iload_n 2, 1) := by decide +kernel
theorem dX10_readsEdges_132 : decode cX10_readsEdges 132 = .ok (.ifCond .eq 14, 3) := by decide +kernel
theorem dX10_readsEdges_135 : decode cX10_readsEdges 135 = .ok (.iload 4, 2) := by decide +kernel
theorem dX10_readsEdges_137 : decode cX10_readsEdges 137 = .ok (.iload 5, 2) := by decide +kernel
theorem dX10_readsEdges_139 : decode cX10_readsEdges 139 = .ok (.if_icmp .eq 7, 3) := by decide +kernel
theorem dX10_readsEdges_142 : decode cX10_readsEdges 142 = .ok (.iconst 1, 1) := by decide +kernel
theorem dX10_readsEdges_143 : decode cX10_readsEdges 143 = .ok (.goto 4, 3) := by decide +kernel
theorem dX10_readsEdges_146 : decode cX10_readsEdges 146 = .ok (.iconst 0, 1) := by decide +kernel
theorem dX10_readsEdges_147 : decode cX10_readsEdges 147 = .ok (.istore_n 2, 1) := by decide +kernel
theorem dX10_readsEdges_148 : decode cX10_readsEdges 148 = .ok (.iconst 0, 1) := by decide +kernel
theorem dX10_readsEdges_149 : decode cX10_readsEdges 149 = .ok (.istore 6, 2) := by decide +kernel
theorem dX10_readsEdges_151 : decode cX10_readsEdges 151 = .ok (.iload 6, 2) := by decide +kernel
theorem dX10_readsEdges_153 : decode cX10_readsEdges 153 = .ok (.bipush 16, 2) := by decide +kernel
theorem dX10_readsEdges_155 : decode cX10_readsEdges 155 = .ok (.if_icmp .ge 40, 3) := by decide +kernel
theorem dX10_readsEdges_158 : decode cX10_readsEdges 158 = .ok (.aload_n 0, 1) := by decide +kernel
theorem dX10_readsEdges_159 : decode cX10_readsEdges 159 = .ok (.getfield 63, 3) := by decide +kernel
theorem dX10_readsEdges_162 : decode cX10_readsEdges 162 = .ok (.iload 6, 2) := by decide +kernel
theorem dX10_readsEdges_164 : decode cX10_readsEdges 164 = .ok (.aload_n 0, 1) := by decide +kernel
theorem dX10_readsEdges_165 : decode cX10_readsEdges 165 = .ok (.getfield 63, 3) := by decide +kernel
theorem dX10_readsEdges_168 : decode cX10_readsEdges 168 = .ok (.iload 6, 2) := by decide +kernel
theorem dX10_readsEdges_170 : decode cX10_readsEdges 170 = .ok (.iaload, 1) := by decide +kernel
theorem dX10_readsEdges_171 : decode cX10_readsEdges 171 = .ok (.iload 4, 2) := by decide +kernel
theorem dX10_readsEdges_173 : decode cX10_readsEdges 173 = .ok (.if_icmp .ne 8, 3) := by decide +kernel
theorem dX10_readsEdges_176 : decode cX10_readsEdges 176 = .ok (.iload 5, 2) := by decide +kernel
theorem dX10_readsEdges_178 : decode cX10_readsEdges 178 = .ok (.goto 10, 3) := by decide +kernel
theorem dX10_readsEdges_181 : decode cX10_readsEdges 181 = .ok (.aload_n 0, 1) := by decide +kernel
theorem dX10_readsEdges_182 : decode cX10_readsEdges 182 = .ok (.getfield 63, 3) := by decide +kernel
theorem dX10_readsEdges_185 : decode cX10_readsEdges 185 = .ok (.iload 6, 2) := by decide +kernel
theorem dX10_readsEdges_187 : decode cX10_readsEdges 187 = .ok (.iaload, 1) := by decide +kernel
theorem dX10_readsEdges_188 : decode cX10_readsEdges 188 = .ok (.iastore, 1) := by decide +kernel
theorem dX10_readsEdges_189 : decode cX10_readsEdges 189 = .ok (.iinc 6 1, 3) := by decide +kernel
theorem dX10_readsEdges_192 : decode cX10_readsEdges 192 = .ok (.goto (-41), 3) := by decide +kernel
theorem dX10_readsEdges_195 : decode cX10_readsEdges 195 = .ok (.iinc 3 1, 3) := by decide +kernel
theorem dX10_readsEdges_198 : decode cX10_readsEdges 198 = .ok (.goto (-112), 3) := by decide +kernel
theorem dX10_readsEdges_201 : decode cX10_readsEdges 201 = .ok (.iload_n 2, 1) := by decide +kernel
theorem dX10_readsEdges_202 : decode cX10_readsEdges 202 = .ok (.ifCond .eq 8, 3) := by decide +kernel
theorem dX10_readsEdges_205 : decode cX10_readsEdges 205 = .ok (.aload_n 0, 1) := by decide +kernel
theorem dX10_readsEdges_206 : decode cX10_readsEdges 206 = .ok (.iload_n 1, 1) := by decide +kernel
theorem dX10_readsEdges_207 : decode cX10_readsEdges 207 = .ok (.invokevirtual 156, 3) := by decide +kernel
theorem dX10_readsEdges_210 : decode cX10_readsEdges 210 = .ok (.iinc 1 1, 3) := by decide +kernel
theorem dX10_readsEdges_213 : decode cX10_readsEdges 213 = .ok (.goto (-167), 3) := by decide +kernel
theorem dX10_readsEdges_216 : decode cX10_readsEdges 216 = .ok (.return_, 1) := by decide +kernel
theorem dX10_readsRows_0 : decode cX10_readsRows 0 = .ok (.aload_n 0, 1) := by decide +kernel
theorem dX10_readsRows_1 : decode cX10_readsRows 1 = .ok (.ldc2_w 174, 3) := by decide +kernel
theorem dX10_readsRows_4 : decode cX10_readsRows 4 = .ok (.ldc2_w 176, 3) := by decide +kernel
theorem dX10_readsRows_7 : decode cX10_readsRows 7 = .ok (.invokevirtual 152, 3) := by decide +kernel
theorem dX10_readsRows_10 : decode cX10_readsRows 10 = .ok (.istore_n 1, 1) := by decide +kernel
theorem dX10_readsRows_11 : decode cX10_readsRows 11 = .ok (.aload_n 0, 1) := by decide +kernel
theorem dX10_readsRows_12 : decode cX10_readsRows 12 = .ok (.getfield 116, 3) := by decide +kernel
theorem dX10_readsRows_15 : decode cX10_readsRows 15 = .ok (.ifCond .ne 30, 3) := by decide +kernel
theorem dX10_readsRows_18 : decode cX10_readsRows 18 = .ok (.iload_n 1, 1) := by decide +kernel
theorem dX10_readsRows_19 : decode cX10_readsRows 19 = .ok (.iconst 2, 1) := by decide +kernel
theorem dX10_readsRows_20 : decode cX10_readsRows 20 = .ok (.if_icmp .eq 25, 3) := by decide +kernel
theorem dX10_readsRows_23 : decode cX10_readsRows 23 = .ok (.iload_n 1, 1) := by decide +kernel
theorem dX10_readsRows_24 : decode cX10_readsRows 24 = .ok (.iconst 3, 1) := by decide +kernel
theorem dX10_readsRows_25 : decode cX10_readsRows 25 = .ok (.if_icmp .eq 20, 3) := by decide +kernel
theorem dX10_readsRows_28 : decode cX10_readsRows 28 = .ok (.iload_n 1, 1) := by decide +kernel
theorem dX10_readsRows_29 : decode cX10_readsRows 29 = .ok (.iconst 5, 1) := by decide +kernel
theorem dX10_readsRows_30 : decode cX10_readsRows 30 = .ok (.if_icmp .eq 15, 3) := by decide +kernel
theorem dX10_readsRows_33 : decode cX10_readsRows 33 = .ok (.iload_n 1, 1) := by decide +kernel
theorem dX10_readsRows_34 : decode cX10_readsRows 34 = .ok (.bipush 7, 2) := by decide +kernel
theorem dX10_readsRows_36 : decode cX10_readsRows 36 = .ok (.if_icmp .eq 9, 3) := by decide +kernel
theorem dX10_readsRows_39 : decode cX10_readsRows 39 = .ok (.aload_n 0, 1) := by decide +kernel
theorem dX10_readsRows_40 : decode cX10_readsRows 40 = .ok (.bipush (-4), 2) := by decide +kernel
theorem dX10_readsRows_42 : decode cX10_readsRows 42 = .ok (.putfield 116, 3) := by decide +kernel
theorem dX10_readsRows_45 : decode cX10_readsRows 45 = .ok (.aload_n 0, 1) := by decide +kernel
theorem dX10_readsRows_46 : decode cX10_readsRows 46 = .ok (.lconst 1, 1) := by decide +kernel
theorem dX10_readsRows_47 : decode cX10_readsRows 47 = .ok (.ldc2_w 178, 3) := by decide +kernel
theorem dX10_readsRows_50 : decode cX10_readsRows 50 = .ok (.invokevirtual 152, 3) := by decide +kernel
theorem dX10_readsRows_53 : decode cX10_readsRows 53 = .ok (.istore_n 2, 1) := by decide +kernel
theorem dX10_readsRows_54 : decode cX10_readsRows 54 = .ok (.iconst 0, 1) := by decide +kernel
theorem dX10_readsRows_55 : decode cX10_readsRows 55 = .ok (.istore_n 3, 1) := by decide +kernel
theorem dX10_readsRows_56 : decode cX10_readsRows 56 = .ok (.iload_n 3, 1) := by decide +kernel
theorem dX10_readsRows_57 : decode cX10_readsRows 57 = .ok (.aload_n 0, 1) := by decide +kernel
theorem dX10_readsRows_58 : decode cX10_readsRows 58 = .ok (.getfield 7, 3) := by decide +kernel
theorem dX10_readsRows_61 : decode cX10_readsRows 61 = .ok (.if_icmp .ge 45, 3) := by decide +kernel
theorem dX10_readsRows_64 : decode cX10_readsRows 64 = .ok (.iconst 0, 1) := by decide +kernel
theorem dX10_readsRows_65 : decode cX10_readsRows 65 = .ok (.istore 4, 2) := by decide +kernel
theorem dX10_readsRows_67 : decode cX10_readsRows 67 = .ok (.iload 4, 2) := by decide +kernel
theorem dX10_readsRows_69 : decode cX10_readsRows 69 = .ok (.iload_n 2, 1) := by decide +kernel
theorem dX10_readsRows_70 : decode cX10_readsRows 70 = .ok (.if_icmp .ge 30, 3) := by decide +kernel
theorem dX10_readsRows_73 : decode cX10_readsRows 73 = .ok (.aload_n 0, 1) := by decide +kernel
theorem dX10_readsRows_74 : decode cX10_readsRows 74 = .ok (.getfield 66, 3) := by decide +kernel
theorem dX10_readsRows_77 : decode cX10_readsRows 77 = .ok (.bipush 6, 2) := by decide +kernel
theorem dX10_readsRows_79 : decode cX10_readsRows 79 = .ok (.iload_n 3, 1) := by decide +kernel
theorem dX10_readsRows_80 : decode cX10_readsRows 80 = .ok (.imul, 1) := by decide +kernel
theorem dX10_readsRows_81 : decode cX10_readsRows 81 = .ok (.iload 4, 2) := by decide +kernel
theorem dX10_readsRows_83 : decode cX10_readsRows 83 = .ok (.iadd, 1) := by decide +kernel
theorem dX10_readsRows_84 : decode cX10_readsRows 84 = .ok (.aload_n 0, 1) := by decide +kernel
theorem dX10_readsRows_85 : decode cX10_readsRows 85 = .ok (.lconst 0, 1) := by decide +kernel
theorem dX10_readsRows_86 : decode cX10_readsRows 86 = .ok (.iload_n 1, 1) := by decide +kernel
theorem dX10_readsRows_87 : decode cX10_readsRows 87 = .ok (.iconst 1, 1) := by decide +kernel
theorem dX10_readsRows_88 : decode cX10_readsRows 88 = .ok (.isub, 1) := by decide +kernel
theorem dX10_readsRows_89 : decode cX10_readsRows 89 = .ok (.i2l, 1) := by decide +kernel
theorem dX10_readsRows_90 : decode cX10_readsRows 90 = .ok (.invokevirtual 152, 3) := by decide +kernel
theorem dX10_readsRows_93 : decode cX10_readsRows 93 = .ok (.iastore, 1) := by decide +kernel
theorem dX10_readsRows_94 : decode cX10_readsRows 94 = .ok (.iinc 4 1, 3) := by decide +kernel
theorem dX10_readsRows_97 : decode cX10_readsRows 97 = .ok (.goto (-30), 3) := by decide +kernel
theorem dX10_readsRows_100 : decode cX10_readsRows 100 = .ok (.iinc 3 1, 3) := by decide +kernel
theorem dX10_readsRows_103 : decode cX10_readsRows 103 = .ok (.goto (-47), 3) := by decide +kernel
theorem dX10_readsRows_106 : decode cX10_readsRows 106 = .ok (.iconst 0, 1) := by decide +kernel
theorem dX10_readsRows_107 : decode cX10_readsRows 107 = .ok (.istore_n 3, 1) := by decide +kernel
theorem dX10_readsRows_108 : decode cX10_readsRows 108 = .ok (.iload_n 3, 1) := by decide +kernel
theorem dX10_readsRows_109 : decode cX10_readsRows 109 = .ok (.aload_n 0, 1) := by decide +kernel
theorem dX10_readsRows_110 : decode cX10_readsRows 110 = .ok (.getfield 13, 3) := by decide +kernel
theorem dX10_readsRows_113 : decode cX10_readsRows 113 = .ok (.if_icmp .gt 31, 3) := by decide +kernel
theorem dX10_readsRows_116 : decode cX10_readsRows 116 = .ok (.aload_n 0, 1) := by decide +kernel
theorem dX10_readsRows_117 : decode cX10_readsRows 117 = .ok (.getfield 116, 3) := by decide +kernel
theorem dX10_readsRows_120 : decode cX10_readsRows 120 = .ok (.ifCond .ne 24, 3) := by decide +kernel
theorem dX10_readsRows_123 : decode cX10_readsRows 123 = .ok (.aload_n 0, 1) := by decide +kernel
theorem dX10_readsRows_124 : decode cX10_readsRows 124 = .ok (.iload_n 3, 1) := by decide +kernel
theorem dX10_readsRows_125 : decode cX10_readsRows 125 = .ok (.iload_n 1, 1) := by decide +kernel
theorem dX10_readsRows_126 : decode cX10_readsRows 126 = .ok (.iload_n 2, 1) := by decide +kernel
theorem dX10_readsRows_127 : decode cX10_readsRows 127 = .ok (.invokevirtual 180, 3) := by decide +kernel
theorem dX10_readsRows_130 : decode cX10_readsRows 130 = .ok (.ifCond .eq 8, 3) := by decide +kernel
theorem dX10_readsRows_133 : decode cX10_readsRows 133 = .ok (.aload_n 0, 1) := by decide +kernel
theorem dX10_readsRows_134 : decode cX10_readsRows 134 = .ok (.iload_n 3, 1) := by decide +kernel
theorem dX10_readsRows_135 : decode cX10_readsRows 135 = .ok (.invokevirtual 156, 3) := by decide +kernel
theorem dX10_readsRows_138 : decode cX10_readsRows 138 = .ok (.iinc 3 1, 3) := by decide +kernel
theorem dX10_readsRows_141 : decode cX10_readsRows 141 = .ok (.goto (-33), 3) := by decide +kernel
theorem dX10_readsRows_144 : decode cX10_readsRows 144 = .ok (.return_, 1) := by decide +kernel
theorem dX10_isFree_0 : decode cX10_isFree 0 = .ok (.iconst 0, 1) := by decide +kernel
theorem dX10_isFree_1 : decode cX10_isFree 1 = .ok (.istore 4, 2) := by decide +kernel
theorem dX10_isFree_3 : decode cX10_isFree 3 = .ok (.iconst 0, 1) := by decide +kernel
theorem dX10_isFree_4 : decode cX10_isFree 4 = .ok (.istore 5, 2) := by decide +kernel
theorem dX10_isFree_6 : decode cX10_isFree 6 = .ok (.iload 5, 2) := by decide +kernel
theorem dX10_isFree_8 : decode cX10_isFree 8 = .ok (.aload_n 0, 1) := by decide +kernel
theorem dX10_isFree_9 : decode cX10_isFree 9 = .ok (.getfield 7, 3) := by decide +kernel
theorem dX10_isFree_12 : decode cX10_isFree 12 = .ok (.if_icmp .ge 261, 3) := by decide +kernel
theorem dX10_isFree_15 : decode cX10_isFree 15 = .ok (.iload_n 1, 1) := by decide +kernel
theorem dX10_isFree_16 : decode cX10_isFree 16 = .ok (.iload 5, 2) := by decide +kernel
theorem dX10_isFree_18 : decode cX10_isFree 18 = .ok (.ishr, 1) := by decide +kernel
theorem dX10_isFree_19 : decode cX10_isFree 19 = .ok (.iconst 1, 1) := by decide +kernel
theorem dX10_isFree_20 : decode cX10_isFree 20 = .ok (.iand, 1) := by decide +kernel
theorem dX10_isFree_21 : decode cX10_isFree 21 = .ok (.ifCond .ne 6, 3) := by decide +kernel
theorem dX10_isFree_24 : decode cX10_isFree 24 = .ok (.goto 243, 3) := by decide +kernel
theorem dX10_isFree_27 : decode cX10_isFree 27 = .ok (.iconst 0, 1) := by decide +kernel
theorem dX10_isFree_28 : decode cX10_isFree 28 = .ok (.istore 6, 2) := by decide +kernel
theorem dX10_isFree_30 : decode cX10_isFree 30 = .ok (.iload 6, 2) := by decide +kernel
theorem dX10_isFree_32 : decode cX10_isFree 32 = .ok (.iload_n 3, 1) := by decide +kernel
theorem dX10_isFree_33 : decode cX10_isFree 33 = .ok (.if_icmp .ge 35, 3) := by decide +kernel
theorem dX10_isFree_36 : decode cX10_isFree 36 = .ok (.aload_n 0, 1) := by decide +kernel
theorem dX10_isFree_37 : decode cX10_isFree 37 = .ok (.getfield 69, 3) := by decide +kernel
theorem dX10_isFree_40 : decode cX10_isFree 40 = .ok (.bipush 6, 2) := by decide +kernel
theorem dX10_isFree_42 : decode cX10_isFree 42 = .ok (.iload 4, 2) := by decide +kernel
theorem dX10_isFree_44 : decode cX10_isFree 44 = .ok (.imul, 1) := by decide +kernel
theorem dX10_isFree_45 : decode cX10_isFree 45 = .ok (.iload 6, 2) := by decide +kernel
theorem dX10_isFree_47 : decode cX10_isFree 47 = .ok (.iadd, 1) := by decide +kernel
theorem dX10_isFree_48 : decode cX10_isFree 48 = .ok (.aload_n 0, 1) := by decide +kernel
theorem dX10_isFree_49 : decode cX10_isFree 49 = .ok (.getfield 66, 3) := by decide +kernel
theorem dX10_isFree_52 : decode cX10_isFree 52 = .ok (.bipush 6, 2) := by decide +kernel
theorem dX10_isFree_54 : decode cX10_isFree 54 = .ok (.iload 5, 2) := by decide +kernel
theorem dX10_isFree_56 : decode cX10_isFree 56 = .ok (.imul, 1) := by decide +kernel
theorem dX10_isFree_57 : decode cX10_isFree 57 = .ok (.iload 6, 2) := by decide +kernel
theorem dX10_isFree_59 : decode cX10_isFree 59 = .ok (.iadd, 1) := by decide +kernel
theorem dX10_isFree_60 : decode cX10_isFree 60 = .ok (.iaload, 1) := by decide +kernel
theorem dX10_isFree_61 : decode cX10_isFree 61 = .ok (.iastore, 1) := by decide +kernel
theorem dX10_isFree_62 : decode cX10_isFree 62 = .ok (.iinc 6 1, 3) := by decide +kernel
theorem dX10_isFree_65 : decode cX10_isFree 65 = .ok (.goto (-35), 3) := by decide +kernel
theorem dX10_isFree_68 : decode cX10_isFree 68 = .ok (.iconst 0, 1) := by decide +kernel
theorem dX10_isFree_69 : decode cX10_isFree 69 = .ok (.istore 6, 2) := by decide +kernel
theorem dX10_isFree_71 : decode cX10_isFree 71 = .ok (.iload 6, 2) := by decide +kernel
theorem dX10_isFree_73 : decode cX10_isFree 73 = .ok (.iload 4, 2) := by decide +kernel
theorem dX10_isFree_75 : decode cX10_isFree 75 = .ok (.if_icmp .ge 95, 3) := by decide +kernel
theorem dX10_isFree_78 : decode cX10_isFree 78 = .ok (.aload_n 0, 1) := by decide +kernel
theorem dX10_isFree_79 : decode cX10_isFree 79 = .ok (.iload 6, 2) := by decide +kernel
theorem dX10_isFree_81 : decode cX10_isFree 81 = .ok (.iload_n 3, 1) := by decide +kernel
theorem dX10_isFree_82 : decode cX10_isFree 82 = .ok (.invokevirtual 183, 3) := by decide +kernel
theorem dX10_isFree_85 : decode cX10_isFree 85 = .ok (.istore 7, 2) := by decide +kernel
theorem dX10_isFree_87 : decode cX10_isFree 87 = .ok (.aload_n 0, 1) := by decide +kernel
theorem dX10_isFree_88 : decode cX10_isFree 88 = .ok (.getfield 69, 3) := by decide +kernel
theorem dX10_isFree_91 : decode cX10_isFree 91 = .ok (.bipush 6, 2) := by decide +kernel
theorem dX10_isFree_93 : decode cX10_isFree 93 = .ok (.iload 4, 2) := by decide +kernel
theorem dX10_isFree_95 : decode cX10_isFree 95 = .ok (.imul, 1) := by decide +kernel
theorem dX10_isFree_96 : decode cX10_isFree 96 = .ok (.iload 7, 2) := by decide +kernel
theorem dX10_isFree_98 : decode cX10_isFree 98 = .ok (.iadd, 1) := by decide +kernel
theorem dX10_isFree_99 : decode cX10_isFree 99 = .ok (.iaload, 1) := by decide +kernel
theorem dX10_isFree_100 : decode cX10_isFree 100 = .ok (.istore 8, 2) := by decide +kernel
theorem dX10_isFree_102 : decode cX10_isFree 102 = .ok (.iconst 0, 1) := by decide +kernel
theorem dX10_isFree_103 : decode cX10_isFree 103 = .ok (.istore 9, 2) := by decide +kernel
theorem dX10_isFree_105 : decode cX10_isFree 105 = .ok (.iload 9, 2) := by decide +kernel
theorem dX10_isFree_107 : decode cX10_isFree 107 = .ok (.iload_n 3, 1) := by decide +kernel
theorem dX10_isFree_108 : decode cX10_isFree 108 = .ok (.if_icmp .ge 56, 3) := by decide +kernel
theorem dX10_isFree_111 : decode cX10_isFree 111 = .ok (.aload_n 0, 1) := by decide +kernel
theorem dX10_isFree_112 : decode cX10_isFree 112 = .ok (.getfield 69, 3) := by decide +kernel
theorem dX10_isFree_115 : decode cX10_isFree 115 = .ok (.bipush 6, 2) := by decide +kernel
theorem dX10_isFree_117 : decode cX10_isFree 117 = .ok (.iload 4, 2) := by decide +kernel
theorem dX10_isFree_119 : decode cX10_isFree 119 = .ok (.imul, 1) := by decide +kernel
theorem dX10_isFree_120 : decode cX10_isFree 120 = .ok (.iload 9, 2) := by decide +kernel
theorem dX10_isFree_122 : decode cX10_isFree 122 = .ok (.iadd, 1) := by decide +kernel
theorem dX10_isFree_123 : decode cX10_isFree 123 = .ok (.aload_n 0, 1) := by decide +kernel
theorem dX10_isFree_124 : decode cX10_isFree 124 = .ok (.getfield 69, 3) := by decide +kernel
theorem dX10_isFree_127 : decode cX10_isFree 127 = .ok (.bipush 6, 2) := by decide +kernel
theorem dX10_isFree_129 : decode cX10_isFree 129 = .ok (.iload 4, 2) := by decide +kernel
theorem dX10_isFree_131 : decode cX10_isFree 131 = .ok (.imul, 1) := by decide +kernel
theorem dX10_isFree_132 : decode cX10_isFree 132 = .ok (.iload 9, 2) := by decide +kernel
theorem dX10_isFree_134 : decode cX10_isFree 134 = .ok (.iadd, 1) := by decide +kernel
theorem dX10_isFree_135 : decode cX10_isFree 135 = .ok (.iaload, 1) := by decide +kernel
theorem dX10_isFree_136 : decode cX10_isFree 136 = .ok (.iload 8, 2) := by decide +kernel
theorem dX10_isFree_138 : decode cX10_isFree 138 = .ok (.aload_n 0, 1) := by decide +kernel
theorem dX10_isFree_139 : decode cX10_isFree 139 = .ok (.getfield 69, 3) := by decide +kernel
theorem dX10_isFree_142 : decode cX10_isFree 142 = .ok (.bipush 6, 2) := by decide +kernel
theorem dX10_isFree_144 : decode cX10_isFree 144 = .ok (.iload 6, 2) := by decide +kernel
theorem dX10_isFree_146 : decode cX10_isFree 146 = .ok (.imul, 1) := by decide +kernel
theorem dX10_isFree_147 : decode cX10_isFree 147 = .ok (.iload 9, 2) := by decide +kernel
theorem dX10_isFree_149 : decode cX10_isFree 149 = .ok (.iadd, 1) := by decide +kernel
theorem dX10_isFree_150 : decode cX10_isFree 150 = .ok (.iaload, 1) := by decide +kernel
theorem dX10_isFree_151 : decode cX10_isFree 151 = .ok (.imul, 1) := by decide +kernel
theorem dX10_isFree_152 : decode cX10_isFree 152 = .ok (.isub, 1) := by decide +kernel
theorem dX10_isFree_153 : decode cX10_isFree 153 = .ok (.iload_n 2, 1) := by decide +kernel
theorem dX10_isFree_154 : decode cX10_isFree 154 = .ok (.invokestatic 186, 3) := by decide +kernel
theorem dX10_isFree_157 : decode cX10_isFree 157 = .ok (.iastore, 1) := by decide +kernel
theorem dX10_isFree_158 : decode cX10_isFree 158 = .ok (.iinc 9 1, 3) := by decide +kernel
theorem dX10_isFree_161 : decode cX10_isFree 161 = .ok (.goto (-56), 3) := by decide +kernel
theorem dX10_isFree_164 : decode cX10_isFree 164 = .ok (.iinc 6 1, 3) := by decide +kernel
theorem dX10_isFree_167 : decode cX10_isFree 167 = .ok (.goto (-96), 3) := by decide +kernel
theorem dX10_isFree_170 : decode cX10_isFree 170 = .ok (.aload_n 0, 1) := by decide +kernel
theorem dX10_isFree_171 : decode cX10_isFree 171 = .ok (.iload 4, 2) := by decide +kernel
theorem dX10_isFree_173 : decode cX10_isFree 173 = .ok (.iload_n 3, 1) := by decide +kernel
theorem dX10_isFree_174 : decode cX10_isFree 174 = .ok (.invokevirtual 183, 3) := by decide +kernel
theorem dX10_isFree_177 : decode cX10_isFree 177 = .ok (.istore 6, 2) := by decide +kernel
theorem dX10_isFree_179 : decode cX10_isFree 179 = .ok (.iload 6, 2) := by decide +kernel
theorem dX10_isFree_181 : decode cX10_isFree 181 = .ok (.iload_n 3, 1) := by decide +kernel
theorem dX10_isFree_182 : decode cX10_isFree 182 = .ok (.if_icmp .ne 5, 3) := by decide +kernel
theorem dX10_isFree_185 : decode cX10_isFree 185 = .ok (.iconst 0, 1) := by decide +kernel
theorem dX10_isFree_186 : decode cX10_isFree 186 = .ok (.ireturn, 1) := by decide +kernel
theorem dX10_isFree_187 : decode cX10_isFree 187 = .ok (.iconst 1, 1) := by decide +kernel
theorem dX10_isFree_188 : decode cX10_isFree 188 = .ok (.istore 7, 2) := by decide +kernel
theorem dX10_isFree_190 : decode cX10_isFree 190 = .ok (.iload 7, 2) := by decide +kernel
theorem dX10_isFree_192 : decode cX10_isFree 192 = .ok (.aload_n 0, 1) := by decide +kernel
theorem dX10_isFree_193 : decode cX10_isFree 193 = .ok (.getfield 69, 3) := by decide +kernel
theorem dX10_isFree_196 : decode cX10_isFree 196 = .ok (.bipush 6, 2) := by decide +kernel
theorem dX10_isFree_198 : decode cX10_isFree 198 = .ok (.iload 4, 2) := by decide +kernel
theorem dX10_isFree_200 : decode cX10_isFree 200 = .ok (.imul, 1) := by decide +kernel
theorem dX10_isFree_201 : decode cX10_isFree 201 = .ok (.iload 6, 2) := by decide +kernel
theorem dX10_isFree_203 : decode cX10_isFree 203 = .ok (.iadd, 1) := by decide +kernel
theorem dX10_isFree_204 : decode cX10_isFree 204 = .ok (.iaload, 1) := by decide +kernel
theorem dX10_isFree_205 : decode cX10_isFree 205 = .ok (.imul, 1) := by decide +kernel
theorem dX10_isFree_206 : decode cX10_isFree 206 = .ok (.iload_n 2, 1) := by decide +kernel
theorem dX10_isFree_207 : decode cX10_isFree 207 = .ok (.irem, 1) := by decide +kernel
theorem dX10_isFree_208 : decode cX10_isFree 208 = .ok (.iconst 1, 1) := by decide +kernel
theorem dX10_isFree_209 : decode cX10_isFree 209 = .ok (.if_icmp .eq 9, 3) := by decide +kernel
theorem dX10_isFree_212 : decode cX10_isFree 212 = .ok (.iinc 7 1, 3) := by decide +kernel
theorem dX10_isFree_215 : decode cX10_isFree 215 = .ok (.goto (-25), 3) := by decide +kernel
theorem dX10_isFree_218 : decode cX10_isFree 218 = .ok (.iconst 0, 1) := by decide +kernel
theorem dX10_isFree_219 : decode cX10_isFree 219 = .ok (.istore 8, 2) := by decide +kernel
theorem dX10_isFree_221 : decode cX10_isFree 221 = .ok (.iload 8, 2) := by decide +kernel
theorem dX10_isFree_223 : decode cX10_isFree 223 = .ok (.iload_n 3, 1) := by decide +kernel
theorem dX10_isFree_224 : decode cX10_isFree 224 = .ok (.if_icmp .ge 40, 3) := by decide +kernel
theorem dX10_isFree_227 : decode cX10_isFree 227 = .ok (.aload_n 0, 1) := by decide +kernel
theorem dX10_isFree_228 : decode cX10_isFree 228 = .ok (.getfield 69, 3) := by decide +kernel
theorem dX10_isFree_231 : decode cX10_isFree 231 = .ok (.bipush 6, 2) := by decide +kernel
theorem dX10_isFree_233 : decode cX10_isFree 233 = .ok (.iload 4, 2) := by decide +kernel
theorem dX10_isFree_235 : decode cX10_isFree 235 = .ok (.imul, 1) := by decide +kernel
theorem dX10_isFree_236 : decode cX10_isFree 236 = .ok (.iload 8, 2) := by decide +kernel
theorem dX10_isFree_238 : decode cX10_isFree 238 = .ok (.iadd, 1) := by decide +kernel
theorem dX10_isFree_239 : decode cX10_isFree 239 = .ok (.iload 7, 2) := by decide +kernel
theorem dX10_isFree_241 : decode cX10_isFree 241 = .ok (.aload_n 0, 1) := by decide +kernel
theorem dX10_isFree_242 : decode cX10_isFree 242 = .ok (.getfield 69, 3) := by decide +kernel
theorem dX10_isFree_245 : decode cX10_isFree 245 = .ok (.bipush 6, 2) := by decide +kernel
theorem dX10_isFree_247 : decode cX10_isFree 247 = .ok (.iload 4, 2) := by decide +kernel
theorem dX10_isFree_249 : decode cX10_isFree 249 = .ok (.imul, 1) := by decide +kernel
theorem dX10_isFree_250 : decode cX10_isFree 250 = .ok (.iload 8, 2) := by decide +kernel
theorem dX10_isFree_252 : decode cX10_isFree 252 = .ok (.iadd, 1) := by decide +kernel
theorem dX10_isFree_253 : decode cX10_isFree 253 = .ok (.iaload, 1) := by decide +kernel
theorem dX10_isFree_254 : decode cX10_isFree 254 = .ok (.imul, 1) := by decide +kernel
theorem dX10_isFree_255 : decode cX10_isFree 255 = .ok (.iload_n 2, 1) := by decide +kernel
theorem dX10_isFree_256 : decode cX10_isFree 256 = .ok (.irem, 1) := by decide +kernel
theorem dX10_isFree_257 : decode cX10_isFree 257 = .ok (.iastore, 1) := by decide +kernel
theorem dX10_isFree_258 : decode cX10_isFree 258 = .ok (.iinc 8 1, 3) := by decide +kernel
theorem dX10_isFree_261 : decode cX10_isFree 261 = .ok (.goto (-40), 3) := by decide +kernel
theorem dX10_isFree_264 : decode cX10_isFree 264 = .ok (.iinc 4 1, 3) := by decide +kernel
theorem dX10_isFree_267 : decode cX10_isFree 267 = .ok (.iinc 5 1, 3) := by decide +kernel
theorem dX10_isFree_270 : decode cX10_isFree 270 = .ok (.goto (-264), 3) := by decide +kernel
theorem dX10_isFree_273 : decode cX10_isFree 273 = .ok (.iconst 1, 1) := by decide +kernel
theorem dX10_isFree_274 : decode cX10_isFree 274 = .ok (.ireturn, 1) := by decide +kernel
theorem dX10_lead_0 : decode cX10_lead 0 = .ok (.iconst 0, 1) := by decide +kernel
theorem dX10_lead_1 : decode cX10_lead 1 = .ok (.istore_n 3, 1) := by decide +kernel
theorem dX10_lead_2 : decode cX10_lead 2 = .ok (.iload_n 3, 1) := by decide +kernel
theorem dX10_lead_3 : decode cX10_lead 3 = .ok (.iload_n 2, 1) := by decide +kernel
theorem dX10_lead_4 : decode cX10_lead 4 = .ok (.if_icmp .ge 23, 3) := by decide +kernel
theorem dX10_lead_7 : decode cX10_lead 7 = .ok (.aload_n 0, 1) := by decide +kernel
theorem dX10_lead_8 : decode cX10_lead 8 = .ok (.getfield 69, 3) := by decide +kernel
theorem dX10_lead_11 : decode cX10_lead 11 = .ok (.bipush 6, 2) := by decide +kernel
theorem dX10_lead_13 : decode cX10_lead 13 = .ok (.iload_n 1, 1) := by decide +kernel
theorem dX10_lead_14 : decode cX10_lead 14 = .ok (.imul, 1) := by decide +kernel
theorem dX10_lead_15 : decode cX10_lead 15 = .ok (.iload_n 3, 1) := by decide +kernel
theorem dX10_lead_16 : decode cX10_lead 16 = .ok (.iadd, 1) := by decide +kernel
theorem dX10_lead_17 : decode cX10_lead 17 = .ok (.iaload, 1) := by decide +kernel
theorem dX10_lead_18 : decode cX10_lead 18 = .ok (.ifCond .ne 9, 3) := by decide +kernel
theorem dX10_lead_21 : decode cX10_lead 21 = .ok (.iinc 3 1, 3) := by decide +kernel
theorem dX10_lead_24 : decode cX10_lead 24 = .ok (.goto (-22), 3) := by decide +kernel
theorem dX10_lead_27 : decode cX10_lead 27 = .ok (.iload_n 3, 1) := by decide +kernel
theorem dX10_lead_28 : decode cX10_lead 28 = .ok (.ireturn, 1) := by decide +kernel
theorem dX10_readsPlaces_0 : decode cX10_readsPlaces 0 = .ok (.iconst 0, 1) := by decide +kernel
theorem dX10_readsPlaces_1 : decode cX10_readsPlaces 1 = .ok (.istore_n 1, 1) := by decide +kernel
theorem dX10_readsPlaces_2 : decode cX10_readsPlaces 2 = .ok (.iload_n 1, 1) := by decide +kernel
theorem dX10_readsPlaces_3 : decode cX10_readsPlaces 3 = .ok (.aload_n 0, 1) := by decide +kernel
theorem dX10_readsPlaces_4 : decode cX10_readsPlaces 4 = .ok (.getfield 7, 3) := by decide +kernel
theorem dX10_readsPlaces_7 : decode cX10_readsPlaces 7 = .ok (.if_icmp .ge 23, 3) := by decide +kernel
theorem dX10_readsPlaces_10 : decode cX10_readsPlaces 10 = .ok (.aload_n 0, 1) := by decide +kernel
theorem dX10_readsPlaces_11 : decode cX10_readsPlaces 11 = .ok (.getfield 57, 3) := by decide +kernel
theorem dX10_readsPlaces_14 : decode cX10_readsPlaces 14 = .ok (.iload_n 1, 1) := by decide +kernel
theorem dX10_readsPlaces_15 : decode cX10_readsPlaces 15 = .ok (.aload_n 0, 1) := by decide +kernel
theorem dX10_readsPlaces_16 : decode cX10_readsPlaces 16 = .ok (.lconst 0, 1) := by decide +kernel
theorem dX10_readsPlaces_17 : decode cX10_readsPlaces 17 = .ok (.ldc2_w 189, 3) := by decide +kernel
theorem dX10_readsPlaces_20 : decode cX10_readsPlaces 20 = .ok (.invokevirtual 152, 3) := by decide +kernel
theorem dX10_readsPlaces_23 : decode cX10_readsPlaces 23 = .ok (.iastore, 1) := by decide +kernel
theorem dX10_readsPlaces_24 : decode cX10_readsPlaces 24 = .ok (.iinc 1 1, 3) := by decide +kernel
theorem dX10_readsPlaces_27 : decode cX10_readsPlaces 27 = .ok (.goto (-25), 3) := by decide +kernel
theorem dX10_readsPlaces_30 : decode cX10_readsPlaces 30 = .ok (.iconst 0, 1) := by decide +kernel
theorem dX10_readsPlaces_31 : decode cX10_readsPlaces 31 = .ok (.istore_n 1, 1) := by decide +kernel
theorem dX10_readsPlaces_32 : decode cX10_readsPlaces 32 = .ok (.iload_n 1, 1) := by decide +kernel
theorem dX10_readsPlaces_33 : decode cX10_readsPlaces 33 = .ok (.aload_n 0, 1) := by decide +kernel
theorem dX10_readsPlaces_34 : decode cX10_readsPlaces 34 = .ok (.getfield 13, 3) := by decide +kernel
theorem dX10_readsPlaces_37 : decode cX10_readsPlaces 37 = .ok (.if_icmp .gt 111, 3) := by decide +kernel
theorem dX10_readsPlaces_40 : decode cX10_readsPlaces 40 = .ok (.aload_n 0, 1) := by decide +kernel
theorem dX10_readsPlaces_41 : decode cX10_readsPlaces 41 = .ok (.getfield 116, 3) := by decide +kernel
theorem dX10_readsPlaces_44 : decode cX10_readsPlaces 44 = .ok (.ifCond .ne 104, 3) := by decide +kernel
theorem dX10_readsPlaces_47 : decode cX10_readsPlaces 47 = .ok (.iconst 1, 1) := by decide +kernel
theorem dX10_readsPlaces_48 : decode cX10_readsPlaces 48 = .ok (.istore_n 2, 1) := by decide +kernel
theorem dX10_readsPlaces_49 : decode cX10_readsPlaces 49 = .ok (.iload_n 1, 1) := by decide +kernel
theorem dX10_readsPlaces_50 : decode cX10_readsPlaces 50 = .ok (.istore_n 3, 1) := by decide +kernel
theorem dX10_readsPlaces_51 : decode cX10_readsPlaces 51 = .ok (.iload_n 3, 1) := by decide +kernel
theorem dX10_readsPlaces_52 : decode cX10_readsPlaces 52 = .ok (.ifCond .le 81, 3) := by decide +kernel
theorem dX10_readsPlaces_55 : decode cX10_readsPlaces 55 = .ok (.iconst 0, 1) := by decide +kernel
theorem dX10_readsPlaces_56 : decode cX10_readsPlaces 56 = .ok (.istore 4, 2) := by decide +kernel
theorem dX10_readsPlaces_58 : decode cX10_readsPlaces 58 = .ok (.iconst 0, 1) := by decide +kernel
theorem dX10_readsPlaces_59 : decode cX10_readsPlaces 59 = .ok (.istore 5, 2) := by decide +kernel
theorem dX10_readsPlaces_61 : decode cX10_readsPlaces 61 = .ok (.iload 5, 2) := by decide +kernel
theorem dX10_readsPlaces_63 : decode cX10_readsPlaces 63 = .ok (.aload_n 0, 1) := by decide +kernel
theorem dX10_readsPlaces_64 : decode cX10_readsPlaces 64 = .ok (.getfield 7, 3) := by decide +kernel
theorem dX10_readsPlaces_67 : decode cX10_readsPlaces 67 = .ok (.if_icmp .ge 35, 3) := by decide +kernel
theorem dX10_readsPlaces_70 : decode cX10_readsPlaces 70 = .ok (.iload 4, 2) := by decide +kernel
theorem dX10_readsPlaces_72 : decode cX10_readsPlaces 72 = .ok (.iload_n 3, 1) := by decide +kernel
theorem dX10_readsPlaces_73 : decode cX10_readsPlaces 73 = .ok (.iload 5, 2) := by decide +kernel
theorem dX10_readsPlaces_75 : decode cX10_readsPlaces 75 = .ok (.ishr, 1) := by decide +kernel
theorem dX10_readsPlaces_76 : decode cX10_readsPlaces 76 = .ok (.iconst 1, 1) := by decide +kernel
theorem dX10_readsPlaces_77 : decode cX10_readsPlaces 77 = .ok (.iand, 1) := by decide +kernel
theorem dX10_readsPlaces_78 : decode cX10_readsPlaces 78 = .ok (.iconst 1, 1) := by decide +kernel
theorem dX10_readsPlaces_79 : decode cX10_readsPlaces 79 = .ok (.if_icmp .ne 13, 3) := by decide +kernel
theorem dX10_readsPlaces_82 : decode cX10_readsPlaces 82 = .ok (.aload_n 0, 1) := by decide +kernel
theorem dX10_readsPlaces_83 : decode cX10_readsPlaces 83 = .ok (.getfield 57, 3) := by decide +kernel
theorem dX10_readsPlaces_86 : decode cX10_readsPlaces 86 = .ok (.iload 5, 2) := by decide +kernel
theorem dX10_readsPlaces_88 : decode cX10_readsPlaces 88 = .ok (.iaload, 1) := by decide +kernel
theorem dX10_readsPlaces_89 : decode cX10_readsPlaces 89 = .ok (.goto 4, 3) := by decide +kernel
theorem dX10_readsPlaces_92 : decode cX10_readsPlaces 92 = .ok (.iconst 0, 1) := by decide +kernel
theorem dX10_readsPlaces_93 : decode cX10_readsPlaces 93 = .ok (.ior, 1) := by decide +kernel
theorem dX10_readsPlaces_94 : decode cX10_readsPlaces 94 = .ok (.istore 4, 2) := by decide +kernel
theorem dX10_readsPlaces_96 : decode cX10_readsPlaces 96 = .ok (.iinc 5 1, 3) := by decide +kernel
theorem dX10_readsPlaces_99 : decode cX10_readsPlaces 99 = .ok (.goto (-38), 3) := by decide +kernel
theorem dX10_readsPlaces_102 : decode cX10_readsPlaces 102 = .ok (.iload_n 2, 1) := by decide +kernel
theorem dX10_readsPlaces_103 : decode cX10_readsPlaces 103 = .ok (.ifCond .eq 19, 3) := by decide +kernel
theorem dX10_readsPlaces_106 : decode cX10_readsPlaces 106 = .ok (.iload 4, 2) := by decide +kernel
theorem dX10_readsPlaces_108 : decode cX10_readsPlaces 108 = .ok (.invokestatic 104, 3) := by decide +kernel
theorem dX10_readsPlaces_111 : decode cX10_readsPlaces 111 = .ok (.iload_n 3, 1) := by decide +kernel
theorem dX10_readsPlaces_112 : decode cX10_readsPlaces 112 = .ok (.invokestatic 104, 3) := by decide +kernel
theorem dX10_readsPlaces_115 : decode cX10_readsPlaces 115 = .ok (.if_icmp .lt 7, 3) := by decide +kernel
theorem dX10_readsPlaces_118 : decode cX10_readsPlaces 118 = .ok (.iconst 1, 1) := by decide +kernel
theorem dX10_readsPlaces_119 : decode cX10_readsPlaces 119 = .ok (.goto 4, 3) := by decide +kernel
theorem dX10_readsPlaces_122 : decode cX10_readsPlaces 122 = .ok (.iconst 0, 1) := by decide +kernel
theorem dX10_readsPlaces_123 : decode cX10_readsPlaces 123 = .ok (.istore_n 2, 1) := by decide +kernel
theorem dX10_readsPlaces_124 : decode cX10_readsPlaces 124 = .ok (.iload_n 3, 1) := by decide +kernel
theorem dX10_readsPlaces_125 : decode cX10_readsPlaces 125 = .ok (.iconst 1, 1) := by decide +kernel
theorem dX10_readsPlaces_126 : decode cX10_readsPlaces 126 = .ok (.isub, 1) := by decide +kernel
theorem dX10_readsPlaces_127 : decode cX10_readsPlaces 127 = .ok (.iload_n 1, 1) := by decide +kernel
theorem dX10_readsPlaces_128 : decode cX10_readsPlaces 128 = .ok (.iand, 1) := by decide +kernel
theorem dX10_readsPlaces_129 : decode cX10_readsPlaces 129 = .ok (.istore_n 3, 1) := by decide +kernel
theorem dX10_readsPlaces_130 : decode cX10_readsPlaces 130 = .ok (.goto (-79), 3) := by decide +kernel
theorem dX10_readsPlaces_133 : decode cX10_readsPlaces 133 = .ok (.iload_n 2, 1) := by decide +kernel
theorem dX10_readsPlaces_134 : decode cX10_readsPlaces 134 = .ok (.ifCond .eq 8, 3) := by decide +kernel
theorem dX10_readsPlaces_137 : decode cX10_readsPlaces 137 = .ok (.aload_n 0, 1) := by decide +kernel
theorem dX10_readsPlaces_138 : decode cX10_readsPlaces 138 = .ok (.iload_n 1, 1) := by decide +kernel
theorem dX10_readsPlaces_139 : decode cX10_readsPlaces 139 = .ok (.invokevirtual 156, 3) := by decide +kernel
theorem dX10_readsPlaces_142 : decode cX10_readsPlaces 142 = .ok (.iinc 1 1, 3) := by decide +kernel
theorem dX10_readsPlaces_145 : decode cX10_readsPlaces 145 = .ok (.goto (-113), 3) := by decide +kernel
theorem dX10_readsPlaces_148 : decode cX10_readsPlaces 148 = .ok (.return_, 1) := by decide +kernel
theorem dX10_refused_0 : decode cX10_refused 0 = .ok (.aload_n 0, 1) := by decide +kernel
theorem dX10_refused_1 : decode cX10_refused 1 = .ok (.iload_n 1, 1) := by decide +kernel
theorem dX10_refused_2 : decode cX10_refused 2 = .ok (.invokevirtual 191, 3) := by decide +kernel
theorem dX10_refused_5 : decode cX10_refused 5 = .ok (.ifCond .eq 11, 3) := by decide +kernel
theorem dX10_refused_8 : decode cX10_refused 8 = .ok (.aload_n 0, 1) := by decide +kernel
theorem dX10_refused_9 : decode cX10_refused 9 = .ok (.iload_n 2, 1) := by decide +kernel
theorem dX10_refused_10 : decode cX10_refused 10 = .ok (.invokevirtual 194, 3) := by decide +kernel
theorem dX10_refused_13 : decode cX10_refused 13 = .ok (.ifCond .ne 6, 3) := by decide +kernel
theorem dX10_refused_16 : decode cX10_refused 16 = .ok (.bipush (-2), 2) := by decide +kernel
theorem dX10_refused_18 : decode cX10_refused 18 = .ok (.ireturn, 1) := by decide +kernel
theorem dX10_refused_19 : decode cX10_refused 19 = .ok (.aload_n 0, 1) := by decide +kernel
theorem dX10_refused_20 : decode cX10_refused 20 = .ok (.getfield 85, 3) := by decide +kernel
theorem dX10_refused_23 : decode cX10_refused 23 = .ok (.bipush 24, 2) := by decide +kernel
theorem dX10_refused_25 : decode cX10_refused 25 = .ok (.if_icmp .ne 6, 3) := by decide +kernel
theorem dX10_refused_28 : decode cX10_refused 28 = .ok (.bipush (-8), 2) := by decide +kernel
theorem dX10_refused_30 : decode cX10_refused 30 = .ok (.ireturn, 1) := by decide +kernel
theorem dX10_refused_31 : decode cX10_refused 31 = .ok (.aload_n 0, 1) := by decide +kernel
theorem dX10_refused_32 : decode cX10_refused 32 = .ok (.getfield 38, 3) := by decide +kernel
theorem dX10_refused_35 : decode cX10_refused 35 = .ok (.iload_n 1, 1) := by decide +kernel
theorem dX10_refused_36 : decode cX10_refused 36 = .ok (.iaload, 1) := by decide +kernel
theorem dX10_refused_37 : decode cX10_refused 37 = .ok (.iconst 3, 1) := by decide +kernel
theorem dX10_refused_38 : decode cX10_refused 38 = .ok (.if_icmp .ne 8, 3) := by decide +kernel
theorem dX10_refused_41 : decode cX10_refused 41 = .ok (.bipush (-3), 2) := by decide +kernel
theorem dX10_refused_43 : decode cX10_refused 43 = .ok (.goto 4, 3) := by decide +kernel
theorem dX10_refused_46 : decode cX10_refused 46 = .ok (.iconst 0, 1) := by decide +kernel
theorem dX10_refused_47 : decode cX10_refused 47 = .ok (.ireturn, 1) := by decide +kernel
theorem dX10_table_0 : decode cX10_table 0 = .ok (.aload_n 0, 1) := by decide +kernel
theorem dX10_table_1 : decode cX10_table 1 = .ok (.getfield 21, 3) := by decide +kernel
theorem dX10_table_4 : decode cX10_table 4 = .ok (.sipush 4096, 3) := by decide +kernel
theorem dX10_table_7 : decode cX10_table 7 = .ok (.aload_n 0, 1) := by decide +kernel
theorem dX10_table_8 : decode cX10_table 8 = .ok (.getfield 85, 3) := by decide +kernel
theorem dX10_table_11 : decode cX10_table 11 = .ok (.imul, 1) := by decide +kernel
theorem dX10_table_12 : decode cX10_table 12 = .ok (.iload_n 1, 1) := by decide +kernel
theorem dX10_table_13 : decode cX10_table 13 = .ok (.iadd, 1) := by decide +kernel
theorem dX10_table_14 : decode cX10_table 14 = .ok (.iload_n 2, 1) := by decide +kernel
theorem dX10_table_15 : decode cX10_table 15 = .ok (.bastore, 1) := by decide +kernel
theorem dX10_table_16 : decode cX10_table 16 = .ok (.return_, 1) := by decide +kernel
theorem dX10_less_0 : decode cX10_less 0 = .ok (.aload_n 0, 1) := by decide +kernel
theorem dX10_less_1 : decode cX10_less 1 = .ok (.iload_n 1, 1) := by decide +kernel
theorem dX10_less_2 : decode cX10_less 2 = .ok (.iload_n 2, 1) := by decide +kernel
theorem dX10_less_3 : decode cX10_less 3 = .ok (.invokevirtual 197, 3) := by decide +kernel
theorem dX10_less_6 : decode cX10_less 6 = .ok (.istore_n 3, 1) := by decide +kernel
theorem dX10_less_7 : decode cX10_less 7 = .ok (.iload_n 3, 1) := by decide +kernel
theorem dX10_less_8 : decode cX10_less 8 = .ok (.ifCond .eq 5, 3) := by decide +kernel
theorem dX10_less_11 : decode cX10_less 11 = .ok (.iload_n 3, 1) := by decide +kernel
theorem dX10_less_12 : decode cX10_less 12 = .ok (.ireturn, 1) := by decide +kernel
theorem dX10_less_13 : decode cX10_less 13 = .ok (.iconst 0, 1) := by decide +kernel
theorem dX10_less_14 : decode cX10_less 14 = .ok (.istore 4, 2) := by decide +kernel
theorem dX10_less_16 : decode cX10_less 16 = .ok (.iload 4, 2) := by decide +kernel
theorem dX10_less_18 : decode cX10_less 18 = .ok (.aload_n 0, 1) := by decide +kernel
theorem dX10_less_19 : decode cX10_less 19 = .ok (.getfield 13, 3) := by decide +kernel
theorem dX10_less_22 : decode cX10_less 22 = .ok (.if_icmp .gt 37, 3) := by decide +kernel
theorem dX10_less_25 : decode cX10_less 25 = .ok (.aload_n 0, 1) := by decide +kernel
theorem dX10_less_26 : decode cX10_less 26 = .ok (.iload 4, 2) := by decide +kernel
theorem dX10_less_28 : decode cX10_less 28 = .ok (.iload 4, 2) := by decide +kernel
theorem dX10_less_30 : decode cX10_less 30 = .ok (.iload_n 2, 1) := by decide +kernel
theorem dX10_less_31 : decode cX10_less 31 = .ok (.iand, 1) := by decide +kernel
theorem dX10_less_32 : decode cX10_less 32 = .ok (.ifCond .ne 17, 3) := by decide +kernel
theorem dX10_less_35 : decode cX10_less 35 = .ok (.aload_n 0, 1) := by decide +kernel
theorem dX10_less_36 : decode cX10_less 36 = .ok (.iload_n 1, 1) := by decide +kernel
theorem dX10_less_37 : decode cX10_less 37 = .ok (.iload 4, 2) := by decide +kernel
theorem dX10_less_39 : decode cX10_less 39 = .ok (.invokevirtual 100, 3) := by decide +kernel
theorem dX10_less_42 : decode cX10_less 42 = .ok (.ifCond .eq 7, 3) := by decide +kernel
theorem dX10_less_45 : decode cX10_less 45 = .ok (.iconst 1, 1) := by decide +kernel
theorem dX10_less_46 : decode cX10_less 46 = .ok (.goto 4, 3) := by decide +kernel
theorem dX10_less_49 : decode cX10_less 49 = .ok (.iconst 0, 1) := by decide +kernel
theorem dX10_less_50 : decode cX10_less 50 = .ok (.invokevirtual 200, 3) := by decide +kernel
theorem dX10_less_53 : decode cX10_less 53 = .ok (.iinc 4 1, 3) := by decide +kernel
theorem dX10_less_56 : decode cX10_less 56 = .ok (.goto (-40), 3) := by decide +kernel
theorem dX10_less_59 : decode cX10_less 59 = .ok (.aload_n 0, 1) := by decide +kernel
theorem dX10_less_60 : decode cX10_less 60 = .ok (.bipush 7, 2) := by decide +kernel
theorem dX10_less_62 : decode cX10_less 62 = .ok (.iload_n 1, 1) := by decide +kernel
theorem dX10_less_63 : decode cX10_less 63 = .ok (.iconst (-1), 1) := by decide +kernel
theorem dX10_less_64 : decode cX10_less 64 = .ok (.aload_n 0, 1) := by decide +kernel
theorem dX10_less_65 : decode cX10_less 65 = .ok (.getfield 38, 3) := by decide +kernel
theorem dX10_less_68 : decode cX10_less 68 = .ok (.iload_n 1, 1) := by decide +kernel
theorem dX10_less_69 : decode cX10_less 69 = .ok (.iaload, 1) := by decide +kernel
theorem dX10_less_70 : decode cX10_less 70 = .ok (.iconst 1, 1) := by decide +kernel
theorem dX10_less_71 : decode cX10_less 71 = .ok (.iadd, 1) := by decide +kernel
theorem dX10_less_72 : decode cX10_less 72 = .ok (.invokevirtual 146, 3) := by decide +kernel
theorem dX10_less_75 : decode cX10_less 75 = .ok (.ireturn, 1) := by decide +kernel
theorem dX10_take_0 : decode cX10_take 0 = .ok (.aload_n 0, 1) := by decide +kernel
theorem dX10_take_1 : decode cX10_take 1 = .ok (.iload_n 1, 1) := by decide +kernel
theorem dX10_take_2 : decode cX10_take 2 = .ok (.iload_n 2, 1) := by decide +kernel
theorem dX10_take_3 : decode cX10_take 3 = .ok (.invokevirtual 197, 3) := by decide +kernel
theorem dX10_take_6 : decode cX10_take 6 = .ok (.istore_n 3, 1) := by decide +kernel
theorem dX10_take_7 : decode cX10_take 7 = .ok (.iload_n 3, 1) := by decide +kernel
theorem dX10_take_8 : decode cX10_take 8 = .ok (.ifCond .eq 5, 3) := by decide +kernel
theorem dX10_take_11 : decode cX10_take 11 = .ok (.iload_n 3, 1) := by decide +kernel
theorem dX10_take_12 : decode cX10_take 12 = .ok (.ireturn, 1) := by decide +kernel
theorem dX10_take_13 : decode cX10_take 13 = .ok (.iconst 0, 1) := by decide +kernel
theorem dX10_take_14 : decode cX10_take 14 = .ok (.istore 4, 2) := by decide +kernel
theorem dX10_take_16 : decode cX10_take 16 = .ok (.iload 4, 2) := by decide +kernel
theorem dX10_take_18 : decode cX10_take 18 = .ok (.aload_n 0, 1) := by decide +kernel
theorem dX10_take_19 : decode cX10_take 19 = .ok (.getfield 13, 3) := by decide +kernel
theorem dX10_take_22 : decode cX10_take 22 = .ok (.if_icmp .gt 51, 3) := by decide +kernel
theorem dX10_take_25 : decode cX10_take 25 = .ok (.aload_n 0, 1) := by decide +kernel
theorem dX10_take_26 : decode cX10_take 26 = .ok (.iload 4, 2) := by decide +kernel
theorem dX10_take_28 : decode cX10_take 28 = .ok (.iload 4, 2) := by decide +kernel
theorem dX10_take_30 : decode cX10_take 30 = .ok (.iload_n 2, 1) := by decide +kernel
theorem dX10_take_31 : decode cX10_take 31 = .ok (.iand, 1) := by decide +kernel
theorem dX10_take_32 : decode cX10_take 32 = .ok (.ifCond .ne 31, 3) := by decide +kernel
theorem dX10_take_35 : decode cX10_take 35 = .ok (.aload_n 0, 1) := by decide +kernel
theorem dX10_take_36 : decode cX10_take 36 = .ok (.iload_n 1, 1) := by decide +kernel
theorem dX10_take_37 : decode cX10_take 37 = .ok (.iload 4, 2) := by decide +kernel
theorem dX10_take_39 : decode cX10_take 39 = .ok (.iload_n 2, 1) := by decide +kernel
theorem dX10_take_40 : decode cX10_take 40 = .ok (.ior, 1) := by decide +kernel
theorem dX10_take_41 : decode cX10_take 41 = .ok (.invokevirtual 108, 3) := by decide +kernel
theorem dX10_take_44 : decode cX10_take 44 = .ok (.aload_n 0, 1) := by decide +kernel
theorem dX10_take_45 : decode cX10_take 45 = .ok (.iload_n 1, 1) := by decide +kernel
theorem dX10_take_46 : decode cX10_take 46 = .ok (.iload_n 2, 1) := by decide +kernel
theorem dX10_take_47 : decode cX10_take 47 = .ok (.invokevirtual 108, 3) := by decide +kernel
theorem dX10_take_50 : decode cX10_take 50 = .ok (.iload 4, 2) := by decide +kernel
theorem dX10_take_52 : decode cX10_take 52 = .ok (.invokestatic 104, 3) := by decide +kernel
theorem dX10_take_55 : decode cX10_take 55 = .ok (.iadd, 1) := by decide +kernel
theorem dX10_take_56 : decode cX10_take 56 = .ok (.if_icmp .ne 7, 3) := by decide +kernel
theorem dX10_take_59 : decode cX10_take 59 = .ok (.iconst 1, 1) := by decide +kernel
theorem dX10_take_60 : decode cX10_take 60 = .ok (.goto 4, 3) := by decide +kernel
theorem dX10_take_63 : decode cX10_take 63 = .ok (.iconst 0, 1) := by decide +kernel
theorem dX10_take_64 : decode cX10_take 64 = .ok (.invokevirtual 200, 3) := by decide +kernel
theorem dX10_take_67 : decode cX10_take 67 = .ok (.iinc 4 1, 3) := by decide +kernel
theorem dX10_take_70 : decode cX10_take 70 = .ok (.goto (-54), 3) := by decide +kernel
theorem dX10_take_73 : decode cX10_take 73 = .ok (.aload_n 0, 1) := by decide +kernel
theorem dX10_take_74 : decode cX10_take 74 = .ok (.bipush 8, 2) := by decide +kernel
theorem dX10_take_76 : decode cX10_take 76 = .ok (.iload_n 1, 1) := by decide +kernel
theorem dX10_take_77 : decode cX10_take 77 = .ok (.iconst (-1), 1) := by decide +kernel
theorem dX10_take_78 : decode cX10_take 78 = .ok (.aload_n 0, 1) := by decide +kernel
theorem dX10_take_79 : decode cX10_take 79 = .ok (.getfield 38, 3) := by decide +kernel
theorem dX10_take_82 : decode cX10_take 82 = .ok (.iload_n 1, 1) := by decide +kernel
theorem dX10_take_83 : decode cX10_take 83 = .ok (.iaload, 1) := by decide +kernel
theorem dX10_take_84 : decode cX10_take 84 = .ok (.iconst 1, 1) := by decide +kernel
theorem dX10_take_85 : decode cX10_take 85 = .ok (.iadd, 1) := by decide +kernel
theorem dX10_take_86 : decode cX10_take 86 = .ok (.invokevirtual 146, 3) := by decide +kernel
theorem dX10_take_89 : decode cX10_take 89 = .ok (.ireturn, 1) := by decide +kernel
theorem dX10_turn_0 : decode cX10_turn 0 = .ok (.aload_n 0, 1) := by decide +kernel
theorem dX10_turn_1 : decode cX10_turn 1 = .ok (.iload_n 1, 1) := by decide +kernel
theorem dX10_turn_2 : decode cX10_turn 2 = .ok (.iconst 0, 1) := by decide +kernel
theorem dX10_turn_3 : decode cX10_turn 3 = .ok (.invokevirtual 197, 3) := by decide +kernel
theorem dX10_turn_6 : decode cX10_turn 6 = .ok (.istore_n 2, 1) := by decide +kernel
theorem dX10_turn_7 : decode cX10_turn 7 = .ok (.iload_n 2, 1) := by decide +kernel
theorem dX10_turn_8 : decode cX10_turn 8 = .ok (.ifCond .eq 5, 3) := by decide +kernel
theorem dX10_turn_11 : decode cX10_turn 11 = .ok (.iload_n 2, 1) := by decide +kernel
theorem dX10_turn_12 : decode cX10_turn 12 = .ok (.ireturn, 1) := by decide +kernel
theorem dX10_turn_13 : decode cX10_turn 13 = .ok (.iconst 0, 1) := by decide +kernel
theorem dX10_turn_14 : decode cX10_turn 14 = .ok (.istore_n 3, 1) := by decide +kernel
theorem dX10_turn_15 : decode cX10_turn 15 = .ok (.iload_n 3, 1) := by decide +kernel
theorem dX10_turn_16 : decode cX10_turn 16 = .ok (.aload_n 0, 1) := by decide +kernel
theorem dX10_turn_17 : decode cX10_turn 17 = .ok (.getfield 13, 3) := by decide +kernel
theorem dX10_turn_20 : decode cX10_turn 20 = .ok (.if_icmp .gt 44, 3) := by decide +kernel
theorem dX10_turn_23 : decode cX10_turn 23 = .ok (.aload_n 0, 1) := by decide +kernel
theorem dX10_turn_24 : decode cX10_turn 24 = .ok (.iload_n 3, 1) := by decide +kernel
theorem dX10_turn_25 : decode cX10_turn 25 = .ok (.aload_n 0, 1) := by decide +kernel
theorem dX10_turn_26 : decode cX10_turn 26 = .ok (.iload_n 1, 1) := by decide +kernel
theorem dX10_turn_27 : decode cX10_turn 27 = .ok (.aload_n 0, 1) := by decide +kernel
theorem dX10_turn_28 : decode cX10_turn 28 = .ok (.getfield 13, 3) := by decide +kernel
theorem dX10_turn_31 : decode cX10_turn 31 = .ok (.iload_n 3, 1) := by decide +kernel
theorem dX10_turn_32 : decode cX10_turn 32 = .ok (.iconst (-1), 1) := by decide +kernel
theorem dX10_turn_33 : decode cX10_turn 33 = .ok (.ixor, 1) := by decide +kernel
theorem dX10_turn_34 : decode cX10_turn 34 = .ok (.iand, 1) := by decide +kernel
theorem dX10_turn_35 : decode cX10_turn 35 = .ok (.invokevirtual 108, 3) := by decide +kernel
theorem dX10_turn_38 : decode cX10_turn 38 = .ok (.aload_n 0, 1) := by decide +kernel
theorem dX10_turn_39 : decode cX10_turn 39 = .ok (.iload_n 1, 1) := by decide +kernel
theorem dX10_turn_40 : decode cX10_turn 40 = .ok (.aload_n 0, 1) := by decide +kernel
theorem dX10_turn_41 : decode cX10_turn 41 = .ok (.getfield 13, 3) := by decide +kernel
theorem dX10_turn_44 : decode cX10_turn 44 = .ok (.invokevirtual 108, 3) := by decide +kernel
theorem dX10_turn_47 : decode cX10_turn 47 = .ok (.if_icmp .ne 7, 3) := by decide +kernel
theorem dX10_turn_50 : decode cX10_turn 50 = .ok (.iconst 1, 1) := by decide +kernel
theorem dX10_turn_51 : decode cX10_turn 51 = .ok (.goto 4, 3) := by decide +kernel
theorem dX10_turn_54 : decode cX10_turn 54 = .ok (.iconst 0, 1) := by decide +kernel
theorem dX10_turn_55 : decode cX10_turn 55 = .ok (.invokevirtual 200, 3) := by decide +kernel
theorem dX10_turn_58 : decode cX10_turn 58 = .ok (.iinc 3 1, 3) := by decide +kernel
theorem dX10_turn_61 : decode cX10_turn 61 = .ok (.goto (-46), 3) := by decide +kernel
theorem dX10_turn_64 : decode cX10_turn 64 = .ok (.aload_n 0, 1) := by decide +kernel
theorem dX10_turn_65 : decode cX10_turn 65 = .ok (.bipush 9, 2) := by decide +kernel
theorem dX10_turn_67 : decode cX10_turn 67 = .ok (.iload_n 1, 1) := by decide +kernel
theorem dX10_turn_68 : decode cX10_turn 68 = .ok (.iconst (-1), 1) := by decide +kernel
theorem dX10_turn_69 : decode cX10_turn 69 = .ok (.aload_n 0, 1) := by decide +kernel
theorem dX10_turn_70 : decode cX10_turn 70 = .ok (.getfield 38, 3) := by decide +kernel
theorem dX10_turn_73 : decode cX10_turn 73 = .ok (.iload_n 1, 1) := by decide +kernel
theorem dX10_turn_74 : decode cX10_turn 74 = .ok (.iaload, 1) := by decide +kernel
theorem dX10_turn_75 : decode cX10_turn 75 = .ok (.iconst 1, 1) := by decide +kernel
theorem dX10_turn_76 : decode cX10_turn 76 = .ok (.iadd, 1) := by decide +kernel
theorem dX10_turn_77 : decode cX10_turn 77 = .ok (.invokevirtual 146, 3) := by decide +kernel
theorem dX10_turn_80 : decode cX10_turn 80 = .ok (.ireturn, 1) := by decide +kernel
theorem dX10_join_0 : decode cX10_join 0 = .ok (.aload_n 0, 1) := by decide +kernel
theorem dX10_join_1 : decode cX10_join 1 = .ok (.iload_n 1, 1) := by decide +kernel
theorem dX10_join_2 : decode cX10_join 2 = .ok (.invokevirtual 191, 3) := by decide +kernel
theorem dX10_join_5 : decode cX10_join 5 = .ok (.ifCond .eq 11, 3) := by decide +kernel
theorem dX10_join_8 : decode cX10_join 8 = .ok (.aload_n 0, 1) := by decide +kernel
theorem dX10_join_9 : decode cX10_join 9 = .ok (.iload_n 2, 1) := by decide +kernel
theorem dX10_join_10 : decode cX10_join 10 = .ok (.invokevirtual 191, 3) := by decide +kernel
theorem dX10_join_13 : decode cX10_join 13 = .ok (.ifCond .ne 6, 3) := by decide +kernel
theorem dX10_join_16 : decode cX10_join 16 = .ok (.bipush (-2), 2) := by decide +kernel
theorem dX10_join_18 : decode cX10_join 18 = .ok (.ireturn, 1) := by decide +kernel
theorem dX10_join_19 : decode cX10_join 19 = .ok (.aload_n 0, 1) := by decide +kernel
theorem dX10_join_20 : decode cX10_join 20 = .ok (.getfield 85, 3) := by decide +kernel
theorem dX10_join_23 : decode cX10_join 23 = .ok (.bipush 24, 2) := by decide +kernel
theorem dX10_join_25 : decode cX10_join 25 = .ok (.if_icmp .ne 6, 3) := by decide +kernel
theorem dX10_join_28 : decode cX10_join 28 = .ok (.bipush (-8), 2) := by decide +kernel
theorem dX10_join_30 : decode cX10_join 30 = .ok (.ireturn, 1) := by decide +kernel
theorem dX10_join_31 : decode cX10_join 31 = .ok (.aload_n 0, 1) := by decide +kernel
theorem dX10_join_32 : decode cX10_join 32 = .ok (.getfield 38, 3) := by decide +kernel
theorem dX10_join_35 : decode cX10_join 35 = .ok (.iload_n 1, 1) := by decide +kernel
theorem dX10_join_36 : decode cX10_join 36 = .ok (.iaload, 1) := by decide +kernel
theorem dX10_join_37 : decode cX10_join 37 = .ok (.iconst 3, 1) := by decide +kernel
theorem dX10_join_38 : decode cX10_join 38 = .ok (.if_icmp .eq 13, 3) := by decide +kernel
theorem dX10_join_41 : decode cX10_join 41 = .ok (.aload_n 0, 1) := by decide +kernel
theorem dX10_join_42 : decode cX10_join 42 = .ok (.getfield 38, 3) := by decide +kernel
theorem dX10_join_45 : decode cX10_join 45 = .ok (.iload_n 2, 1) := by decide +kernel
theorem dX10_join_46 : decode cX10_join 46 = .ok (.iaload, 1) := by decide +kernel
theorem dX10_join_47 : decode cX10_join 47 = .ok (.iconst 3, 1) := by decide +kernel
theorem dX10_join_48 : decode cX10_join 48 = .ok (.if_icmp .ne 6, 3) := by decide +kernel
theorem dX10_join_51 : decode cX10_join 51 = .ok (.bipush (-3), 2) := by decide +kernel
theorem dX10_join_53 : decode cX10_join 53 = .ok (.ireturn, 1) := by decide +kernel
theorem dX10_join_54 : decode cX10_join 54 = .ok (.iconst 0, 1) := by decide +kernel
theorem dX10_join_55 : decode cX10_join 55 = .ok (.istore_n 3, 1) := by decide +kernel
theorem dX10_join_56 : decode cX10_join 56 = .ok (.iload_n 3, 1) := by decide +kernel
theorem dX10_join_57 : decode cX10_join 57 = .ok (.aload_n 0, 1) := by decide +kernel
theorem dX10_join_58 : decode cX10_join 58 = .ok (.getfield 13, 3) := by decide +kernel
theorem dX10_join_61 : decode cX10_join 61 = .ok (.if_icmp .gt 96, 3) := by decide +kernel
theorem dX10_join_64 : decode cX10_join 64 = .ok (.aload_n 0, 1) := by decide +kernel
theorem dX10_join_65 : decode cX10_join 65 = .ok (.iload_n 2, 1) := by decide +kernel
theorem dX10_join_66 : decode cX10_join 66 = .ok (.iload_n 3, 1) := by decide +kernel
theorem dX10_join_67 : decode cX10_join 67 = .ok (.invokevirtual 100, 3) := by decide +kernel
theorem dX10_join_70 : decode cX10_join 70 = .ok (.ifCond .eq 16, 3) := by decide +kernel
theorem dX10_join_73 : decode cX10_join 73 = .ok (.aload_n 0, 1) := by decide +kernel
theorem dX10_join_74 : decode cX10_join 74 = .ok (.iload_n 1, 1) := by decide +kernel
theorem dX10_join_75 : decode cX10_join 75 = .ok (.iconst 0, 1) := by decide +kernel
theorem dX10_join_76 : decode cX10_join 76 = .ok (.invokevirtual 100, 3) := by decide +kernel
theorem dX10_join_79 : decode cX10_join 79 = .ok (.ifCond .eq 7, 3) := by decide +kernel
theorem dX10_join_82 : decode cX10_join 82 = .ok (.iconst 1, 1) := by decide +kernel
theorem dX10_join_83 : decode cX10_join 83 = .ok (.goto 4, 3) := by decide +kernel
theorem dX10_join_86 : decode cX10_join 86 = .ok (.iconst 0, 1) := by decide +kernel
theorem dX10_join_87 : decode cX10_join 87 = .ok (.istore 4, 2) := by decide +kernel
theorem dX10_join_89 : decode cX10_join 89 = .ok (.iload_n 3, 1) := by decide +kernel
theorem dX10_join_90 : decode cX10_join 90 = .ok (.istore 5, 2) := by decide +kernel
theorem dX10_join_92 : decode cX10_join 92 = .ok (.iload 5, 2) := by decide +kernel
theorem dX10_join_94 : decode cX10_join 94 = .ok (.ifCond .le 50, 3) := by decide +kernel
theorem dX10_join_97 : decode cX10_join 97 = .ok (.iload 4, 2) := by decide +kernel
theorem dX10_join_99 : decode cX10_join 99 = .ok (.ifCond .ne 45, 3) := by decide +kernel
theorem dX10_join_102 : decode cX10_join 102 = .ok (.aload_n 0, 1) := by decide +kernel
theorem dX10_join_103 : decode cX10_join 103 = .ok (.iload_n 1, 1) := by decide +kernel
theorem dX10_join_104 : decode cX10_join 104 = .ok (.iload 5, 2) := by decide +kernel
theorem dX10_join_106 : decode cX10_join 106 = .ok (.invokevirtual 100, 3) := by decide +kernel
theorem dX10_join_109 : decode cX10_join 109 = .ok (.ifCond .eq 21, 3) := by decide +kernel
theorem dX10_join_112 : decode cX10_join 112 = .ok (.aload_n 0, 1) := by decide +kernel
theorem dX10_join_113 : decode cX10_join 113 = .ok (.iload_n 2, 1) := by decide +kernel
theorem dX10_join_114 : decode cX10_join 114 = .ok (.iload_n 3, 1) := by decide +kernel
theorem dX10_join_115 : decode cX10_join 115 = .ok (.iload 5, 2) := by decide +kernel
theorem dX10_join_117 : decode cX10_join 117 = .ok (.iconst (-1), 1) := by decide +kernel
theorem dX10_join_118 : decode cX10_join 118 = .ok (.ixor, 1) := by decide +kernel
theorem dX10_join_119 : decode cX10_join 119 = .ok (.iand, 1) := by decide +kernel
theorem dX10_join_120 : decode cX10_join 120 = .ok (.invokevirtual 100, 3) := by decide +kernel
theorem dX10_join_123 : decode cX10_join 123 = .ok (.ifCond .eq 7, 3) := by decide +kernel
theorem dX10_join_126 : decode cX10_join 126 = .ok (.iconst 1, 1) := by decide +kernel
theorem dX10_join_127 : decode cX10_join 127 = .ok (.goto 4, 3) := by decide +kernel
theorem dX10_join_130 : decode cX10_join 130 = .ok (.iconst 0, 1) := by decide +kernel
theorem dX10_join_131 : decode cX10_join 131 = .ok (.istore 4, 2) := by decide +kernel
theorem dX10_join_133 : decode cX10_join 133 = .ok (.iload 5, 2) := by decide +kernel
theorem dX10_join_135 : decode cX10_join 135 = .ok (.iconst 1, 1) := by decide +kernel
theorem dX10_join_136 : decode cX10_join 136 = .ok (.isub, 1) := by decide +kernel
theorem dX10_join_137 : decode cX10_join 137 = .ok (.iload_n 3, 1) := by decide +kernel
theorem dX10_join_138 : decode cX10_join 138 = .ok (.iand, 1) := by decide +kernel
theorem dX10_join_139 : decode cX10_join 139 = .ok (.istore 5, 2) := by decide +kernel
theorem dX10_join_141 : decode cX10_join 141 = .ok (.goto (-49), 3) := by decide +kernel
theorem dX10_join_144 : decode cX10_join 144 = .ok (.aload_n 0, 1) := by decide +kernel
theorem dX10_join_145 : decode cX10_join 145 = .ok (.iload_n 3, 1) := by decide +kernel
theorem dX10_join_146 : decode cX10_join 146 = .ok (.iload 4, 2) := by decide +kernel
theorem dX10_join_148 : decode cX10_join 148 = .ok (.invokevirtual 200, 3) := by decide +kernel
theorem dX10_join_151 : decode cX10_join 151 = .ok (.iinc 3 1, 3) := by decide +kernel
theorem dX10_join_154 : decode cX10_join 154 = .ok (.goto (-98), 3) := by decide +kernel
theorem dX10_join_157 : decode cX10_join 157 = .ok (.aload_n 0, 1) := by decide +kernel
theorem dX10_join_158 : decode cX10_join 158 = .ok (.bipush 10, 2) := by decide +kernel
theorem dX10_join_160 : decode cX10_join 160 = .ok (.iload_n 1, 1) := by decide +kernel
theorem dX10_join_161 : decode cX10_join 161 = .ok (.iload_n 2, 1) := by decide +kernel
theorem dX10_join_162 : decode cX10_join 162 = .ok (.iconst 1, 1) := by decide +kernel
theorem dX10_join_163 : decode cX10_join 163 = .ok (.aload_n 0, 1) := by decide +kernel
theorem dX10_join_164 : decode cX10_join 164 = .ok (.getfield 38, 3) := by decide +kernel
theorem dX10_join_167 : decode cX10_join 167 = .ok (.iload_n 1, 1) := by decide +kernel
theorem dX10_join_168 : decode cX10_join 168 = .ok (.iaload, 1) := by decide +kernel
theorem dX10_join_169 : decode cX10_join 169 = .ok (.aload_n 0, 1) := by decide +kernel
theorem dX10_join_170 : decode cX10_join 170 = .ok (.getfield 38, 3) := by decide +kernel
theorem dX10_join_173 : decode cX10_join 173 = .ok (.iload_n 2, 1) := by decide +kernel
theorem dX10_join_174 : decode cX10_join 174 = .ok (.iaload, 1) := by decide +kernel
theorem dX10_join_175 : decode cX10_join 175 = .ok (.invokestatic 111, 3) := by decide +kernel
theorem dX10_join_178 : decode cX10_join 178 = .ok (.iadd, 1) := by decide +kernel
theorem dX10_join_179 : decode cX10_join 179 = .ok (.invokevirtual 146, 3) := by decide +kernel
theorem dX10_join_182 : decode cX10_join 182 = .ok (.ireturn, 1) := by decide +kernel
theorem dX10_broken_0 : decode cX10_broken 0 = .ok (.iload_n 1, 1) := by decide +kernel
theorem dX10_broken_1 : decode cX10_broken 1 = .ok (.ifCond .lt 8, 3) := by decide +kernel
theorem dX10_broken_4 : decode cX10_broken 4 = .ok (.iload_n 1, 1) := by decide +kernel
theorem dX10_broken_5 : decode cX10_broken 5 = .ok (.iconst 2, 1) := by decide +kernel
theorem dX10_broken_6 : decode cX10_broken 6 = .ok (.if_icmp .le 7, 3) := by decide +kernel
theorem dX10_broken_9 : decode cX10_broken 9 = .ok (.iconst (-1), 1) := by decide +kernel
theorem dX10_broken_10 : decode cX10_broken 10 = .ok (.goto 9, 3) := by decide +kernel
theorem dX10_broken_13 : decode cX10_broken 13 = .ok (.aload_n 0, 1) := by decide +kernel
theorem dX10_broken_14 : decode cX10_broken 14 = .ok (.getfield 41, 3) := by decide +kernel
theorem dX10_broken_17 : decode cX10_broken 17 = .ok (.iload_n 1, 1) := by decide +kernel
theorem dX10_broken_18 : decode cX10_broken 18 = .ok (.iaload, 1) := by decide +kernel
theorem dX10_broken_19 : decode cX10_broken 19 = .ok (.ireturn, 1) := by decide +kernel
theorem dX10_look_0 : decode cX10_look 0 = .ok (.aload_n 0, 1) := by decide +kernel
theorem dX10_look_1 : decode cX10_look 1 = .ok (.iload_n 1, 1) := by decide +kernel
theorem dX10_look_2 : decode cX10_look 2 = .ok (.invokevirtual 191, 3) := by decide +kernel
theorem dX10_look_5 : decode cX10_look 5 = .ok (.ifCond .ne 5, 3) := by decide +kernel
theorem dX10_look_8 : decode cX10_look 8 = .ok (.iconst (-1), 1) := by decide +kernel
theorem dX10_look_9 : decode cX10_look 9 = .ok (.ireturn, 1) := by decide +kernel
theorem dX10_look_10 : decode cX10_look 10 = .ok (.iload_n 2, 1) := by decide +kernel
theorem dX10_look_11 : decode cX10_look 11 = .ok (.tableswitch 115 0 5 #[37, 44, 54, 94, 101, 108], 37) := by decide +kernel
theorem dX10_look_48 : decode cX10_look 48 = .ok (.aload_n 0, 1) := by decide +kernel
theorem dX10_look_49 : decode cX10_look 49 = .ok (.getfield 29, 3) := by decide +kernel
theorem dX10_look_52 : decode cX10_look 52 = .ok (.iload_n 1, 1) := by decide +kernel
theorem dX10_look_53 : decode cX10_look 53 = .ok (.iaload, 1) := by decide +kernel
theorem dX10_look_54 : decode cX10_look 54 = .ok (.ireturn, 1) := by decide +kernel
theorem dX10_look_55 : decode cX10_look 55 = .ok (.aload_n 0, 1) := by decide +kernel
theorem dX10_look_56 : decode cX10_look 56 = .ok (.iload_n 1, 1) := by decide +kernel
theorem dX10_look_57 : decode cX10_look 57 = .ok (.aload_n 0, 1) := by decide +kernel
theorem dX10_look_58 : decode cX10_look 58 = .ok (.getfield 13, 3) := by decide +kernel
theorem dX10_look_61 : decode cX10_look 61 = .ok (.invokevirtual 108, 3) := by decide +kernel
theorem dX10_look_64 : decode cX10_look 64 = .ok (.ireturn, 1) := by decide +kernel
theorem dX10_look_65 : decode cX10_look 65 = .ok (.iconst 0, 1) := by decide +kernel
theorem dX10_look_66 : decode cX10_look 66 = .ok (.istore_n 3, 1) := by decide +kernel
theorem dX10_look_67 : decode cX10_look 67 = .ok (.iconst 0, 1) := by decide +kernel
theorem dX10_look_68 : decode cX10_look 68 = .ok (.istore 4, 2) := by decide +kernel
theorem dX10_look_70 : decode cX10_look 70 = .ok (.iload 4, 2) := by decide +kernel
theorem dX10_look_72 : decode cX10_look 72 = .ok (.aload_n 0, 1) := by decide +kernel
theorem dX10_look_73 : decode cX10_look 73 = .ok (.getfield 13, 3) := by decide +kernel
theorem dX10_look_76 : decode cX10_look 76 = .ok (.if_icmp .gt 27, 3) := by decide +kernel
theorem dX10_look_79 : decode cX10_look 79 = .ok (.iload_n 3, 1) := by decide +kernel
theorem dX10_look_80 : decode cX10_look 80 = .ok (.aload_n 0, 1) := by decide +kernel
theorem dX10_look_81 : decode cX10_look 81 = .ok (.iload_n 1, 1) := by decide +kernel
theorem dX10_look_82 : decode cX10_look 82 = .ok (.iload 4, 2) := by decide +kernel
theorem dX10_look_84 : decode cX10_look 84 = .ok (.invokevirtual 100, 3) := by decide +kernel
theorem dX10_look_87 : decode cX10_look 87 = .ok (.ifCond .eq 7, 3) := by decide +kernel
theorem dX10_look_90 : decode cX10_look 90 = .ok (.iconst 1, 1) := by decide +kernel
theorem dX10_look_91 : decode cX10_look 91 = .ok (.goto 4, 3) := by decide +kernel
theorem dX10_look_94 : decode cX10_look 94 = .ok (.iconst 0, 1) := by decide +kernel
theorem dX10_look_95 : decode cX10_look 95 = .ok (.iadd, 1) := by decide +kernel
theorem dX10_look_96 : decode cX10_look 96 = .ok (.istore_n 3, 1) := by decide +kernel
theorem dX10_look_97 : decode cX10_look 97 = .ok (.iinc 4 1, 3) := by decide +kernel
theorem dX10_look_100 : decode cX10_look 100 = .ok (.goto (-30), 3) := by decide +kernel
theorem dX10_look_103 : decode cX10_look 103 = .ok (.iload_n 3, 1) := by decide +kernel
theorem dX10_look_104 : decode cX10_look 104 = .ok (.ireturn, 1) := by decide +kernel
theorem dX10_look_105 : decode cX10_look 105 = .ok (.aload_n 0, 1) := by decide +kernel
theorem dX10_look_106 : decode cX10_look 106 = .ok (.getfield 32, 3) := by decide +kernel
theorem dX10_look_109 : decode cX10_look 109 = .ok (.iload_n 1, 1) := by decide +kernel
theorem dX10_look_110 : decode cX10_look 110 = .ok (.iaload, 1) := by decide +kernel
theorem dX10_look_111 : decode cX10_look 111 = .ok (.ireturn, 1) := by decide +kernel
theorem dX10_look_112 : decode cX10_look 112 = .ok (.aload_n 0, 1) := by decide +kernel
theorem dX10_look_113 : decode cX10_look 113 = .ok (.getfield 35, 3) := by decide +kernel
theorem dX10_look_116 : decode cX10_look 116 = .ok (.iload_n 1, 1) := by decide +kernel
theorem dX10_look_117 : decode cX10_look 117 = .ok (.iaload, 1) := by decide +kernel
theorem dX10_look_118 : decode cX10_look 118 = .ok (.ireturn, 1) := by decide +kernel
theorem dX10_look_119 : decode cX10_look 119 = .ok (.aload_n 0, 1) := by decide +kernel
theorem dX10_look_120 : decode cX10_look 120 = .ok (.getfield 38, 3) := by decide +kernel
theorem dX10_look_123 : decode cX10_look 123 = .ok (.iload_n 1, 1) := by decide +kernel
theorem dX10_look_124 : decode cX10_look 124 = .ok (.iaload, 1) := by decide +kernel
theorem dX10_look_125 : decode cX10_look 125 = .ok (.ireturn, 1) := by decide +kernel
theorem dX10_look_126 : decode cX10_look 126 = .ok (.iconst (-1), 1) := by decide +kernel
theorem dX10_look_127 : decode cX10_look 127 = .ok (.ireturn, 1) := by decide +kernel
theorem dX10_allows_0 : decode cX10_allows 0 = .ok (.aload_n 0, 1) := by decide +kernel
theorem dX10_allows_1 : decode cX10_allows 1 = .ok (.iload_n 1, 1) := by decide +kernel
theorem dX10_allows_2 : decode cX10_allows 2 = .ok (.invokevirtual 191, 3) := by decide +kernel
theorem dX10_allows_5 : decode cX10_allows 5 = .ok (.ifCond .eq 11, 3) := by decide +kernel
theorem dX10_allows_8 : decode cX10_allows 8 = .ok (.aload_n 0, 1) := by decide +kernel
theorem dX10_allows_9 : decode cX10_allows 9 = .ok (.iload_n 2, 1) := by decide +kernel
theorem dX10_allows_10 : decode cX10_allows 10 = .ok (.invokevirtual 194, 3) := by decide +kernel
theorem dX10_allows_13 : decode cX10_allows 13 = .ok (.ifCond .ne 7, 3) := by decide +kernel
theorem dX10_allows_16 : decode cX10_allows 16 = .ok (.iconst (-1), 1) := by decide +kernel
theorem dX10_allows_17 : decode cX10_allows 17 = .ok (.goto 17, 3) := by decide +kernel
theorem dX10_allows_20 : decode cX10_allows 20 = .ok (.aload_n 0, 1) := by decide +kernel
theorem dX10_allows_21 : decode cX10_allows 21 = .ok (.iload_n 1, 1) := by decide +kernel
theorem dX10_allows_22 : decode cX10_allows 22 = .ok (.iload_n 2, 1) := by decide +kernel
theorem dX10_allows_23 : decode cX10_allows 23 = .ok (.invokevirtual 100, 3) := by decide +kernel
theorem dX10_allows_26 : decode cX10_allows 26 = .ok (.ifCond .eq 7, 3) := by decide +kernel
theorem dX10_allows_29 : decode cX10_allows 29 = .ok (.iconst 1, 1) := by decide +kernel
theorem dX10_allows_30 : decode cX10_allows 30 = .ok (.goto 4, 3) := by decide +kernel
theorem dX10_allows_33 : decode cX10_allows 33 = .ok (.iconst 0, 1) := by decide +kernel
theorem dX10_allows_34 : decode cX10_allows 34 = .ok (.ireturn, 1) := by decide +kernel
theorem dX10_rank_0 : decode cX10_rank 0 = .ok (.aload_n 0, 1) := by decide +kernel
theorem dX10_rank_1 : decode cX10_rank 1 = .ok (.iload_n 1, 1) := by decide +kernel
theorem dX10_rank_2 : decode cX10_rank 2 = .ok (.invokevirtual 191, 3) := by decide +kernel
theorem dX10_rank_5 : decode cX10_rank 5 = .ok (.ifCond .eq 11, 3) := by decide +kernel
theorem dX10_rank_8 : decode cX10_rank 8 = .ok (.aload_n 0, 1) := by decide +kernel
theorem dX10_rank_9 : decode cX10_rank 9 = .ok (.iload_n 2, 1) := by decide +kernel
theorem dX10_rank_10 : decode cX10_rank 10 = .ok (.invokevirtual 194, 3) := by decide +kernel
theorem dX10_rank_13 : decode cX10_rank 13 = .ok (.ifCond .ne 7, 3) := by decide +kernel
theorem dX10_rank_16 : decode cX10_rank 16 = .ok (.iconst (-1), 1) := by decide +kernel
theorem dX10_rank_17 : decode cX10_rank 17 = .ok (.goto 9, 3) := by decide +kernel
theorem dX10_rank_20 : decode cX10_rank 20 = .ok (.aload_n 0, 1) := by decide +kernel
theorem dX10_rank_21 : decode cX10_rank 21 = .ok (.iload_n 1, 1) := by decide +kernel
theorem dX10_rank_22 : decode cX10_rank 22 = .ok (.iload_n 2, 1) := by decide +kernel
theorem dX10_rank_23 : decode cX10_rank 23 = .ok (.invokevirtual 108, 3) := by decide +kernel
theorem dX10_rank_26 : decode cX10_rank 26 = .ok (.ireturn, 1) := by decide +kernel
theorem dX10_span_0 : decode cX10_span 0 = .ok (.aload_n 0, 1) := by decide +kernel
theorem dX10_span_1 : decode cX10_span 1 = .ok (.iload_n 1, 1) := by decide +kernel
theorem dX10_span_2 : decode cX10_span 2 = .ok (.invokevirtual 191, 3) := by decide +kernel
theorem dX10_span_5 : decode cX10_span 5 = .ok (.ifCond .eq 11, 3) := by decide +kernel
theorem dX10_span_8 : decode cX10_span 8 = .ok (.aload_n 0, 1) := by decide +kernel
theorem dX10_span_9 : decode cX10_span 9 = .ok (.iload_n 2, 1) := by decide +kernel
theorem dX10_span_10 : decode cX10_span 10 = .ok (.invokevirtual 194, 3) := by decide +kernel
theorem dX10_span_13 : decode cX10_span 13 = .ok (.ifCond .ne 5, 3) := by decide +kernel
theorem dX10_span_16 : decode cX10_span 16 = .ok (.iconst (-1), 1) := by decide +kernel
theorem dX10_span_17 : decode cX10_span 17 = .ok (.ireturn, 1) := by decide +kernel
theorem dX10_span_18 : decode cX10_span 18 = .ok (.iconst 0, 1) := by decide +kernel
theorem dX10_span_19 : decode cX10_span 19 = .ok (.istore_n 3, 1) := by decide +kernel
theorem dX10_span_20 : decode cX10_span 20 = .ok (.iconst 0, 1) := by decide +kernel
theorem dX10_span_21 : decode cX10_span 21 = .ok (.istore 4, 2) := by decide +kernel
theorem dX10_span_23 : decode cX10_span 23 = .ok (.iload 4, 2) := by decide +kernel
theorem dX10_span_25 : decode cX10_span 25 = .ok (.aload_n 0, 1) := by decide +kernel
theorem dX10_span_26 : decode cX10_span 26 = .ok (.getfield 7, 3) := by decide +kernel
theorem dX10_span_29 : decode cX10_span 29 = .ok (.if_icmp .ge 40, 3) := by decide +kernel
theorem dX10_span_32 : decode cX10_span 32 = .ok (.iload_n 3, 1) := by decide +kernel
theorem dX10_span_33 : decode cX10_span 33 = .ok (.aload_n 0, 1) := by decide +kernel
theorem dX10_span_34 : decode cX10_span 34 = .ok (.iload_n 1, 1) := by decide +kernel
theorem dX10_span_35 : decode cX10_span 35 = .ok (.iload_n 2, 1) := by decide +kernel
theorem dX10_span_36 : decode cX10_span 36 = .ok (.iconst 1, 1) := by decide +kernel
theorem dX10_span_37 : decode cX10_span 37 = .ok (.iload 4, 2) := by decide +kernel
theorem dX10_span_39 : decode cX10_span 39 = .ok (.ishl, 1) := by decide +kernel
theorem dX10_span_40 : decode cX10_span 40 = .ok (.ior, 1) := by decide +kernel
theorem dX10_span_41 : decode cX10_span 41 = .ok (.invokevirtual 108, 3) := by decide +kernel
theorem dX10_span_44 : decode cX10_span 44 = .ok (.aload_n 0, 1) := by decide +kernel
theorem dX10_span_45 : decode cX10_span 45 = .ok (.iload_n 1, 1) := by decide +kernel
theorem dX10_span_46 : decode cX10_span 46 = .ok (.iload_n 2, 1) := by decide +kernel
theorem dX10_span_47 : decode cX10_span 47 = .ok (.invokevirtual 108, 3) := by decide +kernel
theorem dX10_span_50 : decode cX10_span 50 = .ok (.if_icmp .ne 10, 3) := by decide +kernel
theorem dX10_span_53 : decode cX10_span 53 = .ok (.iconst 1, 1) := by decide +kernel
theorem dX10_span_54 : decode cX10_span 54 = .ok (.iload 4, 2) := by decide +kernel
theorem dX10_span_56 : decode cX10_span 56 = .ok (.ishl, 1) := by decide +kernel
theorem dX10_span_57 : decode cX10_span 57 = .ok (.goto 4, 3) := by decide +kernel
theorem dX10_span_60 : decode cX10_span 60 = .ok (.iconst 0, 1) := by decide +kernel
theorem dX10_span_61 : decode cX10_span 61 = .ok (.ior, 1) := by decide +kernel
theorem dX10_span_62 : decode cX10_span 62 = .ok (.istore_n 3, 1) := by decide +kernel
theorem dX10_span_63 : decode cX10_span 63 = .ok (.iinc 4 1, 3) := by decide +kernel
theorem dX10_span_66 : decode cX10_span 66 = .ok (.goto (-43), 3) := by decide +kernel
theorem dX10_span_69 : decode cX10_span 69 = .ok (.iload_n 3, 1) := by decide +kernel
theorem dX10_span_70 : decode cX10_span 70 = .ok (.ireturn, 1) := by decide +kernel
theorem dX10_ring_0 : decode cX10_ring 0 = .ok (.aload_n 0, 1) := by decide +kernel
theorem dX10_ring_1 : decode cX10_ring 1 = .ok (.iload_n 1, 1) := by decide +kernel
theorem dX10_ring_2 : decode cX10_ring 2 = .ok (.invokevirtual 191, 3) := by decide +kernel
theorem dX10_ring_5 : decode cX10_ring 5 = .ok (.ifCond .eq 11, 3) := by decide +kernel
theorem dX10_ring_8 : decode cX10_ring 8 = .ok (.aload_n 0, 1) := by decide +kernel
theorem dX10_ring_9 : decode cX10_ring 9 = .ok (.iload_n 2, 1) := by decide +kernel
theorem dX10_ring_10 : decode cX10_ring 10 = .ok (.invokevirtual 194, 3) := by decide +kernel
theorem dX10_ring_13 : decode cX10_ring 13 = .ok (.ifCond .ne 5, 3) := by decide +kernel
theorem dX10_ring_16 : decode cX10_ring 16 = .ok (.iconst (-1), 1) := by decide +kernel
theorem dX10_ring_17 : decode cX10_ring 17 = .ok (.ireturn, 1) := by decide +kernel
theorem dX10_ring_18 : decode cX10_ring 18 = .ok (.iconst 0, 1) := by decide +kernel
theorem dX10_ring_19 : decode cX10_ring 19 = .ok (.istore_n 3, 1) := by decide +kernel
theorem dX10_ring_20 : decode cX10_ring 20 = .ok (.iload_n 3, 1) := by decide +kernel
theorem dX10_ring_21 : decode cX10_ring 21 = .ok (.iload_n 2, 1) := by decide +kernel
theorem dX10_ring_22 : decode cX10_ring 22 = .ok (.if_icmp .gt 37, 3) := by decide +kernel
theorem dX10_ring_25 : decode cX10_ring 25 = .ok (.aload_n 0, 1) := by decide +kernel
theorem dX10_ring_26 : decode cX10_ring 26 = .ok (.iload_n 1, 1) := by decide +kernel
theorem dX10_ring_27 : decode cX10_ring 27 = .ok (.iload_n 2, 1) := by decide +kernel
theorem dX10_ring_28 : decode cX10_ring 28 = .ok (.invokevirtual 100, 3) := by decide +kernel
theorem dX10_ring_31 : decode cX10_ring 31 = .ok (.ifCond .ne 28, 3) := by decide +kernel
theorem dX10_ring_34 : decode cX10_ring 34 = .ok (.iload_n 3, 1) := by decide +kernel
theorem dX10_ring_35 : decode cX10_ring 35 = .ok (.iload_n 2, 1) := by decide +kernel
theorem dX10_ring_36 : decode cX10_ring 36 = .ok (.iconst (-1), 1) := by decide +kernel
theorem dX10_ring_37 : decode cX10_ring 37 = .ok (.ixor, 1) := by decide +kernel
theorem dX10_ring_38 : decode cX10_ring 38 = .ok (.iand, 1) := by decide +kernel
theorem dX10_ring_39 : decode cX10_ring 39 = .ok (.ifCond .ne 14, 3) := by decide +kernel
theorem dX10_ring_42 : decode cX10_ring 42 = .ok (.aload_n 0, 1) := by decide +kernel
theorem dX10_ring_43 : decode cX10_ring 43 = .ok (.iload_n 1, 1) := by decide +kernel
theorem dX10_ring_44 : decode cX10_ring 44 = .ok (.iload_n 3, 1) := by decide +kernel
theorem dX10_ring_45 : decode cX10_ring 45 = .ok (.invokevirtual 100, 3) := by decide +kernel
theorem dX10_ring_48 : decode cX10_ring 48 = .ok (.ifCond .ne 5, 3) := by decide +kernel
theorem dX10_ring_51 : decode cX10_ring 51 = .ok (.iload_n 3, 1) := by decide +kernel
theorem dX10_ring_52 : decode cX10_ring 52 = .ok (.ireturn, 1) := by decide +kernel
theorem dX10_ring_53 : decode cX10_ring 53 = .ok (.iinc 3 1, 3) := by decide +kernel
theorem dX10_ring_56 : decode cX10_ring 56 = .ok (.goto (-36), 3) := by decide +kernel
theorem dX10_ring_59 : decode cX10_ring 59 = .ok (.iconst 0, 1) := by decide +kernel
theorem dX10_ring_60 : decode cX10_ring 60 = .ok (.ireturn, 1) := by decide +kernel
theorem dX10_exchange_0 : decode cX10_exchange 0 = .ok (.aload_n 0, 1) := by decide +kernel
theorem dX10_exchange_1 : decode cX10_exchange 1 = .ok (.iload_n 1, 1) := by decide +kernel
theorem dX10_exchange_2 : decode cX10_exchange 2 = .ok (.invokevirtual 191, 3) := by decide +kernel
theorem dX10_exchange_5 : decode cX10_exchange 5 = .ok (.ifCond .eq 37, 3) := by decide +kernel
theorem dX10_exchange_8 : decode cX10_exchange 8 = .ok (.aload_n 0, 1) := by decide +kernel
theorem dX10_exchange_9 : decode cX10_exchange 9 = .ok (.iload_n 2, 1) := by decide +kernel
theorem dX10_exchange_10 : decode cX10_exchange 10 = .ok (.invokevirtual 194, 3) := by decide +kernel
theorem dX10_exchange_13 : decode cX10_exchange 13 = .ok (.ifCond .eq 29, 3) := by decide +kernel
theorem dX10_exchange_16 : decode cX10_exchange 16 = .ok (.aload_n 0, 1) := by decide +kernel
theorem dX10_exchange_17 : decode cX10_exchange 17 = .ok (.iload_n 3, 1) := by decide +kernel
theorem dX10_exchange_18 : decode cX10_exchange 18 = .ok (.invokevirtual 88, 3) := by decide +kernel
theorem dX10_exchange_21 : decode cX10_exchange 21 = .ok (.ifCond .eq 21, 3) := by decide +kernel
theorem dX10_exchange_24 : decode cX10_exchange 24 = .ok (.aload_n 0, 1) := by decide +kernel
theorem dX10_exchange_25 : decode cX10_exchange 25 = .ok (.iload_n 1, 1) := by decide +kernel
theorem dX10_exchange_26 : decode cX10_exchange 26 = .ok (.iload_n 2, 1) := by decide +kernel
theorem dX10_exchange_27 : decode cX10_exchange 27 = .ok (.invokevirtual 100, 3) := by decide +kernel
theorem dX10_exchange_30 : decode cX10_exchange 30 = .ok (.ifCond .eq 12, 3) := by decide +kernel
theorem dX10_exchange_33 : decode cX10_exchange 33 = .ok (.iload_n 2, 1) := by decide +kernel
theorem dX10_exchange_34 : decode cX10_exchange 34 = .ok (.iload_n 3, 1) := by decide +kernel
theorem dX10_exchange_35 : decode cX10_exchange 35 = .ok (.ishr, 1) := by decide +kernel
theorem dX10_exchange_36 : decode cX10_exchange 36 = .ok (.iconst 1, 1) := by decide +kernel
theorem dX10_exchange_37 : decode cX10_exchange 37 = .ok (.iand, 1) := by decide +kernel
theorem dX10_exchange_38 : decode cX10_exchange 38 = .ok (.iconst 1, 1) := by decide +kernel
theorem dX10_exchange_39 : decode cX10_exchange 39 = .ok (.if_icmp .ne 5, 3) := by decide +kernel
theorem dX10_exchange_42 : decode cX10_exchange 42 = .ok (.iconst (-1), 1) := by decide +kernel
theorem dX10_exchange_43 : decode cX10_exchange 43 = .ok (.ireturn, 1) := by decide +kernel
theorem dX10_exchange_44 : decode cX10_exchange 44 = .ok (.iload_n 2, 1) := by decide +kernel
theorem dX10_exchange_45 : decode cX10_exchange 45 = .ok (.iconst 1, 1) := by decide +kernel
theorem dX10_exchange_46 : decode cX10_exchange 46 = .ok (.iload_n 3, 1) := by decide +kernel
theorem dX10_exchange_47 : decode cX10_exchange 47 = .ok (.ishl, 1) := by decide +kernel
theorem dX10_exchange_48 : decode cX10_exchange 48 = .ok (.ior, 1) := by decide +kernel
theorem dX10_exchange_49 : decode cX10_exchange 49 = .ok (.istore 4, 2) := by decide +kernel
theorem dX10_exchange_51 : decode cX10_exchange 51 = .ok (.aload_n 0, 1) := by decide +kernel
theorem dX10_exchange_52 : decode cX10_exchange 52 = .ok (.iload_n 1, 1) := by decide +kernel
theorem dX10_exchange_53 : decode cX10_exchange 53 = .ok (.iload 4, 2) := by decide +kernel
theorem dX10_exchange_55 : decode cX10_exchange 55 = .ok (.invokevirtual 100, 3) := by decide +kernel
theorem dX10_exchange_58 : decode cX10_exchange 58 = .ok (.ifCond .eq 5, 3) := by decide +kernel
theorem dX10_exchange_61 : decode cX10_exchange 61 = .ok (.iconst 0, 1) := by decide +kernel
theorem dX10_exchange_62 : decode cX10_exchange 62 = .ok (.ireturn, 1) := by decide +kernel
theorem dX10_exchange_63 : decode cX10_exchange 63 = .ok (.iconst 0, 1) := by decide +kernel
theorem dX10_exchange_64 : decode cX10_exchange 64 = .ok (.istore 5, 2) := by decide +kernel
theorem dX10_exchange_66 : decode cX10_exchange 66 = .ok (.iconst 0, 1) := by decide +kernel
theorem dX10_exchange_67 : decode cX10_exchange 67 = .ok (.istore 6, 2) := by decide +kernel
theorem dX10_exchange_69 : decode cX10_exchange 69 = .ok (.iload 6, 2) := by decide +kernel
theorem dX10_exchange_71 : decode cX10_exchange 71 = .ok (.aload_n 0, 1) := by decide +kernel
theorem dX10_exchange_72 : decode cX10_exchange 72 = .ok (.getfield 7, 3) := by decide +kernel
theorem dX10_exchange_75 : decode cX10_exchange 75 = .ok (.if_icmp .ge 49, 3) := by decide +kernel
theorem dX10_exchange_78 : decode cX10_exchange 78 = .ok (.iload 5, 2) := by decide +kernel
theorem dX10_exchange_80 : decode cX10_exchange 80 = .ok (.iload_n 2, 1) := by decide +kernel
theorem dX10_exchange_81 : decode cX10_exchange 81 = .ok (.iload 6, 2) := by decide +kernel
theorem dX10_exchange_83 : decode cX10_exchange 83 = .ok (.ishr, 1) := by decide +kernel
theorem dX10_exchange_84 : decode cX10_exchange 84 = .ok (.iconst 1, 1) := by decide +kernel
theorem dX10_exchange_85 : decode cX10_exchange 85 = .ok (.iand, 1) := by decide +kernel
theorem dX10_exchange_86 : decode cX10_exchange 86 = .ok (.iconst 1, 1) := by decide +kernel
theorem dX10_exchange_87 : decode cX10_exchange 87 = .ok (.if_icmp .ne 27, 3) := by decide +kernel
theorem dX10_exchange_90 : decode cX10_exchange 90 = .ok (.aload_n 0, 1) := by decide +kernel
theorem dX10_exchange_91 : decode cX10_exchange 91 = .ok (.iload_n 1, 1) := by decide +kernel
theorem dX10_exchange_92 : decode cX10_exchange 92 = .ok (.iload 4, 2) := by decide +kernel
theorem dX10_exchange_94 : decode cX10_exchange 94 = .ok (.iconst 1, 1) := by decide +kernel
theorem dX10_exchange_95 : decode cX10_exchange 95 = .ok (.iload 6, 2) := by decide +kernel
theorem dX10_exchange_97 : decode cX10_exchange 97 = .ok (.ishl, 1) := by decide +kernel
theorem dX10_exchange_98 : decode cX10_exchange 98 = .ok (.iconst (-1), 1) := by decide +kernel
theorem dX10_exchange_99 : decode cX10_exchange 99 = .ok (.ixor, 1) := by decide +kernel
theorem dX10_exchange_100 : decode cX10_exchange 100 = .ok (.iand, 1) := by decide +kernel
theorem dX10_exchange_101 : decode cX10_exchange 101 = .ok (.invokevirtual 100, 3) := by decide +kernel
theorem dX10_exchange_104 : decode cX10_exchange 104 = .ok (.ifCond .eq 10, 3) := by decide +kernel
theorem dX10_exchange_107 : decode cX10_exchange 107 = .ok (.iconst 1, 1) := by decide +kernel
theorem dX10_exchange_108 : decode cX10_exchange 108 = .ok (.iload 6, 2) := by decide +kernel
theorem dX10_exchange_110 : decode cX10_exchange 110 = .ok (.ishl, 1) := by decide +kernel
theorem dX10_exchange_111 : decode cX10_exchange 111 = .ok (.goto 4, 3) := by decide +kernel
theorem dX10_exchange_114 : decode cX10_exchange 114 = .ok (.iconst 0, 1) := by decide +kernel
theorem dX10_exchange_115 : decode cX10_exchange 115 = .ok (.ior, 1) := by decide +kernel
theorem dX10_exchange_116 : decode cX10_exchange 116 = .ok (.istore 5, 2) := by decide +kernel
theorem dX10_exchange_118 : decode cX10_exchange 118 = .ok (.iinc 6 1, 3) := by decide +kernel
theorem dX10_exchange_121 : decode cX10_exchange 121 = .ok (.goto (-52), 3) := by decide +kernel
theorem dX10_exchange_124 : decode cX10_exchange 124 = .ok (.iload 5, 2) := by decide +kernel
theorem dX10_exchange_126 : decode cX10_exchange 126 = .ok (.ireturn, 1) := by decide +kernel
theorem dX10_weightOf_0 : decode cX10_weightOf 0 = .ok (.iconst 0, 1) := by decide +kernel
theorem dX10_weightOf_1 : decode cX10_weightOf 1 = .ok (.istore_n 2, 1) := by decide +kernel
theorem dX10_weightOf_2 : decode cX10_weightOf 2 = .ok (.iconst 0, 1) := by decide +kernel
theorem dX10_weightOf_3 : decode cX10_weightOf 3 = .ok (.istore_n 3, 1) := by decide +kernel
theorem dX10_weightOf_4 : decode cX10_weightOf 4 = .ok (.iload_n 3, 1) := by decide +kernel
theorem dX10_weightOf_5 : decode cX10_weightOf 5 = .ok (.aload_n 0, 1) := by decide +kernel
theorem dX10_weightOf_6 : decode cX10_weightOf 6 = .ok (.getfield 7, 3) := by decide +kernel
theorem dX10_weightOf_9 : decode cX10_weightOf 9 = .ok (.if_icmp .ge 31, 3) := by decide +kernel
theorem dX10_weightOf_12 : decode cX10_weightOf 12 = .ok (.iload_n 2, 1) := by decide +kernel
theorem dX10_weightOf_13 : decode cX10_weightOf 13 = .ok (.iload_n 1, 1) := by decide +kernel
theorem dX10_weightOf_14 : decode cX10_weightOf 14 = .ok (.iload_n 3, 1) := by decide +kernel
theorem dX10_weightOf_15 : decode cX10_weightOf 15 = .ok (.ishr, 1) := by decide +kernel
theorem dX10_weightOf_16 : decode cX10_weightOf 16 = .ok (.iconst 1, 1) := by decide +kernel
theorem dX10_weightOf_17 : decode cX10_weightOf 17 = .ok (.iand, 1) := by decide +kernel
theorem dX10_weightOf_18 : decode cX10_weightOf 18 = .ok (.iconst 1, 1) := by decide +kernel
theorem dX10_weightOf_19 : decode cX10_weightOf 19 = .ok (.if_icmp .ne 12, 3) := by decide +kernel
theorem dX10_weightOf_22 : decode cX10_weightOf 22 = .ok (.aload_n 0, 1) := by decide +kernel
theorem dX10_weightOf_23 : decode cX10_weightOf 23 = .ok (.getfield 16, 3) := by decide +kernel
theorem dX10_weightOf_26 : decode cX10_weightOf 26 = .ok (.iload_n 3, 1) := by decide +kernel
theorem dX10_weightOf_27 : decode cX10_weightOf 27 = .ok (.iaload, 1) := by decide +kernel
theorem dX10_weightOf_28 : decode cX10_weightOf 28 = .ok (.goto 4, 3) := by decide +kernel
theorem dX10_weightOf_31 : decode cX10_weightOf 31 = .ok (.iconst 0, 1) := by decide +kernel
theorem dX10_weightOf_32 : decode cX10_weightOf 32 = .ok (.iadd, 1) := by decide +kernel
theorem dX10_weightOf_33 : decode cX10_weightOf 33 = .ok (.istore_n 2, 1) := by decide +kernel
theorem dX10_weightOf_34 : decode cX10_weightOf 34 = .ok (.iinc 3 1, 3) := by decide +kernel
theorem dX10_weightOf_37 : decode cX10_weightOf 37 = .ok (.goto (-33), 3) := by decide +kernel
theorem dX10_weightOf_40 : decode cX10_weightOf 40 = .ok (.iload_n 2, 1) := by decide +kernel
theorem dX10_weightOf_41 : decode cX10_weightOf 41 = .ok (.ireturn, 1) := by decide +kernel
theorem dX10_isBetter_0 : decode cX10_isBetter 0 = .ok (.aload_n 0, 1) := by decide +kernel
theorem dX10_isBetter_1 : decode cX10_isBetter 1 = .ok (.iload_n 1, 1) := by decide +kernel
theorem dX10_isBetter_2 : decode cX10_isBetter 2 = .ok (.invokevirtual 204, 3) := by decide +kernel
theorem dX10_isBetter_5 : decode cX10_isBetter 5 = .ok (.istore 4, 2) := by decide +kernel
theorem dX10_isBetter_7 : decode cX10_isBetter 7 = .ok (.aload_n 0, 1) := by decide +kernel
end
section
theorem dX10_isBetter_8 : decode cX10_isBetter 8 = .ok (.iload_n 2, 1) := by decide +kernel
theorem dX10_isBetter_9 : decode cX10_isBetter 9 = .ok (.invokevirtual 204, 3) := by decide +kernel
theorem dX10_isBetter_12 : decode cX10_isBetter 12 = .ok (.istore 5, 2) := by decide +kernel
theorem dX10_isBetter_14 : decode cX10_isBetter 14 = .ok (.iload 4, 2) := by decide +kernel
theorem dX10_isBetter_16 : decode cX10_isBetter 16 = .ok (.iload 5, 2) := by decide +kernel
theorem dX10_isBetter_18 : decode cX10_isBetter 18 = .ok (.if_icmp .eq 35, 3) := by decide +kernel
theorem dX10_isBetter_21 : decode cX10_isBetter 21 = .ok (.iload_n 3, 1) := by decide +kernel
theorem dX10_isBetter_22 : decode cX10_isBetter 22 = .ok (.ifCond .eq 18, 3) := by decide +kernel
theorem dX10_isBetter_25 : decode cX10_isBetter 25 = .ok (.iload 4, 2) := by decide +kernel
theorem dX10_isBetter_27 : decode cX10_isBetter 27 = .ok (.iload 5, 2) := by decide +kernel
theorem dX10_isBetter_29 : decode cX10_isBetter 29 = .ok (.if_icmp .ge 7, 3) := by decide +kernel
theorem dX10_isBetter_32 : decode cX10_isBetter 32 = .ok (.iconst 1, 1) := by decide +kernel
theorem dX10_isBetter_33 : decode cX10_isBetter 33 = .ok (.goto 19, 3) := by decide +kernel
theorem dX10_isBetter_36 : decode cX10_isBetter 36 = .ok (.iconst 0, 1) := by decide +kernel
theorem dX10_isBetter_37 : decode cX10_isBetter 37 = .ok (.goto 15, 3) := by decide +kernel
theorem dX10_isBetter_40 : decode cX10_isBetter 40 = .ok (.iload 4, 2) := by decide +kernel
theorem dX10_isBetter_42 : decode cX10_isBetter 42 = .ok (.iload 5, 2) := by decide +kernel
theorem dX10_isBetter_44 : decode cX10_isBetter 44 = .ok (.if_icmp .le 7, 3) := by decide +kernel
theorem dX10_isBetter_47 : decode cX10_isBetter 47 = .ok (.iconst 1, 1) := by decide +kernel
theorem dX10_isBetter_48 : decode cX10_isBetter 48 = .ok (.goto 4, 3) := by decide +kernel
theorem dX10_isBetter_51 : decode cX10_isBetter 51 = .ok (.iconst 0, 1) := by decide +kernel
theorem dX10_isBetter_52 : decode cX10_isBetter 52 = .ok (.ireturn, 1) := by decide +kernel
theorem dX10_isBetter_53 : decode cX10_isBetter 53 = .ok (.iconst (-1), 1) := by decide +kernel
theorem dX10_isBetter_54 : decode cX10_isBetter 54 = .ok (.istore 6, 2) := by decide +kernel
theorem dX10_isBetter_56 : decode cX10_isBetter 56 = .ok (.iconst 0, 1) := by decide +kernel
theorem dX10_isBetter_57 : decode cX10_isBetter 57 = .ok (.istore 7, 2) := by decide +kernel
theorem dX10_isBetter_59 : decode cX10_isBetter 59 = .ok (.iload 7, 2) := by decide +kernel
theorem dX10_isBetter_61 : decode cX10_isBetter 61 = .ok (.aload_n 0, 1) := by decide +kernel
theorem dX10_isBetter_62 : decode cX10_isBetter 62 = .ok (.getfield 7, 3) := by decide +kernel
theorem dX10_isBetter_65 : decode cX10_isBetter 65 = .ok (.if_icmp .ge 84, 3) := by decide +kernel
theorem dX10_isBetter_68 : decode cX10_isBetter 68 = .ok (.iload_n 1, 1) := by decide +kernel
theorem dX10_isBetter_69 : decode cX10_isBetter 69 = .ok (.iload_n 2, 1) := by decide +kernel
theorem dX10_isBetter_70 : decode cX10_isBetter 70 = .ok (.ixor, 1) := by decide +kernel
theorem dX10_isBetter_71 : decode cX10_isBetter 71 = .ok (.iload 7, 2) := by decide +kernel
theorem dX10_isBetter_73 : decode cX10_isBetter 73 = .ok (.ishr, 1) := by decide +kernel
theorem dX10_isBetter_74 : decode cX10_isBetter 74 = .ok (.iconst 1, 1) := by decide +kernel
theorem dX10_isBetter_75 : decode cX10_isBetter 75 = .ok (.iand, 1) := by decide +kernel
theorem dX10_isBetter_76 : decode cX10_isBetter 76 = .ok (.iconst 1, 1) := by decide +kernel
theorem dX10_isBetter_77 : decode cX10_isBetter 77 = .ok (.if_icmp .ne 7, 3) := by decide +kernel
theorem dX10_isBetter_80 : decode cX10_isBetter 80 = .ok (.iconst 1, 1) := by decide +kernel
theorem dX10_isBetter_81 : decode cX10_isBetter 81 = .ok (.goto 4, 3) := by decide +kernel
theorem dX10_isBetter_84 : decode cX10_isBetter 84 = .ok (.iconst 0, 1) := by decide +kernel
theorem dX10_isBetter_85 : decode cX10_isBetter 85 = .ok (.istore 8, 2) := by decide +kernel
theorem dX10_isBetter_87 : decode cX10_isBetter 87 = .ok (.iload 8, 2) := by decide +kernel
theorem dX10_isBetter_89 : decode cX10_isBetter 89 = .ok (.ifCond .eq 54, 3) := by decide +kernel
theorem dX10_isBetter_92 : decode cX10_isBetter 92 = .ok (.iload 6, 2) := by decide +kernel
theorem dX10_isBetter_94 : decode cX10_isBetter 94 = .ok (.iconst (-1), 1) := by decide +kernel
theorem dX10_isBetter_95 : decode cX10_isBetter 95 = .ok (.if_icmp .eq 44, 3) := by decide +kernel
theorem dX10_isBetter_98 : decode cX10_isBetter 98 = .ok (.iload_n 3, 1) := by decide +kernel
theorem dX10_isBetter_99 : decode cX10_isBetter 99 = .ok (.ifCond .eq 23, 3) := by decide +kernel
theorem dX10_isBetter_102 : decode cX10_isBetter 102 = .ok (.aload_n 0, 1) := by decide +kernel
theorem dX10_isBetter_103 : decode cX10_isBetter 103 = .ok (.getfield 16, 3) := by decide +kernel
theorem dX10_isBetter_106 : decode cX10_isBetter 106 = .ok (.iload 7, 2) := by decide +kernel
theorem dX10_isBetter_108 : decode cX10_isBetter 108 = .ok (.iaload, 1) := by decide +kernel
theorem dX10_isBetter_109 : decode cX10_isBetter 109 = .ok (.aload_n 0, 1) := by decide +kernel
theorem dX10_isBetter_110 : decode cX10_isBetter 110 = .ok (.getfield 16, 3) := by decide +kernel
theorem dX10_isBetter_113 : decode cX10_isBetter 113 = .ok (.iload 6, 2) := by decide +kernel
theorem dX10_isBetter_115 : decode cX10_isBetter 115 = .ok (.iaload, 1) := by decide +kernel
theorem dX10_isBetter_116 : decode cX10_isBetter 116 = .ok (.if_icmp .ge 27, 3) := by decide +kernel
theorem dX10_isBetter_119 : decode cX10_isBetter 119 = .ok (.goto 20, 3) := by decide +kernel
theorem dX10_isBetter_122 : decode cX10_isBetter 122 = .ok (.aload_n 0, 1) := by decide +kernel
theorem dX10_isBetter_123 : decode cX10_isBetter 123 = .ok (.getfield 16, 3) := by decide +kernel
theorem dX10_isBetter_126 : decode cX10_isBetter 126 = .ok (.iload 7, 2) := by decide +kernel
theorem dX10_isBetter_128 : decode cX10_isBetter 128 = .ok (.iaload, 1) := by decide +kernel
theorem dX10_isBetter_129 : decode cX10_isBetter 129 = .ok (.aload_n 0, 1) := by decide +kernel
theorem dX10_isBetter_130 : decode cX10_isBetter 130 = .ok (.getfield 16, 3) := by decide +kernel
theorem dX10_isBetter_133 : decode cX10_isBetter 133 = .ok (.iload 6, 2) := by decide +kernel
theorem dX10_isBetter_135 : decode cX10_isBetter 135 = .ok (.iaload, 1) := by decide +kernel
theorem dX10_isBetter_136 : decode cX10_isBetter 136 = .ok (.if_icmp .le 7, 3) := by decide +kernel
theorem dX10_isBetter_139 : decode cX10_isBetter 139 = .ok (.iload 7, 2) := by decide +kernel
theorem dX10_isBetter_141 : decode cX10_isBetter 141 = .ok (.istore 6, 2) := by decide +kernel
theorem dX10_isBetter_143 : decode cX10_isBetter 143 = .ok (.iinc 7 1, 3) := by decide +kernel
theorem dX10_isBetter_146 : decode cX10_isBetter 146 = .ok (.goto (-87), 3) := by decide +kernel
theorem dX10_isBetter_149 : decode cX10_isBetter 149 = .ok (.iload 6, 2) := by decide +kernel
theorem dX10_isBetter_151 : decode cX10_isBetter 151 = .ok (.iconst (-1), 1) := by decide +kernel
theorem dX10_isBetter_152 : decode cX10_isBetter 152 = .ok (.if_icmp .eq 17, 3) := by decide +kernel
theorem dX10_isBetter_155 : decode cX10_isBetter 155 = .ok (.iload_n 1, 1) := by decide +kernel
theorem dX10_isBetter_156 : decode cX10_isBetter 156 = .ok (.iload 6, 2) := by decide +kernel
theorem dX10_isBetter_158 : decode cX10_isBetter 158 = .ok (.ishr, 1) := by decide +kernel
theorem dX10_isBetter_159 : decode cX10_isBetter 159 = .ok (.iconst 1, 1) := by decide +kernel
theorem dX10_isBetter_160 : decode cX10_isBetter 160 = .ok (.iand, 1) := by decide +kernel
theorem dX10_isBetter_161 : decode cX10_isBetter 161 = .ok (.iconst 1, 1) := by decide +kernel
theorem dX10_isBetter_162 : decode cX10_isBetter 162 = .ok (.if_icmp .ne 7, 3) := by decide +kernel
theorem dX10_isBetter_165 : decode cX10_isBetter 165 = .ok (.iconst 1, 1) := by decide +kernel
theorem dX10_isBetter_166 : decode cX10_isBetter 166 = .ok (.goto 4, 3) := by decide +kernel
theorem dX10_isBetter_169 : decode cX10_isBetter 169 = .ok (.iconst 0, 1) := by decide +kernel
theorem dX10_isBetter_170 : decode cX10_isBetter 170 = .ok (.ireturn, 1) := by decide +kernel
theorem dX10_isFull_0 : decode cX10_isFull 0 = .ok (.aload_n 0, 1) := by decide +kernel
theorem dX10_isFull_1 : decode cX10_isFull 1 = .ok (.iload_n 1, 1) := by decide +kernel
theorem dX10_isFull_2 : decode cX10_isFull 2 = .ok (.iload_n 2, 1) := by decide +kernel
theorem dX10_isFull_3 : decode cX10_isFull 3 = .ok (.invokevirtual 100, 3) := by decide +kernel
theorem dX10_isFull_6 : decode cX10_isFull 6 = .ok (.ifCond .eq 23, 3) := by decide +kernel
theorem dX10_isFull_9 : decode cX10_isFull 9 = .ok (.iload_n 2, 1) := by decide +kernel
theorem dX10_isFull_10 : decode cX10_isFull 10 = .ok (.invokestatic 104, 3) := by decide +kernel
theorem dX10_isFull_13 : decode cX10_isFull 13 = .ok (.aload_n 0, 1) := by decide +kernel
theorem dX10_isFull_14 : decode cX10_isFull 14 = .ok (.iload_n 1, 1) := by decide +kernel
theorem dX10_isFull_15 : decode cX10_isFull 15 = .ok (.aload_n 0, 1) := by decide +kernel
theorem dX10_isFull_16 : decode cX10_isFull 16 = .ok (.getfield 13, 3) := by decide +kernel
theorem dX10_isFull_19 : decode cX10_isFull 19 = .ok (.invokevirtual 108, 3) := by decide +kernel
theorem dX10_isFull_22 : decode cX10_isFull 22 = .ok (.if_icmp .ne 7, 3) := by decide +kernel
theorem dX10_isFull_25 : decode cX10_isFull 25 = .ok (.iconst 1, 1) := by decide +kernel
theorem dX10_isFull_26 : decode cX10_isFull 26 = .ok (.goto 4, 3) := by decide +kernel
theorem dX10_isFull_29 : decode cX10_isFull 29 = .ok (.iconst 0, 1) := by decide +kernel
theorem dX10_isFull_30 : decode cX10_isFull 30 = .ok (.ireturn, 1) := by decide +kernel
theorem dX10_full_0 : decode cX10_full 0 = .ok (.aload_n 0, 1) := by decide +kernel
theorem dX10_full_1 : decode cX10_full 1 = .ok (.iload_n 1, 1) := by decide +kernel
theorem dX10_full_2 : decode cX10_full 2 = .ok (.invokevirtual 191, 3) := by decide +kernel
theorem dX10_full_5 : decode cX10_full 5 = .ok (.ifCond .ne 5, 3) := by decide +kernel
theorem dX10_full_8 : decode cX10_full 8 = .ok (.iconst (-1), 1) := by decide +kernel
theorem dX10_full_9 : decode cX10_full 9 = .ok (.ireturn, 1) := by decide +kernel
theorem dX10_full_10 : decode cX10_full 10 = .ok (.iconst (-1), 1) := by decide +kernel
theorem dX10_full_11 : decode cX10_full 11 = .ok (.istore_n 3, 1) := by decide +kernel
theorem dX10_full_12 : decode cX10_full 12 = .ok (.iconst 0, 1) := by decide +kernel
theorem dX10_full_13 : decode cX10_full 13 = .ok (.istore 4, 2) := by decide +kernel
theorem dX10_full_15 : decode cX10_full 15 = .ok (.iload 4, 2) := by decide +kernel
theorem dX10_full_17 : decode cX10_full 17 = .ok (.aload_n 0, 1) := by decide +kernel
theorem dX10_full_18 : decode cX10_full 18 = .ok (.getfield 13, 3) := by decide +kernel
theorem dX10_full_21 : decode cX10_full 21 = .ok (.if_icmp .gt 38, 3) := by decide +kernel
theorem dX10_full_24 : decode cX10_full 24 = .ok (.aload_n 0, 1) := by decide +kernel
theorem dX10_full_25 : decode cX10_full 25 = .ok (.iload_n 1, 1) := by decide +kernel
theorem dX10_full_26 : decode cX10_full 26 = .ok (.iload 4, 2) := by decide +kernel
theorem dX10_full_28 : decode cX10_full 28 = .ok (.invokevirtual 207, 3) := by decide +kernel
theorem dX10_full_31 : decode cX10_full 31 = .ok (.ifCond .eq 22, 3) := by decide +kernel
theorem dX10_full_34 : decode cX10_full 34 = .ok (.iload_n 3, 1) := by decide +kernel
theorem dX10_full_35 : decode cX10_full 35 = .ok (.iconst (-1), 1) := by decide +kernel
theorem dX10_full_36 : decode cX10_full 36 = .ok (.if_icmp .eq 14, 3) := by decide +kernel
theorem dX10_full_39 : decode cX10_full 39 = .ok (.aload_n 0, 1) := by decide +kernel
theorem dX10_full_40 : decode cX10_full 40 = .ok (.iload 4, 2) := by decide +kernel
theorem dX10_full_42 : decode cX10_full 42 = .ok (.iload_n 3, 1) := by decide +kernel
theorem dX10_full_43 : decode cX10_full 43 = .ok (.iload_n 2, 1) := by decide +kernel
theorem dX10_full_44 : decode cX10_full 44 = .ok (.invokevirtual 210, 3) := by decide +kernel
theorem dX10_full_47 : decode cX10_full 47 = .ok (.ifCond .eq 6, 3) := by decide +kernel
theorem dX10_full_50 : decode cX10_full 50 = .ok (.iload 4, 2) := by decide +kernel
theorem dX10_full_52 : decode cX10_full 52 = .ok (.istore_n 3, 1) := by decide +kernel
theorem dX10_full_53 : decode cX10_full 53 = .ok (.iinc 4 1, 3) := by decide +kernel
theorem dX10_full_56 : decode cX10_full 56 = .ok (.goto (-41), 3) := by decide +kernel
theorem dX10_full_59 : decode cX10_full 59 = .ok (.iload_n 3, 1) := by decide +kernel
theorem dX10_full_60 : decode cX10_full 60 = .ok (.ireturn, 1) := by decide +kernel
theorem dX10_both_0 : decode cX10_both 0 = .ok (.aload_n 0, 1) := by decide +kernel
theorem dX10_both_1 : decode cX10_both 1 = .ok (.iload_n 1, 1) := by decide +kernel
theorem dX10_both_2 : decode cX10_both 2 = .ok (.invokevirtual 191, 3) := by decide +kernel
theorem dX10_both_5 : decode cX10_both 5 = .ok (.ifCond .eq 11, 3) := by decide +kernel
theorem dX10_both_8 : decode cX10_both 8 = .ok (.aload_n 0, 1) := by decide +kernel
theorem dX10_both_9 : decode cX10_both 9 = .ok (.iload_n 2, 1) := by decide +kernel
theorem dX10_both_10 : decode cX10_both 10 = .ok (.invokevirtual 191, 3) := by decide +kernel
theorem dX10_both_13 : decode cX10_both 13 = .ok (.ifCond .ne 5, 3) := by decide +kernel
theorem dX10_both_16 : decode cX10_both 16 = .ok (.iconst (-1), 1) := by decide +kernel
theorem dX10_both_17 : decode cX10_both 17 = .ok (.ireturn, 1) := by decide +kernel
theorem dX10_both_18 : decode cX10_both 18 = .ok (.iconst 0, 1) := by decide +kernel
theorem dX10_both_19 : decode cX10_both 19 = .ok (.istore_n 3, 1) := by decide +kernel
theorem dX10_both_20 : decode cX10_both 20 = .ok (.iconst 0, 1) := by decide +kernel
theorem dX10_both_21 : decode cX10_both 21 = .ok (.istore 4, 2) := by decide +kernel
theorem dX10_both_23 : decode cX10_both 23 = .ok (.iload 4, 2) := by decide +kernel
theorem dX10_both_25 : decode cX10_both 25 = .ok (.aload_n 0, 1) := by decide +kernel
theorem dX10_both_26 : decode cX10_both 26 = .ok (.getfield 13, 3) := by decide +kernel
theorem dX10_both_29 : decode cX10_both 29 = .ok (.if_icmp .gt 44, 3) := by decide +kernel
theorem dX10_both_32 : decode cX10_both 32 = .ok (.aload_n 0, 1) := by decide +kernel
theorem dX10_both_33 : decode cX10_both 33 = .ok (.iload_n 1, 1) := by decide +kernel
theorem dX10_both_34 : decode cX10_both 34 = .ok (.iload 4, 2) := by decide +kernel
theorem dX10_both_36 : decode cX10_both 36 = .ok (.invokevirtual 100, 3) := by decide +kernel
theorem dX10_both_39 : decode cX10_both 39 = .ok (.ifCond .eq 28, 3) := by decide +kernel
theorem dX10_both_42 : decode cX10_both 42 = .ok (.aload_n 0, 1) := by decide +kernel
theorem dX10_both_43 : decode cX10_both 43 = .ok (.iload_n 2, 1) := by decide +kernel
theorem dX10_both_44 : decode cX10_both 44 = .ok (.iload 4, 2) := by decide +kernel
theorem dX10_both_46 : decode cX10_both 46 = .ok (.invokevirtual 100, 3) := by decide +kernel
theorem dX10_both_49 : decode cX10_both 49 = .ok (.ifCond .eq 18, 3) := by decide +kernel
theorem dX10_both_52 : decode cX10_both 52 = .ok (.iload 4, 2) := by decide +kernel
theorem dX10_both_54 : decode cX10_both 54 = .ok (.invokestatic 104, 3) := by decide +kernel
theorem dX10_both_57 : decode cX10_both 57 = .ok (.iload_n 3, 1) := by decide +kernel
theorem dX10_both_58 : decode cX10_both 58 = .ok (.invokestatic 104, 3) := by decide +kernel
theorem dX10_both_61 : decode cX10_both 61 = .ok (.if_icmp .le 6, 3) := by decide +kernel
theorem dX10_both_64 : decode cX10_both 64 = .ok (.iload 4, 2) := by decide +kernel
theorem dX10_both_66 : decode cX10_both 66 = .ok (.istore_n 3, 1) := by decide +kernel
theorem dX10_both_67 : decode cX10_both 67 = .ok (.iinc 4 1, 3) := by decide +kernel
theorem dX10_both_70 : decode cX10_both 70 = .ok (.goto (-47), 3) := by decide +kernel
theorem dX10_both_73 : decode cX10_both 73 = .ok (.iload_n 3, 1) := by decide +kernel
theorem dX10_both_74 : decode cX10_both 74 = .ok (.ireturn, 1) := by decide +kernel
theorem dX10_split_0 : decode cX10_split 0 = .ok (.aload_n 0, 1) := by decide +kernel
theorem dX10_split_1 : decode cX10_split 1 = .ok (.iload_n 1, 1) := by decide +kernel
theorem dX10_split_2 : decode cX10_split 2 = .ok (.iload_n 2, 1) := by decide +kernel
theorem dX10_split_3 : decode cX10_split 3 = .ok (.invokevirtual 214, 3) := by decide +kernel
theorem dX10_split_6 : decode cX10_split 6 = .ok (.istore_n 3, 1) := by decide +kernel
theorem dX10_split_7 : decode cX10_split 7 = .ok (.iload_n 3, 1) := by decide +kernel
theorem dX10_split_8 : decode cX10_split 8 = .ok (.iconst (-1), 1) := by decide +kernel
theorem dX10_split_9 : decode cX10_split 9 = .ok (.if_icmp .ne 5, 3) := by decide +kernel
theorem dX10_split_12 : decode cX10_split 12 = .ok (.iconst (-1), 1) := by decide +kernel
theorem dX10_split_13 : decode cX10_split 13 = .ok (.ireturn, 1) := by decide +kernel
theorem dX10_split_14 : decode cX10_split 14 = .ok (.iconst 0, 1) := by decide +kernel
theorem dX10_split_15 : decode cX10_split 15 = .ok (.istore 4, 2) := by decide +kernel
theorem dX10_split_17 : decode cX10_split 17 = .ok (.iload 4, 2) := by decide +kernel
theorem dX10_split_19 : decode cX10_split 19 = .ok (.aload_n 0, 1) := by decide +kernel
theorem dX10_split_20 : decode cX10_split 20 = .ok (.getfield 13, 3) := by decide +kernel
theorem dX10_split_23 : decode cX10_split 23 = .ok (.if_icmp .gt 41, 3) := by decide +kernel
theorem dX10_split_26 : decode cX10_split 26 = .ok (.aload_n 0, 1) := by decide +kernel
theorem dX10_split_27 : decode cX10_split 27 = .ok (.iload_n 1, 1) := by decide +kernel
theorem dX10_split_28 : decode cX10_split 28 = .ok (.iload 4, 2) := by decide +kernel
theorem dX10_split_30 : decode cX10_split 30 = .ok (.invokevirtual 108, 3) := by decide +kernel
theorem dX10_split_33 : decode cX10_split 33 = .ok (.aload_n 0, 1) := by decide +kernel
theorem dX10_split_34 : decode cX10_split 34 = .ok (.iload_n 2, 1) := by decide +kernel
theorem dX10_split_35 : decode cX10_split 35 = .ok (.aload_n 0, 1) := by decide +kernel
theorem dX10_split_36 : decode cX10_split 36 = .ok (.getfield 13, 3) := by decide +kernel
theorem dX10_split_39 : decode cX10_split 39 = .ok (.iload 4, 2) := by decide +kernel
theorem dX10_split_41 : decode cX10_split 41 = .ok (.iconst (-1), 1) := by decide +kernel
theorem dX10_split_42 : decode cX10_split 42 = .ok (.ixor, 1) := by decide +kernel
theorem dX10_split_43 : decode cX10_split 43 = .ok (.iand, 1) := by decide +kernel
theorem dX10_split_44 : decode cX10_split 44 = .ok (.invokevirtual 108, 3) := by decide +kernel
theorem dX10_split_47 : decode cX10_split 47 = .ok (.iadd, 1) := by decide +kernel
theorem dX10_split_48 : decode cX10_split 48 = .ok (.iload_n 3, 1) := by decide +kernel
theorem dX10_split_49 : decode cX10_split 49 = .ok (.invokestatic 104, 3) := by decide +kernel
theorem dX10_split_52 : decode cX10_split 52 = .ok (.if_icmp .ne 6, 3) := by decide +kernel
theorem dX10_split_55 : decode cX10_split 55 = .ok (.iload 4, 2) := by decide +kernel
theorem dX10_split_57 : decode cX10_split 57 = .ok (.ireturn, 1) := by decide +kernel
theorem dX10_split_58 : decode cX10_split 58 = .ok (.iinc 4 1, 3) := by decide +kernel
theorem dX10_split_61 : decode cX10_split 61 = .ok (.goto (-44), 3) := by decide +kernel
theorem dX10_split_64 : decode cX10_split 64 = .ok (.iconst (-1), 1) := by decide +kernel
theorem dX10_split_65 : decode cX10_split 65 = .ok (.ireturn, 1) := by decide +kernel
theorem dX10_most_0 : decode cX10_most 0 = .ok (.iconst (-1), 1) := by decide +kernel
theorem dX10_most_1 : decode cX10_most 1 = .ok (.istore 4, 2) := by decide +kernel
theorem dX10_most_3 : decode cX10_most 3 = .ok (.iconst 0, 1) := by decide +kernel
theorem dX10_most_4 : decode cX10_most 4 = .ok (.istore 5, 2) := by decide +kernel
theorem dX10_most_6 : decode cX10_most 6 = .ok (.iload 5, 2) := by decide +kernel
theorem dX10_most_8 : decode cX10_most 8 = .ok (.aload_n 0, 1) := by decide +kernel
theorem dX10_most_9 : decode cX10_most 9 = .ok (.getfield 13, 3) := by decide +kernel
theorem dX10_most_12 : decode cX10_most 12 = .ok (.if_icmp .gt 67, 3) := by decide +kernel
theorem dX10_most_15 : decode cX10_most 15 = .ok (.aload_n 0, 1) := by decide +kernel
theorem dX10_most_16 : decode cX10_most 16 = .ok (.iload_n 1, 1) := by decide +kernel
theorem dX10_most_17 : decode cX10_most 17 = .ok (.invokevirtual 191, 3) := by decide +kernel
theorem dX10_most_20 : decode cX10_most 20 = .ok (.ifCond .eq 59, 3) := by decide +kernel
theorem dX10_most_23 : decode cX10_most 23 = .ok (.aload_n 0, 1) := by decide +kernel
theorem dX10_most_24 : decode cX10_most 24 = .ok (.iload_n 2, 1) := by decide +kernel
theorem dX10_most_25 : decode cX10_most 25 = .ok (.invokevirtual 191, 3) := by decide +kernel
theorem dX10_most_28 : decode cX10_most 28 = .ok (.ifCond .eq 51, 3) := by decide +kernel
theorem dX10_most_31 : decode cX10_most 31 = .ok (.aload_n 0, 1) := by decide +kernel
theorem dX10_most_32 : decode cX10_most 32 = .ok (.iload_n 1, 1) := by decide +kernel
theorem dX10_most_33 : decode cX10_most 33 = .ok (.iload 5, 2) := by decide +kernel
theorem dX10_most_35 : decode cX10_most 35 = .ok (.invokevirtual 100, 3) := by decide +kernel
theorem dX10_most_38 : decode cX10_most 38 = .ok (.ifCond .eq 35, 3) := by decide +kernel
theorem dX10_most_41 : decode cX10_most 41 = .ok (.aload_n 0, 1) := by decide +kernel
theorem dX10_most_42 : decode cX10_most 42 = .ok (.iload_n 2, 1) := by decide +kernel
theorem dX10_most_43 : decode cX10_most 43 = .ok (.iload 5, 2) := by decide +kernel
theorem dX10_most_45 : decode cX10_most 45 = .ok (.invokevirtual 100, 3) := by decide +kernel
theorem dX10_most_48 : decode cX10_most 48 = .ok (.ifCond .eq 25, 3) := by decide +kernel
theorem dX10_most_51 : decode cX10_most 51 = .ok (.iload 5, 2) := by decide +kernel
theorem dX10_most_53 : decode cX10_most 53 = .ok (.invokestatic 104, 3) := by decide +kernel
theorem dX10_most_56 : decode cX10_most 56 = .ok (.iload_n 3, 1) := by decide +kernel
theorem dX10_most_57 : decode cX10_most 57 = .ok (.if_icmp .ne 16, 3) := by decide +kernel
theorem dX10_most_60 : decode cX10_most 60 = .ok (.iload 4, 2) := by decide +kernel
theorem dX10_most_62 : decode cX10_most 62 = .ok (.aload_n 0, 1) := by decide +kernel
theorem dX10_most_63 : decode cX10_most 63 = .ok (.iload 5, 2) := by decide +kernel
theorem dX10_most_65 : decode cX10_most 65 = .ok (.invokevirtual 204, 3) := by decide +kernel
theorem dX10_most_68 : decode cX10_most 68 = .ok (.invokestatic 111, 3) := by decide +kernel
theorem dX10_most_71 : decode cX10_most 71 = .ok (.istore 4, 2) := by decide +kernel
theorem dX10_most_73 : decode cX10_most 73 = .ok (.iinc 5 1, 3) := by decide +kernel
theorem dX10_most_76 : decode cX10_most 76 = .ok (.goto (-70), 3) := by decide +kernel
theorem dX10_most_79 : decode cX10_most 79 = .ok (.iload 4, 2) := by decide +kernel
theorem dX10_most_81 : decode cX10_most 81 = .ok (.ireturn, 1) := by decide +kernel
theorem dX10_three_0 : decode cX10_three 0 = .ok (.aload_n 0, 1) := by decide +kernel
theorem dX10_three_1 : decode cX10_three 1 = .ok (.iload_n 1, 1) := by decide +kernel
theorem dX10_three_2 : decode cX10_three 2 = .ok (.invokevirtual 191, 3) := by decide +kernel
theorem dX10_three_5 : decode cX10_three 5 = .ok (.ifCond .eq 19, 3) := by decide +kernel
theorem dX10_three_8 : decode cX10_three 8 = .ok (.aload_n 0, 1) := by decide +kernel
theorem dX10_three_9 : decode cX10_three 9 = .ok (.iload_n 2, 1) := by decide +kernel
theorem dX10_three_10 : decode cX10_three 10 = .ok (.invokevirtual 191, 3) := by decide +kernel
theorem dX10_three_13 : decode cX10_three 13 = .ok (.ifCond .eq 11, 3) := by decide +kernel
theorem dX10_three_16 : decode cX10_three 16 = .ok (.aload_n 0, 1) := by decide +kernel
theorem dX10_three_17 : decode cX10_three 17 = .ok (.iload_n 3, 1) := by decide +kernel
theorem dX10_three_18 : decode cX10_three 18 = .ok (.invokevirtual 191, 3) := by decide +kernel
theorem dX10_three_21 : decode cX10_three 21 = .ok (.ifCond .ne 5, 3) := by decide +kernel
theorem dX10_three_24 : decode cX10_three 24 = .ok (.iconst (-1), 1) := by decide +kernel
theorem dX10_three_25 : decode cX10_three 25 = .ok (.ireturn, 1) := by decide +kernel
theorem dX10_three_26 : decode cX10_three 26 = .ok (.iconst 0, 1) := by decide +kernel
theorem dX10_three_27 : decode cX10_three 27 = .ok (.istore 4, 2) := by decide +kernel
theorem dX10_three_29 : decode cX10_three 29 = .ok (.iconst 0, 1) := by decide +kernel
theorem dX10_three_30 : decode cX10_three 30 = .ok (.istore 5, 2) := by decide +kernel
theorem dX10_three_32 : decode cX10_three 32 = .ok (.iload 5, 2) := by decide +kernel
theorem dX10_three_34 : decode cX10_three 34 = .ok (.aload_n 0, 1) := by decide +kernel
theorem dX10_three_35 : decode cX10_three 35 = .ok (.getfield 13, 3) := by decide +kernel
theorem dX10_three_38 : decode cX10_three 38 = .ok (.if_icmp .gt 51, 3) := by decide +kernel
theorem dX10_three_41 : decode cX10_three 41 = .ok (.aload_n 0, 1) := by decide +kernel
theorem dX10_three_42 : decode cX10_three 42 = .ok (.iload_n 1, 1) := by decide +kernel
theorem dX10_three_43 : decode cX10_three 43 = .ok (.iload 5, 2) := by decide +kernel
theorem dX10_three_45 : decode cX10_three 45 = .ok (.invokevirtual 100, 3) := by decide +kernel
theorem dX10_three_48 : decode cX10_three 48 = .ok (.ifCond .eq 35, 3) := by decide +kernel
theorem dX10_three_51 : decode cX10_three 51 = .ok (.aload_n 0, 1) := by decide +kernel
theorem dX10_three_52 : decode cX10_three 52 = .ok (.iload_n 2, 1) := by decide +kernel
theorem dX10_three_53 : decode cX10_three 53 = .ok (.iload 5, 2) := by decide +kernel
theorem dX10_three_55 : decode cX10_three 55 = .ok (.invokevirtual 100, 3) := by decide +kernel
theorem dX10_three_58 : decode cX10_three 58 = .ok (.ifCond .eq 25, 3) := by decide +kernel
theorem dX10_three_61 : decode cX10_three 61 = .ok (.aload_n 0, 1) := by decide +kernel
theorem dX10_three_62 : decode cX10_three 62 = .ok (.iload_n 3, 1) := by decide +kernel
theorem dX10_three_63 : decode cX10_three 63 = .ok (.iload 5, 2) := by decide +kernel
theorem dX10_three_65 : decode cX10_three 65 = .ok (.invokevirtual 100, 3) := by decide +kernel
theorem dX10_three_68 : decode cX10_three 68 = .ok (.ifCond .eq 15, 3) := by decide +kernel
theorem dX10_three_71 : decode cX10_three 71 = .ok (.iload 4, 2) := by decide +kernel
theorem dX10_three_73 : decode cX10_three 73 = .ok (.iload 5, 2) := by decide +kernel
theorem dX10_three_75 : decode cX10_three 75 = .ok (.invokestatic 104, 3) := by decide +kernel
theorem dX10_three_78 : decode cX10_three 78 = .ok (.invokestatic 111, 3) := by decide +kernel
theorem dX10_three_81 : decode cX10_three 81 = .ok (.istore 4, 2) := by decide +kernel
theorem dX10_three_83 : decode cX10_three 83 = .ok (.iinc 5 1, 3) := by decide +kernel
theorem dX10_three_86 : decode cX10_three 86 = .ok (.goto (-54), 3) := by decide +kernel
theorem dX10_three_89 : decode cX10_three 89 = .ok (.iload 4, 2) := by decide +kernel
theorem dX10_three_91 : decode cX10_three 91 = .ok (.ireturn, 1) := by decide +kernel
theorem dX10_undealt_0 : decode cX10_undealt 0 = .ok (.aload_n 0, 1) := by decide +kernel
theorem dX10_undealt_1 : decode cX10_undealt 1 = .ok (.iload_n 1, 1) := by decide +kernel
theorem dX10_undealt_2 : decode cX10_undealt 2 = .ok (.invokevirtual 191, 3) := by decide +kernel
theorem dX10_undealt_5 : decode cX10_undealt 5 = .ok (.ifCond .ne 5, 3) := by decide +kernel
theorem dX10_undealt_8 : decode cX10_undealt 8 = .ok (.iconst (-1), 1) := by decide +kernel
theorem dX10_undealt_9 : decode cX10_undealt 9 = .ok (.ireturn, 1) := by decide +kernel
theorem dX10_undealt_10 : decode cX10_undealt 10 = .ok (.iconst 0, 1) := by decide +kernel
theorem dX10_undealt_11 : decode cX10_undealt 11 = .ok (.istore_n 2, 1) := by decide +kernel
theorem dX10_undealt_12 : decode cX10_undealt 12 = .ok (.iload_n 2, 1) := by decide +kernel
theorem dX10_undealt_13 : decode cX10_undealt 13 = .ok (.aload_n 0, 1) := by decide +kernel
theorem dX10_undealt_14 : decode cX10_undealt 14 = .ok (.getfield 7, 3) := by decide +kernel
theorem dX10_undealt_17 : decode cX10_undealt 17 = .ok (.if_icmp .ge 23, 3) := by decide +kernel
theorem dX10_undealt_20 : decode cX10_undealt 20 = .ok (.aload_n 0, 1) := by decide +kernel
theorem dX10_undealt_21 : decode cX10_undealt 21 = .ok (.iload_n 1, 1) := by decide +kernel
theorem dX10_undealt_22 : decode cX10_undealt 22 = .ok (.iconst 1, 1) := by decide +kernel
theorem dX10_undealt_23 : decode cX10_undealt 23 = .ok (.iload_n 2, 1) := by decide +kernel
theorem dX10_undealt_24 : decode cX10_undealt 24 = .ok (.ishl, 1) := by decide +kernel
theorem dX10_undealt_25 : decode cX10_undealt 25 = .ok (.invokevirtual 100, 3) := by decide +kernel
theorem dX10_undealt_28 : decode cX10_undealt 28 = .ok (.ifCond .ne 6, 3) := by decide +kernel
theorem dX10_undealt_31 : decode cX10_undealt 31 = .ok (.bipush (-2), 2) := by decide +kernel
theorem dX10_undealt_33 : decode cX10_undealt 33 = .ok (.ireturn, 1) := by decide +kernel
theorem dX10_undealt_34 : decode cX10_undealt 34 = .ok (.iinc 2 1, 3) := by decide +kernel
theorem dX10_undealt_37 : decode cX10_undealt 37 = .ok (.goto (-25), 3) := by decide +kernel
theorem dX10_undealt_40 : decode cX10_undealt 40 = .ok (.iconst 0, 1) := by decide +kernel
theorem dX10_undealt_41 : decode cX10_undealt 41 = .ok (.ireturn, 1) := by decide +kernel
theorem dX10_fewestOf_0 : decode cX10_fewestOf 0 = .ok (.aload_n 0, 1) := by decide +kernel
theorem dX10_fewestOf_1 : decode cX10_fewestOf 1 = .ok (.getfield 72, 3) := by decide +kernel
theorem dX10_fewestOf_4 : decode cX10_fewestOf 4 = .ok (.iconst 0, 1) := by decide +kernel
theorem dX10_fewestOf_5 : decode cX10_fewestOf 5 = .ok (.iconst 0, 1) := by decide +kernel
theorem dX10_fewestOf_6 : decode cX10_fewestOf 6 = .ok (.bastore, 1) := by decide +kernel
theorem dX10_fewestOf_7 : decode cX10_fewestOf 7 = .ok (.iconst 1, 1) := by decide +kernel
theorem dX10_fewestOf_8 : decode cX10_fewestOf 8 = .ok (.istore_n 2, 1) := by decide +kernel
theorem dX10_fewestOf_9 : decode cX10_fewestOf 9 = .ok (.iload_n 2, 1) := by decide +kernel
theorem dX10_fewestOf_10 : decode cX10_fewestOf 10 = .ok (.aload_n 0, 1) := by decide +kernel
theorem dX10_fewestOf_11 : decode cX10_fewestOf 11 = .ok (.getfield 13, 3) := by decide +kernel
theorem dX10_fewestOf_14 : decode cX10_fewestOf 14 = .ok (.if_icmp .gt 97, 3) := by decide +kernel
theorem dX10_fewestOf_17 : decode cX10_fewestOf 17 = .ok (.iload_n 2, 1) := by decide +kernel
theorem dX10_fewestOf_18 : decode cX10_fewestOf 18 = .ok (.iload_n 2, 1) := by decide +kernel
theorem dX10_fewestOf_19 : decode cX10_fewestOf 19 = .ok (.ineg, 1) := by decide +kernel
theorem dX10_fewestOf_20 : decode cX10_fewestOf 20 = .ok (.iand, 1) := by decide +kernel
theorem dX10_fewestOf_21 : decode cX10_fewestOf 21 = .ok (.istore_n 3, 1) := by decide +kernel
theorem dX10_fewestOf_22 : decode cX10_fewestOf 22 = .ok (.iload_n 2, 1) := by decide +kernel
theorem dX10_fewestOf_23 : decode cX10_fewestOf 23 = .ok (.iload_n 3, 1) := by decide +kernel
theorem dX10_fewestOf_24 : decode cX10_fewestOf 24 = .ok (.iconst (-1), 1) := by decide +kernel
theorem dX10_fewestOf_25 : decode cX10_fewestOf 25 = .ok (.ixor, 1) := by decide +kernel
theorem dX10_fewestOf_26 : decode cX10_fewestOf 26 = .ok (.iand, 1) := by decide +kernel
theorem dX10_fewestOf_27 : decode cX10_fewestOf 27 = .ok (.istore 4, 2) := by decide +kernel
theorem dX10_fewestOf_29 : decode cX10_fewestOf 29 = .ok (.bipush 100, 2) := by decide +kernel
theorem dX10_fewestOf_31 : decode cX10_fewestOf 31 = .ok (.istore 5, 2) := by decide +kernel
theorem dX10_fewestOf_33 : decode cX10_fewestOf 33 = .ok (.iload 4, 2) := by decide +kernel
theorem dX10_fewestOf_35 : decode cX10_fewestOf 35 = .ok (.istore 6, 2) := by decide +kernel
theorem dX10_fewestOf_37 : decode cX10_fewestOf 37 = .ok (.iload 6, 2) := by decide +kernel
theorem dX10_fewestOf_39 : decode cX10_fewestOf 39 = .ok (.ifCond .lt 57, 3) := by decide +kernel
theorem dX10_fewestOf_42 : decode cX10_fewestOf 42 = .ok (.aload_n 0, 1) := by decide +kernel
theorem dX10_fewestOf_43 : decode cX10_fewestOf 43 = .ok (.iload_n 1, 1) := by decide +kernel
theorem dX10_fewestOf_44 : decode cX10_fewestOf 44 = .ok (.iload 6, 2) := by decide +kernel
theorem dX10_fewestOf_46 : decode cX10_fewestOf 46 = .ok (.iload_n 3, 1) := by decide +kernel
theorem dX10_fewestOf_47 : decode cX10_fewestOf 47 = .ok (.ior, 1) := by decide +kernel
theorem dX10_fewestOf_48 : decode cX10_fewestOf 48 = .ok (.invokevirtual 100, 3) := by decide +kernel
theorem dX10_fewestOf_51 : decode cX10_fewestOf 51 = .ok (.ifCond .eq 24, 3) := by decide +kernel
theorem dX10_fewestOf_54 : decode cX10_fewestOf 54 = .ok (.iload 5, 2) := by decide +kernel
theorem dX10_fewestOf_56 : decode cX10_fewestOf 56 = .ok (.iconst 1, 1) := by decide +kernel
theorem dX10_fewestOf_57 : decode cX10_fewestOf 57 = .ok (.aload_n 0, 1) := by decide +kernel
theorem dX10_fewestOf_58 : decode cX10_fewestOf 58 = .ok (.getfield 72, 3) := by decide +kernel
theorem dX10_fewestOf_61 : decode cX10_fewestOf 61 = .ok (.iload 4, 2) := by decide +kernel
theorem dX10_fewestOf_63 : decode cX10_fewestOf 63 = .ok (.iload 6, 2) := by decide +kernel
theorem dX10_fewestOf_65 : decode cX10_fewestOf 65 = .ok (.iconst (-1), 1) := by decide +kernel
theorem dX10_fewestOf_66 : decode cX10_fewestOf 66 = .ok (.ixor, 1) := by decide +kernel
theorem dX10_fewestOf_67 : decode cX10_fewestOf 67 = .ok (.iand, 1) := by decide +kernel
theorem dX10_fewestOf_68 : decode cX10_fewestOf 68 = .ok (.baload, 1) := by decide +kernel
theorem dX10_fewestOf_69 : decode cX10_fewestOf 69 = .ok (.iadd, 1) := by decide +kernel
theorem dX10_fewestOf_70 : decode cX10_fewestOf 70 = .ok (.invokestatic 217, 3) := by decide +kernel
theorem dX10_fewestOf_73 : decode cX10_fewestOf 73 = .ok (.istore 5, 2) := by decide +kernel
theorem dX10_fewestOf_75 : decode cX10_fewestOf 75 = .ok (.iload 6, 2) := by decide +kernel
theorem dX10_fewestOf_77 : decode cX10_fewestOf 77 = .ok (.ifCond .ne 7, 3) := by decide +kernel
theorem dX10_fewestOf_80 : decode cX10_fewestOf 80 = .ok (.iconst (-1), 1) := by decide +kernel
theorem dX10_fewestOf_81 : decode cX10_fewestOf 81 = .ok (.goto 10, 3) := by decide +kernel
theorem dX10_fewestOf_84 : decode cX10_fewestOf 84 = .ok (.iload 6, 2) := by decide +kernel
theorem dX10_fewestOf_86 : decode cX10_fewestOf 86 = .ok (.iconst 1, 1) := by decide +kernel
theorem dX10_fewestOf_87 : decode cX10_fewestOf 87 = .ok (.isub, 1) := by decide +kernel
theorem dX10_fewestOf_88 : decode cX10_fewestOf 88 = .ok (.iload 4, 2) := by decide +kernel
theorem dX10_fewestOf_90 : decode cX10_fewestOf 90 = .ok (.iand, 1) := by decide +kernel
theorem dX10_fewestOf_91 : decode cX10_fewestOf 91 = .ok (.istore 6, 2) := by decide +kernel
theorem dX10_fewestOf_93 : decode cX10_fewestOf 93 = .ok (.goto (-56), 3) := by decide +kernel
theorem dX10_fewestOf_96 : decode cX10_fewestOf 96 = .ok (.aload_n 0, 1) := by decide +kernel
theorem dX10_fewestOf_97 : decode cX10_fewestOf 97 = .ok (.getfield 72, 3) := by decide +kernel
theorem dX10_fewestOf_100 : decode cX10_fewestOf 100 = .ok (.iload_n 2, 1) := by decide +kernel
theorem dX10_fewestOf_101 : decode cX10_fewestOf 101 = .ok (.iload 5, 2) := by decide +kernel
theorem dX10_fewestOf_103 : decode cX10_fewestOf 103 = .ok (.i2b, 1) := by decide +kernel
theorem dX10_fewestOf_104 : decode cX10_fewestOf 104 = .ok (.bastore, 1) := by decide +kernel
theorem dX10_fewestOf_105 : decode cX10_fewestOf 105 = .ok (.iinc 2 1, 3) := by decide +kernel
theorem dX10_fewestOf_108 : decode cX10_fewestOf 108 = .ok (.goto (-99), 3) := by decide +kernel
theorem dX10_fewestOf_111 : decode cX10_fewestOf 111 = .ok (.aload_n 0, 1) := by decide +kernel
theorem dX10_fewestOf_112 : decode cX10_fewestOf 112 = .ok (.getfield 72, 3) := by decide +kernel
theorem dX10_fewestOf_115 : decode cX10_fewestOf 115 = .ok (.aload_n 0, 1) := by decide +kernel
theorem dX10_fewestOf_116 : decode cX10_fewestOf 116 = .ok (.getfield 13, 3) := by decide +kernel
theorem dX10_fewestOf_119 : decode cX10_fewestOf 119 = .ok (.baload, 1) := by decide +kernel
theorem dX10_fewestOf_120 : decode cX10_fewestOf 120 = .ok (.ireturn, 1) := by decide +kernel
theorem dX10_fewest_0 : decode cX10_fewest 0 = .ok (.aload_n 0, 1) := by decide +kernel
theorem dX10_fewest_1 : decode cX10_fewest 1 = .ok (.iload_n 1, 1) := by decide +kernel
theorem dX10_fewest_2 : decode cX10_fewest 2 = .ok (.invokevirtual 220, 3) := by decide +kernel
theorem dX10_fewest_5 : decode cX10_fewest 5 = .ok (.istore_n 2, 1) := by decide +kernel
theorem dX10_fewest_6 : decode cX10_fewest 6 = .ok (.iload_n 2, 1) := by decide +kernel
theorem dX10_fewest_7 : decode cX10_fewest 7 = .ok (.ifCond .eq 7, 3) := by decide +kernel
theorem dX10_fewest_10 : decode cX10_fewest 10 = .ok (.iload_n 2, 1) := by decide +kernel
theorem dX10_fewest_11 : decode cX10_fewest 11 = .ok (.goto 8, 3) := by decide +kernel
theorem dX10_fewest_14 : decode cX10_fewest 14 = .ok (.aload_n 0, 1) := by decide +kernel
theorem dX10_fewest_15 : decode cX10_fewest 15 = .ok (.iload_n 1, 1) := by decide +kernel
theorem dX10_fewest_16 : decode cX10_fewest 16 = .ok (.invokevirtual 223, 3) := by decide +kernel
theorem dX10_fewest_19 : decode cX10_fewest 19 = .ok (.ireturn, 1) := by decide +kernel
theorem dX10_deals_0 : decode cX10_deals 0 = .ok (.iload_n 2, 1) := by decide +kernel
theorem dX10_deals_1 : decode cX10_deals 1 = .ok (.aload_n 0, 1) := by decide +kernel
theorem dX10_deals_2 : decode cX10_deals 2 = .ok (.getfield 7, 3) := by decide +kernel
theorem dX10_deals_5 : decode cX10_deals 5 = .ok (.if_icmp .ne 5, 3) := by decide +kernel
theorem dX10_deals_8 : decode cX10_deals 8 = .ok (.iconst 1, 1) := by decide +kernel
theorem dX10_deals_9 : decode cX10_deals 9 = .ok (.ireturn, 1) := by decide +kernel
theorem dX10_deals_10 : decode cX10_deals 10 = .ok (.iconst 0, 1) := by decide +kernel
theorem dX10_deals_11 : decode cX10_deals 11 = .ok (.istore 4, 2) := by decide +kernel
theorem dX10_deals_13 : decode cX10_deals 13 = .ok (.iconst 0, 1) := by decide +kernel
theorem dX10_deals_14 : decode cX10_deals 14 = .ok (.istore 5, 2) := by decide +kernel
theorem dX10_deals_16 : decode cX10_deals 16 = .ok (.iload 5, 2) := by decide +kernel
theorem dX10_deals_18 : decode cX10_deals 18 = .ok (.iload_n 3, 1) := by decide +kernel
theorem dX10_deals_19 : decode cX10_deals 19 = .ok (.if_icmp .ge 100, 3) := by decide +kernel
theorem dX10_deals_22 : decode cX10_deals 22 = .ok (.iload 4, 2) := by decide +kernel
theorem dX10_deals_24 : decode cX10_deals 24 = .ok (.ifCond .ne 95, 3) := by decide +kernel
theorem dX10_deals_27 : decode cX10_deals 27 = .ok (.aload_n 0, 1) := by decide +kernel
theorem dX10_deals_28 : decode cX10_deals 28 = .ok (.getfield 78, 3) := by decide +kernel
theorem dX10_deals_31 : decode cX10_deals 31 = .ok (.iload 5, 2) := by decide +kernel
theorem dX10_deals_33 : decode cX10_deals 33 = .ok (.iaload, 1) := by decide +kernel
theorem dX10_deals_34 : decode cX10_deals 34 = .ok (.ifCond .ne 7, 3) := by decide +kernel
theorem dX10_deals_37 : decode cX10_deals 37 = .ok (.iconst 1, 1) := by decide +kernel
theorem dX10_deals_38 : decode cX10_deals 38 = .ok (.goto 4, 3) := by decide +kernel
theorem dX10_deals_41 : decode cX10_deals 41 = .ok (.iconst 0, 1) := by decide +kernel
theorem dX10_deals_42 : decode cX10_deals 42 = .ok (.istore 4, 2) := by decide +kernel
theorem dX10_deals_44 : decode cX10_deals 44 = .ok (.aload_n 0, 1) := by decide +kernel
theorem dX10_deals_45 : decode cX10_deals 45 = .ok (.iload_n 1, 1) := by decide +kernel
theorem dX10_deals_46 : decode cX10_deals 46 = .ok (.aload_n 0, 1) := by decide +kernel
theorem dX10_deals_47 : decode cX10_deals 47 = .ok (.getfield 78, 3) := by decide +kernel
theorem dX10_deals_50 : decode cX10_deals 50 = .ok (.iload 5, 2) := by decide +kernel
theorem dX10_deals_52 : decode cX10_deals 52 = .ok (.iaload, 1) := by decide +kernel
theorem dX10_deals_53 : decode cX10_deals 53 = .ok (.iconst 1, 1) := by decide +kernel
theorem dX10_deals_54 : decode cX10_deals 54 = .ok (.iload_n 2, 1) := by decide +kernel
theorem dX10_deals_55 : decode cX10_deals 55 = .ok (.ishl, 1) := by decide +kernel
theorem dX10_deals_56 : decode cX10_deals 56 = .ok (.ior, 1) := by decide +kernel
theorem dX10_deals_57 : decode cX10_deals 57 = .ok (.invokevirtual 100, 3) := by decide +kernel
theorem dX10_deals_60 : decode cX10_deals 60 = .ok (.ifCond .eq 53, 3) := by decide +kernel
theorem dX10_deals_63 : decode cX10_deals 63 = .ok (.aload_n 0, 1) := by decide +kernel
theorem dX10_deals_64 : decode cX10_deals 64 = .ok (.getfield 75, 3) := by decide +kernel
theorem dX10_deals_67 : decode cX10_deals 67 = .ok (.iload_n 2, 1) := by decide +kernel
theorem dX10_deals_68 : decode cX10_deals 68 = .ok (.iload 5, 2) := by decide +kernel
theorem dX10_deals_70 : decode cX10_deals 70 = .ok (.iastore, 1) := by decide +kernel
theorem dX10_deals_71 : decode cX10_deals 71 = .ok (.aload_n 0, 1) := by decide +kernel
theorem dX10_deals_72 : decode cX10_deals 72 = .ok (.getfield 78, 3) := by decide +kernel
theorem dX10_deals_75 : decode cX10_deals 75 = .ok (.iload 5, 2) := by decide +kernel
theorem dX10_deals_77 : decode cX10_deals 77 = .ok (.dup2, 1) := by decide +kernel
theorem dX10_deals_78 : decode cX10_deals 78 = .ok (.iaload, 1) := by decide +kernel
theorem dX10_deals_79 : decode cX10_deals 79 = .ok (.iconst 1, 1) := by decide +kernel
theorem dX10_deals_80 : decode cX10_deals 80 = .ok (.iload_n 2, 1) := by decide +kernel
theorem dX10_deals_81 : decode cX10_deals 81 = .ok (.ishl, 1) := by decide +kernel
theorem dX10_deals_82 : decode cX10_deals 82 = .ok (.ior, 1) := by decide +kernel
theorem dX10_deals_83 : decode cX10_deals 83 = .ok (.iastore, 1) := by decide +kernel
theorem dX10_deals_84 : decode cX10_deals 84 = .ok (.aload_n 0, 1) := by decide +kernel
theorem dX10_deals_85 : decode cX10_deals 85 = .ok (.iload_n 1, 1) := by decide +kernel
theorem dX10_deals_86 : decode cX10_deals 86 = .ok (.iload_n 2, 1) := by decide +kernel
theorem dX10_deals_87 : decode cX10_deals 87 = .ok (.iconst 1, 1) := by decide +kernel
theorem dX10_deals_88 : decode cX10_deals 88 = .ok (.iadd, 1) := by decide +kernel
theorem dX10_deals_89 : decode cX10_deals 89 = .ok (.iload_n 3, 1) := by decide +kernel
theorem dX10_deals_90 : decode cX10_deals 90 = .ok (.invokevirtual 226, 3) := by decide +kernel
theorem dX10_deals_93 : decode cX10_deals 93 = .ok (.ifCond .eq 5, 3) := by decide +kernel
theorem dX10_deals_96 : decode cX10_deals 96 = .ok (.iconst 1, 1) := by decide +kernel
theorem dX10_deals_97 : decode cX10_deals 97 = .ok (.ireturn, 1) := by decide +kernel
theorem dX10_deals_98 : decode cX10_deals 98 = .ok (.aload_n 0, 1) := by decide +kernel
theorem dX10_deals_99 : decode cX10_deals 99 = .ok (.getfield 78, 3) := by decide +kernel
theorem dX10_deals_102 : decode cX10_deals 102 = .ok (.iload 5, 2) := by decide +kernel
theorem dX10_deals_104 : decode cX10_deals 104 = .ok (.dup2, 1) := by decide +kernel
theorem dX10_deals_105 : decode cX10_deals 105 = .ok (.iaload, 1) := by decide +kernel
theorem dX10_deals_106 : decode cX10_deals 106 = .ok (.iconst 1, 1) := by decide +kernel
theorem dX10_deals_107 : decode cX10_deals 107 = .ok (.iload_n 2, 1) := by decide +kernel
theorem dX10_deals_108 : decode cX10_deals 108 = .ok (.ishl, 1) := by decide +kernel
theorem dX10_deals_109 : decode cX10_deals 109 = .ok (.iconst (-1), 1) := by decide +kernel
theorem dX10_deals_110 : decode cX10_deals 110 = .ok (.ixor, 1) := by decide +kernel
theorem dX10_deals_111 : decode cX10_deals 111 = .ok (.iand, 1) := by decide +kernel
theorem dX10_deals_112 : decode cX10_deals 112 = .ok (.iastore, 1) := by decide +kernel
theorem dX10_deals_113 : decode cX10_deals 113 = .ok (.iinc 5 1, 3) := by decide +kernel
theorem dX10_deals_116 : decode cX10_deals 116 = .ok (.goto (-100), 3) := by decide +kernel
theorem dX10_deals_119 : decode cX10_deals 119 = .ok (.iconst 0, 1) := by decide +kernel
theorem dX10_deals_120 : decode cX10_deals 120 = .ok (.ireturn, 1) := by decide +kernel
theorem dX10_dealt_0 : decode cX10_dealt 0 = .ok (.aload_n 0, 1) := by decide +kernel
theorem dX10_dealt_1 : decode cX10_dealt 1 = .ok (.iload_n 1, 1) := by decide +kernel
theorem dX10_dealt_2 : decode cX10_dealt 2 = .ok (.invokevirtual 220, 3) := by decide +kernel
theorem dX10_dealt_5 : decode cX10_dealt 5 = .ok (.istore_n 3, 1) := by decide +kernel
theorem dX10_dealt_6 : decode cX10_dealt 6 = .ok (.iload_n 3, 1) := by decide +kernel
theorem dX10_dealt_7 : decode cX10_dealt 7 = .ok (.iconst (-1), 1) := by decide +kernel
theorem dX10_dealt_8 : decode cX10_dealt 8 = .ok (.if_icmp .eq 11, 3) := by decide +kernel
theorem dX10_dealt_11 : decode cX10_dealt 11 = .ok (.aload_n 0, 1) := by decide +kernel
theorem dX10_dealt_12 : decode cX10_dealt 12 = .ok (.iload_n 2, 1) := by decide +kernel
theorem dX10_dealt_13 : decode cX10_dealt 13 = .ok (.invokevirtual 88, 3) := by decide +kernel
theorem dX10_dealt_16 : decode cX10_dealt 16 = .ok (.ifCond .ne 5, 3) := by decide +kernel
theorem dX10_dealt_19 : decode cX10_dealt 19 = .ok (.iconst (-1), 1) := by decide +kernel
theorem dX10_dealt_20 : decode cX10_dealt 20 = .ok (.ireturn, 1) := by decide +kernel
theorem dX10_dealt_21 : decode cX10_dealt 21 = .ok (.iload_n 3, 1) := by decide +kernel
theorem dX10_dealt_22 : decode cX10_dealt 22 = .ok (.ifCond .eq 5, 3) := by decide +kernel
theorem dX10_dealt_25 : decode cX10_dealt 25 = .ok (.iload_n 3, 1) := by decide +kernel
theorem dX10_dealt_26 : decode cX10_dealt 26 = .ok (.ireturn, 1) := by decide +kernel
theorem dX10_dealt_27 : decode cX10_dealt 27 = .ok (.aload_n 0, 1) := by decide +kernel
theorem dX10_dealt_28 : decode cX10_dealt 28 = .ok (.iload_n 1, 1) := by decide +kernel
theorem dX10_dealt_29 : decode cX10_dealt 29 = .ok (.invokevirtual 223, 3) := by decide +kernel
theorem dX10_dealt_32 : decode cX10_dealt 32 = .ok (.istore 4, 2) := by decide +kernel
theorem dX10_dealt_34 : decode cX10_dealt 34 = .ok (.iconst 0, 1) := by decide +kernel
theorem dX10_dealt_35 : decode cX10_dealt 35 = .ok (.istore 5, 2) := by decide +kernel
theorem dX10_dealt_37 : decode cX10_dealt 37 = .ok (.iload 5, 2) := by decide +kernel
theorem dX10_dealt_39 : decode cX10_dealt 39 = .ok (.bipush 12, 2) := by decide +kernel
theorem dX10_dealt_41 : decode cX10_dealt 41 = .ok (.if_icmp .ge 17, 3) := by decide +kernel
theorem dX10_dealt_44 : decode cX10_dealt 44 = .ok (.aload_n 0, 1) := by decide +kernel
theorem dX10_dealt_45 : decode cX10_dealt 45 = .ok (.getfield 78, 3) := by decide +kernel
theorem dX10_dealt_48 : decode cX10_dealt 48 = .ok (.iload 5, 2) := by decide +kernel
theorem dX10_dealt_50 : decode cX10_dealt 50 = .ok (.iconst 0, 1) := by decide +kernel
theorem dX10_dealt_51 : decode cX10_dealt 51 = .ok (.iastore, 1) := by decide +kernel
theorem dX10_dealt_52 : decode cX10_dealt 52 = .ok (.iinc 5 1, 3) := by decide +kernel
theorem dX10_dealt_55 : decode cX10_dealt 55 = .ok (.goto (-18), 3) := by decide +kernel
theorem dX10_dealt_58 : decode cX10_dealt 58 = .ok (.aload_n 0, 1) := by decide +kernel
theorem dX10_dealt_59 : decode cX10_dealt 59 = .ok (.iload_n 1, 1) := by decide +kernel
theorem dX10_dealt_60 : decode cX10_dealt 60 = .ok (.iconst 0, 1) := by decide +kernel
theorem dX10_dealt_61 : decode cX10_dealt 61 = .ok (.iload 4, 2) := by decide +kernel
theorem dX10_dealt_63 : decode cX10_dealt 63 = .ok (.invokevirtual 226, 3) := by decide +kernel
theorem dX10_dealt_66 : decode cX10_dealt 66 = .ok (.istore 5, 2) := by decide +kernel
theorem dX10_dealt_68 : decode cX10_dealt 68 = .ok (.iload 5, 2) := by decide +kernel
theorem dX10_dealt_70 : decode cX10_dealt 70 = .ok (.ifCond .eq 12, 3) := by decide +kernel
theorem dX10_dealt_73 : decode cX10_dealt 73 = .ok (.aload_n 0, 1) := by decide +kernel
theorem dX10_dealt_74 : decode cX10_dealt 74 = .ok (.getfield 75, 3) := by decide +kernel
theorem dX10_dealt_77 : decode cX10_dealt 77 = .ok (.iload_n 2, 1) := by decide +kernel
theorem dX10_dealt_78 : decode cX10_dealt 78 = .ok (.iaload, 1) := by decide +kernel
theorem dX10_dealt_79 : decode cX10_dealt 79 = .ok (.goto 4, 3) := by decide +kernel
theorem dX10_dealt_82 : decode cX10_dealt 82 = .ok (.iconst (-1), 1) := by decide +kernel
theorem dX10_dealt_83 : decode cX10_dealt 83 = .ok (.ireturn, 1) := by decide +kernel
theorem dX10_crowd_0 : decode cX10_crowd 0 = .ok (.aload_n 0, 1) := by decide +kernel
theorem dX10_crowd_1 : decode cX10_crowd 1 = .ok (.iload_n 1, 1) := by decide +kernel
theorem dX10_crowd_2 : decode cX10_crowd 2 = .ok (.invokevirtual 220, 3) := by decide +kernel
theorem dX10_crowd_5 : decode cX10_crowd 5 = .ok (.istore_n 2, 1) := by decide +kernel
theorem dX10_crowd_6 : decode cX10_crowd 6 = .ok (.iload_n 2, 1) := by decide +kernel
theorem dX10_crowd_7 : decode cX10_crowd 7 = .ok (.ifCond .eq 5, 3) := by decide +kernel
theorem dX10_crowd_10 : decode cX10_crowd 10 = .ok (.iload_n 2, 1) := by decide +kernel
theorem dX10_crowd_11 : decode cX10_crowd 11 = .ok (.ireturn, 1) := by decide +kernel
theorem dX10_crowd_12 : decode cX10_crowd 12 = .ok (.aload_n 0, 1) := by decide +kernel
theorem dX10_crowd_13 : decode cX10_crowd 13 = .ok (.iload_n 1, 1) := by decide +kernel
theorem dX10_crowd_14 : decode cX10_crowd 14 = .ok (.invokevirtual 223, 3) := by decide +kernel
theorem dX10_crowd_17 : decode cX10_crowd 17 = .ok (.istore_n 3, 1) := by decide +kernel
theorem dX10_crowd_18 : decode cX10_crowd 18 = .ok (.iconst 1, 1) := by decide +kernel
theorem dX10_crowd_19 : decode cX10_crowd 19 = .ok (.istore 4, 2) := by decide +kernel
theorem dX10_crowd_21 : decode cX10_crowd 21 = .ok (.iload 4, 2) := by decide +kernel
theorem dX10_crowd_23 : decode cX10_crowd 23 = .ok (.aload_n 0, 1) := by decide +kernel
theorem dX10_crowd_24 : decode cX10_crowd 24 = .ok (.getfield 13, 3) := by decide +kernel
theorem dX10_crowd_27 : decode cX10_crowd 27 = .ok (.if_icmp .gt 38, 3) := by decide +kernel
theorem dX10_crowd_30 : decode cX10_crowd 30 = .ok (.aload_n 0, 1) := by decide +kernel
theorem dX10_crowd_31 : decode cX10_crowd 31 = .ok (.iload_n 1, 1) := by decide +kernel
theorem dX10_crowd_32 : decode cX10_crowd 32 = .ok (.iload 4, 2) := by decide +kernel
theorem dX10_crowd_34 : decode cX10_crowd 34 = .ok (.invokevirtual 108, 3) := by decide +kernel
theorem dX10_crowd_37 : decode cX10_crowd 37 = .ok (.istore 5, 2) := by decide +kernel
theorem dX10_crowd_39 : decode cX10_crowd 39 = .ok (.iload 4, 2) := by decide +kernel
theorem dX10_crowd_41 : decode cX10_crowd 41 = .ok (.invokestatic 104, 3) := by decide +kernel
theorem dX10_crowd_44 : decode cX10_crowd 44 = .ok (.iload 5, 2) := by decide +kernel
theorem dX10_crowd_46 : decode cX10_crowd 46 = .ok (.iadd, 1) := by decide +kernel
theorem dX10_crowd_47 : decode cX10_crowd 47 = .ok (.iconst 1, 1) := by decide +kernel
theorem dX10_crowd_48 : decode cX10_crowd 48 = .ok (.isub, 1) := by decide +kernel
theorem dX10_crowd_49 : decode cX10_crowd 49 = .ok (.iload 5, 2) := by decide +kernel
theorem dX10_crowd_51 : decode cX10_crowd 51 = .ok (.idiv, 1) := by decide +kernel
theorem dX10_crowd_52 : decode cX10_crowd 52 = .ok (.iload_n 3, 1) := by decide +kernel
theorem dX10_crowd_53 : decode cX10_crowd 53 = .ok (.if_icmp .ne 6, 3) := by decide +kernel
theorem dX10_crowd_56 : decode cX10_crowd 56 = .ok (.iload 4, 2) := by decide +kernel
theorem dX10_crowd_58 : decode cX10_crowd 58 = .ok (.ireturn, 1) := by decide +kernel
theorem dX10_crowd_59 : decode cX10_crowd 59 = .ok (.iinc 4 1, 3) := by decide +kernel
theorem dX10_crowd_62 : decode cX10_crowd 62 = .ok (.goto (-41), 3) := by decide +kernel
theorem dX10_crowd_65 : decode cX10_crowd 65 = .ok (.iconst (-1), 1) := by decide +kernel
theorem dX10_crowd_66 : decode cX10_crowd 66 = .ok (.ireturn, 1) := by decide +kernel
theorem dX10_pack_0 : decode cX10_pack 0 = .ok (.aload_n 0, 1) := by decide +kernel
theorem dX10_pack_1 : decode cX10_pack 1 = .ok (.iload_n 1, 1) := by decide +kernel
theorem dX10_pack_2 : decode cX10_pack 2 = .ok (.invokevirtual 191, 3) := by decide +kernel
theorem dX10_pack_5 : decode cX10_pack 5 = .ok (.ifCond .ne 5, 3) := by decide +kernel
theorem dX10_pack_8 : decode cX10_pack 8 = .ok (.iconst (-1), 1) := by decide +kernel
theorem dX10_pack_9 : decode cX10_pack 9 = .ok (.ireturn, 1) := by decide +kernel
theorem dX10_pack_10 : decode cX10_pack 10 = .ok (.aload_n 0, 1) := by decide +kernel
theorem dX10_pack_11 : decode cX10_pack 11 = .ok (.iload_n 1, 1) := by decide +kernel
theorem dX10_pack_12 : decode cX10_pack 12 = .ok (.aload_n 0, 1) := by decide +kernel
theorem dX10_pack_13 : decode cX10_pack 13 = .ok (.getfield 13, 3) := by decide +kernel
theorem dX10_pack_16 : decode cX10_pack 16 = .ok (.invokevirtual 108, 3) := by decide +kernel
theorem dX10_pack_19 : decode cX10_pack 19 = .ok (.ifCond .ne 6, 3) := by decide +kernel
theorem dX10_pack_22 : decode cX10_pack 22 = .ok (.bipush (-2), 2) := by decide +kernel
theorem dX10_pack_24 : decode cX10_pack 24 = .ok (.ireturn, 1) := by decide +kernel
theorem dX10_pack_25 : decode cX10_pack 25 = .ok (.aload_n 0, 1) := by decide +kernel
theorem dX10_pack_26 : decode cX10_pack 26 = .ok (.getfield 72, 3) := by decide +kernel
theorem dX10_pack_29 : decode cX10_pack 29 = .ok (.iconst 0, 1) := by decide +kernel
theorem dX10_pack_30 : decode cX10_pack 30 = .ok (.iconst 0, 1) := by decide +kernel
theorem dX10_pack_31 : decode cX10_pack 31 = .ok (.bastore, 1) := by decide +kernel
theorem dX10_pack_32 : decode cX10_pack 32 = .ok (.iconst 1, 1) := by decide +kernel
theorem dX10_pack_33 : decode cX10_pack 33 = .ok (.istore_n 2, 1) := by decide +kernel
theorem dX10_pack_34 : decode cX10_pack 34 = .ok (.iload_n 2, 1) := by decide +kernel
theorem dX10_pack_35 : decode cX10_pack 35 = .ok (.aload_n 0, 1) := by decide +kernel
theorem dX10_pack_36 : decode cX10_pack 36 = .ok (.getfield 13, 3) := by decide +kernel
theorem dX10_pack_39 : decode cX10_pack 39 = .ok (.if_icmp .gt 102, 3) := by decide +kernel
theorem dX10_pack_42 : decode cX10_pack 42 = .ok (.iload_n 2, 1) := by decide +kernel
theorem dX10_pack_43 : decode cX10_pack 43 = .ok (.iload_n 2, 1) := by decide +kernel
theorem dX10_pack_44 : decode cX10_pack 44 = .ok (.ineg, 1) := by decide +kernel
theorem dX10_pack_45 : decode cX10_pack 45 = .ok (.iand, 1) := by decide +kernel
theorem dX10_pack_46 : decode cX10_pack 46 = .ok (.istore_n 3, 1) := by decide +kernel
theorem dX10_pack_47 : decode cX10_pack 47 = .ok (.iload_n 2, 1) := by decide +kernel
theorem dX10_pack_48 : decode cX10_pack 48 = .ok (.iload_n 3, 1) := by decide +kernel
theorem dX10_pack_49 : decode cX10_pack 49 = .ok (.iconst (-1), 1) := by decide +kernel
theorem dX10_pack_50 : decode cX10_pack 50 = .ok (.ixor, 1) := by decide +kernel
theorem dX10_pack_51 : decode cX10_pack 51 = .ok (.iand, 1) := by decide +kernel
theorem dX10_pack_52 : decode cX10_pack 52 = .ok (.istore 4, 2) := by decide +kernel
theorem dX10_pack_54 : decode cX10_pack 54 = .ok (.aload_n 0, 1) := by decide +kernel
theorem dX10_pack_55 : decode cX10_pack 55 = .ok (.getfield 72, 3) := by decide +kernel
theorem dX10_pack_58 : decode cX10_pack 58 = .ok (.iload 4, 2) := by decide +kernel
theorem dX10_pack_60 : decode cX10_pack 60 = .ok (.baload, 1) := by decide +kernel
theorem dX10_pack_61 : decode cX10_pack 61 = .ok (.istore 5, 2) := by decide +kernel
theorem dX10_pack_63 : decode cX10_pack 63 = .ok (.iload 4, 2) := by decide +kernel
theorem dX10_pack_65 : decode cX10_pack 65 = .ok (.istore 6, 2) := by decide +kernel
theorem dX10_pack_67 : decode cX10_pack 67 = .ok (.iload 6, 2) := by decide +kernel
theorem dX10_pack_69 : decode cX10_pack 69 = .ok (.ifCond .lt 57, 3) := by decide +kernel
theorem dX10_pack_72 : decode cX10_pack 72 = .ok (.aload_n 0, 1) := by decide +kernel
theorem dX10_pack_73 : decode cX10_pack 73 = .ok (.iload_n 1, 1) := by decide +kernel
theorem dX10_pack_74 : decode cX10_pack 74 = .ok (.iload 6, 2) := by decide +kernel
theorem dX10_pack_76 : decode cX10_pack 76 = .ok (.iload_n 3, 1) := by decide +kernel
theorem dX10_pack_77 : decode cX10_pack 77 = .ok (.ior, 1) := by decide +kernel
theorem dX10_pack_78 : decode cX10_pack 78 = .ok (.invokevirtual 207, 3) := by decide +kernel
theorem dX10_pack_81 : decode cX10_pack 81 = .ok (.ifCond .eq 24, 3) := by decide +kernel
theorem dX10_pack_84 : decode cX10_pack 84 = .ok (.iload 5, 2) := by decide +kernel
theorem dX10_pack_86 : decode cX10_pack 86 = .ok (.iconst 1, 1) := by decide +kernel
theorem dX10_pack_87 : decode cX10_pack 87 = .ok (.aload_n 0, 1) := by decide +kernel
theorem dX10_pack_88 : decode cX10_pack 88 = .ok (.getfield 72, 3) := by decide +kernel
theorem dX10_pack_91 : decode cX10_pack 91 = .ok (.iload 4, 2) := by decide +kernel
theorem dX10_pack_93 : decode cX10_pack 93 = .ok (.iload 6, 2) := by decide +kernel
theorem dX10_pack_95 : decode cX10_pack 95 = .ok (.iconst (-1), 1) := by decide +kernel
theorem dX10_pack_96 : decode cX10_pack 96 = .ok (.ixor, 1) := by decide +kernel
theorem dX10_pack_97 : decode cX10_pack 97 = .ok (.iand, 1) := by decide +kernel
theorem dX10_pack_98 : decode cX10_pack 98 = .ok (.baload, 1) := by decide +kernel
theorem dX10_pack_99 : decode cX10_pack 99 = .ok (.iadd, 1) := by decide +kernel
theorem dX10_pack_100 : decode cX10_pack 100 = .ok (.invokestatic 111, 3) := by decide +kernel
theorem dX10_pack_103 : decode cX10_pack 103 = .ok (.istore 5, 2) := by decide +kernel
theorem dX10_pack_105 : decode cX10_pack 105 = .ok (.iload 6, 2) := by decide +kernel
theorem dX10_pack_107 : decode cX10_pack 107 = .ok (.ifCond .ne 7, 3) := by decide +kernel
theorem dX10_pack_110 : decode cX10_pack 110 = .ok (.iconst (-1), 1) := by decide +kernel
theorem dX10_pack_111 : decode cX10_pack 111 = .ok (.goto 10, 3) := by decide +kernel
theorem dX10_pack_114 : decode cX10_pack 114 = .ok (.iload 6, 2) := by decide +kernel
theorem dX10_pack_116 : decode cX10_pack 116 = .ok (.iconst 1, 1) := by decide +kernel
theorem dX10_pack_117 : decode cX10_pack 117 = .ok (.isub, 1) := by decide +kernel
theorem dX10_pack_118 : decode cX10_pack 118 = .ok (.iload 4, 2) := by decide +kernel
theorem dX10_pack_120 : decode cX10_pack 120 = .ok (.iand, 1) := by decide +kernel
theorem dX10_pack_121 : decode cX10_pack 121 = .ok (.istore 6, 2) := by decide +kernel
theorem dX10_pack_123 : decode cX10_pack 123 = .ok (.goto (-56), 3) := by decide +kernel
theorem dX10_pack_126 : decode cX10_pack 126 = .ok (.aload_n 0, 1) := by decide +kernel
theorem dX10_pack_127 : decode cX10_pack 127 = .ok (.getfield 72, 3) := by decide +kernel
theorem dX10_pack_130 : decode cX10_pack 130 = .ok (.iload_n 2, 1) := by decide +kernel
theorem dX10_pack_131 : decode cX10_pack 131 = .ok (.iload 5, 2) := by decide +kernel
theorem dX10_pack_133 : decode cX10_pack 133 = .ok (.i2b, 1) := by decide +kernel
theorem dX10_pack_134 : decode cX10_pack 134 = .ok (.bastore, 1) := by decide +kernel
theorem dX10_pack_135 : decode cX10_pack 135 = .ok (.iinc 2 1, 3) := by decide +kernel
theorem dX10_pack_138 : decode cX10_pack 138 = .ok (.goto (-104), 3) := by decide +kernel
theorem dX10_pack_141 : decode cX10_pack 141 = .ok (.aload_n 0, 1) := by decide +kernel
theorem dX10_pack_142 : decode cX10_pack 142 = .ok (.getfield 72, 3) := by decide +kernel
theorem dX10_pack_145 : decode cX10_pack 145 = .ok (.aload_n 0, 1) := by decide +kernel
theorem dX10_pack_146 : decode cX10_pack 146 = .ok (.getfield 13, 3) := by decide +kernel
theorem dX10_pack_149 : decode cX10_pack 149 = .ok (.baload, 1) := by decide +kernel
theorem dX10_pack_150 : decode cX10_pack 150 = .ok (.ireturn, 1) := by decide +kernel
theorem dX10_same_0 : decode cX10_same 0 = .ok (.aload_n 0, 1) := by decide +kernel
theorem dX10_same_1 : decode cX10_same 1 = .ok (.iload_n 1, 1) := by decide +kernel
theorem dX10_same_2 : decode cX10_same 2 = .ok (.invokevirtual 191, 3) := by decide +kernel
theorem dX10_same_5 : decode cX10_same 5 = .ok (.ifCond .eq 11, 3) := by decide +kernel
theorem dX10_same_8 : decode cX10_same 8 = .ok (.aload_n 0, 1) := by decide +kernel
theorem dX10_same_9 : decode cX10_same 9 = .ok (.iload_n 2, 1) := by decide +kernel
theorem dX10_same_10 : decode cX10_same 10 = .ok (.invokevirtual 191, 3) := by decide +kernel
theorem dX10_same_13 : decode cX10_same 13 = .ok (.ifCond .ne 5, 3) := by decide +kernel
theorem dX10_same_16 : decode cX10_same 16 = .ok (.iconst (-1), 1) := by decide +kernel
theorem dX10_same_17 : decode cX10_same 17 = .ok (.ireturn, 1) := by decide +kernel
theorem dX10_same_18 : decode cX10_same 18 = .ok (.iconst 0, 1) := by decide +kernel
theorem dX10_same_19 : decode cX10_same 19 = .ok (.istore_n 3, 1) := by decide +kernel
theorem dX10_same_20 : decode cX10_same 20 = .ok (.iload_n 3, 1) := by decide +kernel
theorem dX10_same_21 : decode cX10_same 21 = .ok (.aload_n 0, 1) := by decide +kernel
theorem dX10_same_22 : decode cX10_same 22 = .ok (.getfield 13, 3) := by decide +kernel
theorem dX10_same_25 : decode cX10_same 25 = .ok (.if_icmp .gt 26, 3) := by decide +kernel
theorem dX10_same_28 : decode cX10_same 28 = .ok (.aload_n 0, 1) := by decide +kernel
theorem dX10_same_29 : decode cX10_same 29 = .ok (.iload_n 1, 1) := by decide +kernel
theorem dX10_same_30 : decode cX10_same 30 = .ok (.iload_n 3, 1) := by decide +kernel
theorem dX10_same_31 : decode cX10_same 31 = .ok (.invokevirtual 100, 3) := by decide +kernel
theorem dX10_same_34 : decode cX10_same 34 = .ok (.aload_n 0, 1) := by decide +kernel
theorem dX10_same_35 : decode cX10_same 35 = .ok (.iload_n 2, 1) := by decide +kernel
theorem dX10_same_36 : decode cX10_same 36 = .ok (.iload_n 3, 1) := by decide +kernel
theorem dX10_same_37 : decode cX10_same 37 = .ok (.invokevirtual 100, 3) := by decide +kernel
theorem dX10_same_40 : decode cX10_same 40 = .ok (.if_icmp .eq 5, 3) := by decide +kernel
theorem dX10_same_43 : decode cX10_same 43 = .ok (.iconst 0, 1) := by decide +kernel
theorem dX10_same_44 : decode cX10_same 44 = .ok (.ireturn, 1) := by decide +kernel
theorem dX10_same_45 : decode cX10_same 45 = .ok (.iinc 3 1, 3) := by decide +kernel
theorem dX10_same_48 : decode cX10_same 48 = .ok (.goto (-28), 3) := by decide +kernel
theorem dX10_same_51 : decode cX10_same 51 = .ok (.iconst 1, 1) := by decide +kernel
theorem dX10_same_52 : decode cX10_same 52 = .ok (.ireturn, 1) := by decide +kernel
theorem dX10_count_0 : decode cX10_count 0 = .ok (.iload_n 1, 1) := by decide +kernel
theorem dX10_count_1 : decode cX10_count 1 = .ok (.tableswitch 85 0 3 #[31, 36, 41, 76], 31) := by decide +kernel
theorem dX10_count_32 : decode cX10_count 32 = .ok (.aload_n 0, 1) := by decide +kernel
theorem dX10_count_33 : decode cX10_count 33 = .ok (.getfield 7, 3) := by decide +kernel
theorem dX10_count_36 : decode cX10_count 36 = .ok (.ireturn, 1) := by decide +kernel
theorem dX10_count_37 : decode cX10_count 37 = .ok (.aload_n 0, 1) := by decide +kernel
theorem dX10_count_38 : decode cX10_count 38 = .ok (.getfield 85, 3) := by decide +kernel
theorem dX10_count_41 : decode cX10_count 41 = .ok (.ireturn, 1) := by decide +kernel
theorem dX10_count_42 : decode cX10_count 42 = .ok (.iconst 0, 1) := by decide +kernel
theorem dX10_count_43 : decode cX10_count 43 = .ok (.istore_n 2, 1) := by decide +kernel
theorem dX10_count_44 : decode cX10_count 44 = .ok (.iconst 0, 1) := by decide +kernel
theorem dX10_count_45 : decode cX10_count 45 = .ok (.istore_n 3, 1) := by decide +kernel
theorem dX10_count_46 : decode cX10_count 46 = .ok (.iload_n 3, 1) := by decide +kernel
theorem dX10_count_47 : decode cX10_count 47 = .ok (.bipush 10, 2) := by decide +kernel
theorem dX10_count_49 : decode cX10_count 49 = .ok (.if_icmp .ge 26, 3) := by decide +kernel
theorem dX10_count_52 : decode cX10_count 52 = .ok (.iload_n 2, 1) := by decide +kernel
theorem dX10_count_53 : decode cX10_count 53 = .ok (.aload_n 0, 1) := by decide +kernel
theorem dX10_count_54 : decode cX10_count 54 = .ok (.getfield 44, 3) := by decide +kernel
theorem dX10_count_57 : decode cX10_count 57 = .ok (.iload_n 3, 1) := by decide +kernel
theorem dX10_count_58 : decode cX10_count 58 = .ok (.iaload, 1) := by decide +kernel
theorem dX10_count_59 : decode cX10_count 59 = .ok (.ifCond .ne 7, 3) := by decide +kernel
theorem dX10_count_62 : decode cX10_count 62 = .ok (.iconst 0, 1) := by decide +kernel
theorem dX10_count_63 : decode cX10_count 63 = .ok (.goto 4, 3) := by decide +kernel
theorem dX10_count_66 : decode cX10_count 66 = .ok (.iconst 1, 1) := by decide +kernel
theorem dX10_count_67 : decode cX10_count 67 = .ok (.iadd, 1) := by decide +kernel
theorem dX10_count_68 : decode cX10_count 68 = .ok (.istore_n 2, 1) := by decide +kernel
theorem dX10_count_69 : decode cX10_count 69 = .ok (.iinc 3 1, 3) := by decide +kernel
theorem dX10_count_72 : decode cX10_count 72 = .ok (.goto (-26), 3) := by decide +kernel
theorem dX10_count_75 : decode cX10_count 75 = .ok (.iload_n 2, 1) := by decide +kernel
theorem dX10_count_76 : decode cX10_count 76 = .ok (.ireturn, 1) := by decide +kernel
theorem dX10_count_77 : decode cX10_count 77 = .ok (.aload_n 0, 1) := by decide +kernel
theorem dX10_count_78 : decode cX10_count 78 = .ok (.aload_n 0, 1) := by decide +kernel
theorem dX10_count_79 : decode cX10_count 79 = .ok (.getfield 13, 3) := by decide +kernel
theorem dX10_count_82 : decode cX10_count 82 = .ok (.invokevirtual 204, 3) := by decide +kernel
theorem dX10_count_85 : decode cX10_count 85 = .ok (.ireturn, 1) := by decide +kernel
theorem dX10_count_86 : decode cX10_count 86 = .ok (.iconst (-1), 1) := by decide +kernel
theorem dX10_count_87 : decode cX10_count 87 = .ok (.ireturn, 1) := by decide +kernel
theorem dJ6_bitCount_0f7a4_0 : decode cJ6_bitCount_0f7a4 0 = .ok (.iload_n 0, 1) := by decide +kernel
theorem dJ6_bitCount_0f7a4_1 : decode cJ6_bitCount_0f7a4 1 = .ok (.iload_n 0, 1) := by decide +kernel
theorem dJ6_bitCount_0f7a4_2 : decode cJ6_bitCount_0f7a4 2 = .ok (.iconst 1, 1) := by decide +kernel
theorem dJ6_bitCount_0f7a4_3 : decode cJ6_bitCount_0f7a4 3 = .ok (.iushr, 1) := by decide +kernel
theorem dJ6_bitCount_0f7a4_4 : decode cJ6_bitCount_0f7a4 4 = .ok (.ldc_w 265, 3) := by decide +kernel
theorem dJ6_bitCount_0f7a4_7 : decode cJ6_bitCount_0f7a4 7 = .ok (.iand, 1) := by decide +kernel
theorem dJ6_bitCount_0f7a4_8 : decode cJ6_bitCount_0f7a4 8 = .ok (.isub, 1) := by decide +kernel
theorem dJ6_bitCount_0f7a4_9 : decode cJ6_bitCount_0f7a4 9 = .ok (.istore_n 0, 1) := by decide +kernel
theorem dJ6_bitCount_0f7a4_10 : decode cJ6_bitCount_0f7a4 10 = .ok (.iload_n 0, 1) := by decide +kernel
theorem dJ6_bitCount_0f7a4_11 : decode cJ6_bitCount_0f7a4 11 = .ok (.ldc_w 266, 3) := by decide +kernel
theorem dJ6_bitCount_0f7a4_14 : decode cJ6_bitCount_0f7a4 14 = .ok (.iand, 1) := by decide +kernel
theorem dJ6_bitCount_0f7a4_15 : decode cJ6_bitCount_0f7a4 15 = .ok (.iload_n 0, 1) := by decide +kernel
theorem dJ6_bitCount_0f7a4_16 : decode cJ6_bitCount_0f7a4 16 = .ok (.iconst 2, 1) := by decide +kernel
theorem dJ6_bitCount_0f7a4_17 : decode cJ6_bitCount_0f7a4 17 = .ok (.iushr, 1) := by decide +kernel
theorem dJ6_bitCount_0f7a4_18 : decode cJ6_bitCount_0f7a4 18 = .ok (.ldc_w 266, 3) := by decide +kernel
theorem dJ6_bitCount_0f7a4_21 : decode cJ6_bitCount_0f7a4 21 = .ok (.iand, 1) := by decide +kernel
theorem dJ6_bitCount_0f7a4_22 : decode cJ6_bitCount_0f7a4 22 = .ok (.iadd, 1) := by decide +kernel
theorem dJ6_bitCount_0f7a4_23 : decode cJ6_bitCount_0f7a4 23 = .ok (.istore_n 0, 1) := by decide +kernel
theorem dJ6_bitCount_0f7a4_24 : decode cJ6_bitCount_0f7a4 24 = .ok (.iload_n 0, 1) := by decide +kernel
theorem dJ6_bitCount_0f7a4_25 : decode cJ6_bitCount_0f7a4 25 = .ok (.iload_n 0, 1) := by decide +kernel
theorem dJ6_bitCount_0f7a4_26 : decode cJ6_bitCount_0f7a4 26 = .ok (.iconst 4, 1) := by decide +kernel
theorem dJ6_bitCount_0f7a4_27 : decode cJ6_bitCount_0f7a4 27 = .ok (.iushr, 1) := by decide +kernel
theorem dJ6_bitCount_0f7a4_28 : decode cJ6_bitCount_0f7a4 28 = .ok (.iadd, 1) := by decide +kernel
theorem dJ6_bitCount_0f7a4_29 : decode cJ6_bitCount_0f7a4 29 = .ok (.ldc_w 267, 3) := by decide +kernel
theorem dJ6_bitCount_0f7a4_32 : decode cJ6_bitCount_0f7a4 32 = .ok (.iand, 1) := by decide +kernel
theorem dJ6_bitCount_0f7a4_33 : decode cJ6_bitCount_0f7a4 33 = .ok (.istore_n 0, 1) := by decide +kernel
theorem dJ6_bitCount_0f7a4_34 : decode cJ6_bitCount_0f7a4 34 = .ok (.iload_n 0, 1) := by decide +kernel
theorem dJ6_bitCount_0f7a4_35 : decode cJ6_bitCount_0f7a4 35 = .ok (.iload_n 0, 1) := by decide +kernel
theorem dJ6_bitCount_0f7a4_36 : decode cJ6_bitCount_0f7a4 36 = .ok (.bipush 8, 2) := by decide +kernel
theorem dJ6_bitCount_0f7a4_38 : decode cJ6_bitCount_0f7a4 38 = .ok (.iushr, 1) := by decide +kernel
theorem dJ6_bitCount_0f7a4_39 : decode cJ6_bitCount_0f7a4 39 = .ok (.iadd, 1) := by decide +kernel
theorem dJ6_bitCount_0f7a4_40 : decode cJ6_bitCount_0f7a4 40 = .ok (.istore_n 0, 1) := by decide +kernel
theorem dJ6_bitCount_0f7a4_41 : decode cJ6_bitCount_0f7a4 41 = .ok (.iload_n 0, 1) := by decide +kernel
theorem dJ6_bitCount_0f7a4_42 : decode cJ6_bitCount_0f7a4 42 = .ok (.iload_n 0, 1) := by decide +kernel
theorem dJ6_bitCount_0f7a4_43 : decode cJ6_bitCount_0f7a4 43 = .ok (.bipush 16, 2) := by decide +kernel
theorem dJ6_bitCount_0f7a4_45 : decode cJ6_bitCount_0f7a4 45 = .ok (.iushr, 1) := by decide +kernel
theorem dJ6_bitCount_0f7a4_46 : decode cJ6_bitCount_0f7a4 46 = .ok (.iadd, 1) := by decide +kernel
theorem dJ6_bitCount_0f7a4_47 : decode cJ6_bitCount_0f7a4 47 = .ok (.istore_n 0, 1) := by decide +kernel
theorem dJ6_bitCount_0f7a4_48 : decode cJ6_bitCount_0f7a4 48 = .ok (.iload_n 0, 1) := by decide +kernel
theorem dJ6_bitCount_0f7a4_49 : decode cJ6_bitCount_0f7a4 49 = .ok (.bipush 63, 2) := by decide +kernel
theorem dJ6_bitCount_0f7a4_51 : decode cJ6_bitCount_0f7a4 51 = .ok (.iand, 1) := by decide +kernel
theorem dJ6_bitCount_0f7a4_52 : decode cJ6_bitCount_0f7a4 52 = .ok (.ireturn, 1) := by decide +kernel
theorem dJ9_floorMod_7cf53_0 : decode cJ9_floorMod_7cf53 0 = .ok (.iload_n 0, 1) := by decide +kernel
theorem dJ9_floorMod_7cf53_1 : decode cJ9_floorMod_7cf53 1 = .ok (.iload_n 1, 1) := by decide +kernel
theorem dJ9_floorMod_7cf53_2 : decode cJ9_floorMod_7cf53 2 = .ok (.irem, 1) := by decide +kernel
theorem dJ9_floorMod_7cf53_3 : decode cJ9_floorMod_7cf53 3 = .ok (.istore_n 2, 1) := by decide +kernel
theorem dJ9_floorMod_7cf53_4 : decode cJ9_floorMod_7cf53 4 = .ok (.iload_n 0, 1) := by decide +kernel
theorem dJ9_floorMod_7cf53_5 : decode cJ9_floorMod_7cf53 5 = .ok (.iload_n 1, 1) := by decide +kernel
theorem dJ9_floorMod_7cf53_6 : decode cJ9_floorMod_7cf53 6 = .ok (.ixor, 1) := by decide +kernel
theorem dJ9_floorMod_7cf53_7 : decode cJ9_floorMod_7cf53 7 = .ok (.ifCond .ge 11, 3) := by decide +kernel
theorem dJ9_floorMod_7cf53_10 : decode cJ9_floorMod_7cf53 10 = .ok (.iload_n 2, 1) := by decide +kernel
theorem dJ9_floorMod_7cf53_11 : decode cJ9_floorMod_7cf53 11 = .ok (.ifCond .eq 7, 3) := by decide +kernel
theorem dJ9_floorMod_7cf53_14 : decode cJ9_floorMod_7cf53 14 = .ok (.iload_n 2, 1) := by decide +kernel
theorem dJ9_floorMod_7cf53_15 : decode cJ9_floorMod_7cf53 15 = .ok (.iload_n 1, 1) := by decide +kernel
theorem dJ9_floorMod_7cf53_16 : decode cJ9_floorMod_7cf53 16 = .ok (.iadd, 1) := by decide +kernel
theorem dJ9_floorMod_7cf53_17 : decode cJ9_floorMod_7cf53 17 = .ok (.ireturn, 1) := by decide +kernel
theorem dJ9_floorMod_7cf53_18 : decode cJ9_floorMod_7cf53 18 = .ok (.iload_n 2, 1) := by decide +kernel
theorem dJ9_floorMod_7cf53_19 : decode cJ9_floorMod_7cf53 19 = .ok (.ireturn, 1) := by decide +kernel
theorem dJ9_max_7cf53_0 : decode cJ9_max_7cf53 0 = .ok (.iload_n 0, 1) := by decide +kernel
theorem dJ9_max_7cf53_1 : decode cJ9_max_7cf53 1 = .ok (.iload_n 1, 1) := by decide +kernel
theorem dJ9_max_7cf53_2 : decode cJ9_max_7cf53 2 = .ok (.if_icmp .lt 7, 3) := by decide +kernel
theorem dJ9_max_7cf53_5 : decode cJ9_max_7cf53 5 = .ok (.iload_n 0, 1) := by decide +kernel
theorem dJ9_max_7cf53_6 : decode cJ9_max_7cf53 6 = .ok (.goto 4, 3) := by decide +kernel
theorem dJ9_max_7cf53_9 : decode cJ9_max_7cf53 9 = .ok (.iload_n 1, 1) := by decide +kernel
theorem dJ9_max_7cf53_10 : decode cJ9_max_7cf53 10 = .ok (.ireturn, 1) := by decide +kernel
theorem dJ9_min_7cf53_0 : decode cJ9_min_7cf53 0 = .ok (.iload_n 0, 1) := by decide +kernel
theorem dJ9_min_7cf53_1 : decode cJ9_min_7cf53 1 = .ok (.iload_n 1, 1) := by decide +kernel
theorem dJ9_min_7cf53_2 : decode cJ9_min_7cf53 2 = .ok (.if_icmp .gt 7, 3) := by decide +kernel
theorem dJ9_min_7cf53_5 : decode cJ9_min_7cf53 5 = .ok (.iload_n 0, 1) := by decide +kernel
theorem dJ9_min_7cf53_6 : decode cJ9_min_7cf53 6 = .ok (.goto 4, 3) := by decide +kernel
theorem dJ9_min_7cf53_9 : decode cJ9_min_7cf53 9 = .ok (.iload_n 1, 1) := by decide +kernel
theorem dJ9_min_7cf53_10 : decode cJ9_min_7cf53 10 = .ok (.ireturn, 1) := by decide +kernel
theorem dL_law_0 : decode cL_law 0 = .ok (.new 7, 3) := by decide +kernel
theorem dL_law_3 : decode cL_law 3 = .ok (.dup, 1) := by decide +kernel
theorem dL_law_4 : decode cL_law 4 = .ok (.invokespecial 9, 3) := by decide +kernel
theorem dL_law_7 : decode cL_law 7 = .ok (.astore_n 1, 1) := by decide +kernel
theorem dL_law_8 : decode cL_law 8 = .ok (.new 10, 3) := by decide +kernel
theorem dL_law_11 : decode cL_law 11 = .ok (.dup, 1) := by decide +kernel
theorem dL_law_12 : decode cL_law 12 = .ok (.invokespecial 12, 3) := by decide +kernel
theorem dL_law_15 : decode cL_law 15 = .ok (.astore_n 2, 1) := by decide +kernel
theorem dL_law_16 : decode cL_law 16 = .ok (.iconst 0, 1) := by decide +kernel
theorem dL_law_17 : decode cL_law 17 = .ok (.istore_n 3, 1) := by decide +kernel
theorem dL_law_18 : decode cL_law 18 = .ok (.iload_n 3, 1) := by decide +kernel
theorem dL_law_19 : decode cL_law 19 = .ok (.aload_n 0, 1) := by decide +kernel
theorem dL_law_20 : decode cL_law 20 = .ok (.arraylength, 1) := by decide +kernel
theorem dL_law_21 : decode cL_law 21 = .ok (.bipush 6, 2) := by decide +kernel
theorem dL_law_23 : decode cL_law 23 = .ok (.isub, 1) := by decide +kernel
theorem dL_law_24 : decode cL_law 24 = .ok (.if_icmp .gt 1187, 3) := by decide +kernel
theorem dL_law_27 : decode cL_law 27 = .ok (.aload_n 0, 1) := by decide +kernel
theorem dL_law_28 : decode cL_law 28 = .ok (.iload_n 3, 1) := by decide +kernel
theorem dL_law_29 : decode cL_law 29 = .ok (.iaload, 1) := by decide +kernel
theorem dL_law_30 : decode cL_law 30 = .ok (.bipush 31, 2) := by decide +kernel
theorem dL_law_32 : decode cL_law 32 = .ok (.iand, 1) := by decide +kernel
theorem dL_law_33 : decode cL_law 33 = .ok (.tableswitch 1172 0 29 #[135, 158, 191, 234, 257, 330, 364, 427, 460, 493, 526, 549, 582, 605, 638, 671, 704, 737, 770, 813, 862, 895, 928, 971, 1014, 1037, 1070, 1093, 1116, 1149], 135) := by decide +kernel
theorem dL_law_168 : decode cL_law 168 = .ok (.aload_n 1, 1) := by decide +kernel
theorem dL_law_169 : decode cL_law 169 = .ok (.aload_n 0, 1) := by decide +kernel
theorem dL_law_170 : decode cL_law 170 = .ok (.iload_n 3, 1) := by decide +kernel
theorem dL_law_171 : decode cL_law 171 = .ok (.iconst 1, 1) := by decide +kernel
theorem dL_law_172 : decode cL_law 172 = .ok (.iadd, 1) := by decide +kernel
theorem dL_law_173 : decode cL_law 173 = .ok (.iaload, 1) := by decide +kernel
theorem dL_law_174 : decode cL_law 174 = .ok (.invokevirtual 13, 3) := by decide +kernel
theorem dL_law_177 : decode cL_law 177 = .ok (.aload_n 2, 1) := by decide +kernel
theorem dL_law_178 : decode cL_law 178 = .ok (.aload_n 0, 1) := by decide +kernel
theorem dL_law_179 : decode cL_law 179 = .ok (.iload_n 3, 1) := by decide +kernel
theorem dL_law_180 : decode cL_law 180 = .ok (.iconst 1, 1) := by decide +kernel
theorem dL_law_181 : decode cL_law 181 = .ok (.iadd, 1) := by decide +kernel
theorem dL_law_182 : decode cL_law 182 = .ok (.iaload, 1) := by decide +kernel
theorem dL_law_183 : decode cL_law 183 = .ok (.invokevirtual 17, 3) := by decide +kernel
theorem dL_law_186 : decode cL_law 186 = .ok (.if_icmp .eq 1019, 3) := by decide +kernel
theorem dL_law_189 : decode cL_law 189 = .ok (.iconst 0, 1) := by decide +kernel
theorem dL_law_190 : decode cL_law 190 = .ok (.ireturn, 1) := by decide +kernel
theorem dL_law_191 : decode cL_law 191 = .ok (.aload_n 1, 1) := by decide +kernel
theorem dL_law_192 : decode cL_law 192 = .ok (.aload_n 0, 1) := by decide +kernel
theorem dL_law_193 : decode cL_law 193 = .ok (.iload_n 3, 1) := by decide +kernel
theorem dL_law_194 : decode cL_law 194 = .ok (.iconst 1, 1) := by decide +kernel
theorem dL_law_195 : decode cL_law 195 = .ok (.iadd, 1) := by decide +kernel
theorem dL_law_196 : decode cL_law 196 = .ok (.iaload, 1) := by decide +kernel
theorem dL_law_197 : decode cL_law 197 = .ok (.aload_n 0, 1) := by decide +kernel
theorem dL_law_198 : decode cL_law 198 = .ok (.iload_n 3, 1) := by decide +kernel
theorem dL_law_199 : decode cL_law 199 = .ok (.iconst 2, 1) := by decide +kernel
theorem dL_law_200 : decode cL_law 200 = .ok (.iadd, 1) := by decide +kernel
theorem dL_law_201 : decode cL_law 201 = .ok (.iaload, 1) := by decide +kernel
theorem dL_law_202 : decode cL_law 202 = .ok (.invokevirtual 18, 3) := by decide +kernel
theorem dL_law_205 : decode cL_law 205 = .ok (.aload_n 2, 1) := by decide +kernel
theorem dL_law_206 : decode cL_law 206 = .ok (.aload_n 0, 1) := by decide +kernel
theorem dL_law_207 : decode cL_law 207 = .ok (.iload_n 3, 1) := by decide +kernel
theorem dL_law_208 : decode cL_law 208 = .ok (.iconst 1, 1) := by decide +kernel
theorem dL_law_209 : decode cL_law 209 = .ok (.iadd, 1) := by decide +kernel
theorem dL_law_210 : decode cL_law 210 = .ok (.iaload, 1) := by decide +kernel
theorem dL_law_211 : decode cL_law 211 = .ok (.aload_n 0, 1) := by decide +kernel
theorem dL_law_212 : decode cL_law 212 = .ok (.iload_n 3, 1) := by decide +kernel
theorem dL_law_213 : decode cL_law 213 = .ok (.iconst 2, 1) := by decide +kernel
theorem dL_law_214 : decode cL_law 214 = .ok (.iadd, 1) := by decide +kernel
theorem dL_law_215 : decode cL_law 215 = .ok (.iaload, 1) := by decide +kernel
theorem dL_law_216 : decode cL_law 216 = .ok (.invokevirtual 22, 3) := by decide +kernel
theorem dL_law_219 : decode cL_law 219 = .ok (.if_icmp .eq 986, 3) := by decide +kernel
theorem dL_law_222 : decode cL_law 222 = .ok (.iconst 0, 1) := by decide +kernel
theorem dL_law_223 : decode cL_law 223 = .ok (.ireturn, 1) := by decide +kernel
theorem dL_law_224 : decode cL_law 224 = .ok (.aload_n 1, 1) := by decide +kernel
theorem dL_law_225 : decode cL_law 225 = .ok (.aload_n 0, 1) := by decide +kernel
theorem dL_law_226 : decode cL_law 226 = .ok (.iload_n 3, 1) := by decide +kernel
theorem dL_law_227 : decode cL_law 227 = .ok (.iconst 1, 1) := by decide +kernel
theorem dL_law_228 : decode cL_law 228 = .ok (.iadd, 1) := by decide +kernel
theorem dL_law_229 : decode cL_law 229 = .ok (.iaload, 1) := by decide +kernel
theorem dL_law_230 : decode cL_law 230 = .ok (.aload_n 0, 1) := by decide +kernel
theorem dL_law_231 : decode cL_law 231 = .ok (.iload_n 3, 1) := by decide +kernel
theorem dL_law_232 : decode cL_law 232 = .ok (.iconst 2, 1) := by decide +kernel
theorem dL_law_233 : decode cL_law 233 = .ok (.iadd, 1) := by decide +kernel
theorem dL_law_234 : decode cL_law 234 = .ok (.iaload, 1) := by decide +kernel
theorem dL_law_235 : decode cL_law 235 = .ok (.aload_n 0, 1) := by decide +kernel
theorem dL_law_236 : decode cL_law 236 = .ok (.iload_n 3, 1) := by decide +kernel
theorem dL_law_237 : decode cL_law 237 = .ok (.iconst 3, 1) := by decide +kernel
theorem dL_law_238 : decode cL_law 238 = .ok (.iadd, 1) := by decide +kernel
theorem dL_law_239 : decode cL_law 239 = .ok (.iaload, 1) := by decide +kernel
theorem dL_law_240 : decode cL_law 240 = .ok (.invokevirtual 23, 3) := by decide +kernel
theorem dL_law_243 : decode cL_law 243 = .ok (.aload_n 2, 1) := by decide +kernel
theorem dL_law_244 : decode cL_law 244 = .ok (.aload_n 0, 1) := by decide +kernel
theorem dL_law_245 : decode cL_law 245 = .ok (.iload_n 3, 1) := by decide +kernel
theorem dL_law_246 : decode cL_law 246 = .ok (.iconst 1, 1) := by decide +kernel
theorem dL_law_247 : decode cL_law 247 = .ok (.iadd, 1) := by decide +kernel
theorem dL_law_248 : decode cL_law 248 = .ok (.iaload, 1) := by decide +kernel
theorem dL_law_249 : decode cL_law 249 = .ok (.aload_n 0, 1) := by decide +kernel
theorem dL_law_250 : decode cL_law 250 = .ok (.iload_n 3, 1) := by decide +kernel
theorem dL_law_251 : decode cL_law 251 = .ok (.iconst 2, 1) := by decide +kernel
theorem dL_law_252 : decode cL_law 252 = .ok (.iadd, 1) := by decide +kernel
theorem dL_law_253 : decode cL_law 253 = .ok (.iaload, 1) := by decide +kernel
theorem dL_law_254 : decode cL_law 254 = .ok (.aload_n 0, 1) := by decide +kernel
theorem dL_law_255 : decode cL_law 255 = .ok (.iload_n 3, 1) := by decide +kernel
theorem dL_law_256 : decode cL_law 256 = .ok (.iconst 3, 1) := by decide +kernel
theorem dL_law_257 : decode cL_law 257 = .ok (.iadd, 1) := by decide +kernel
theorem dL_law_258 : decode cL_law 258 = .ok (.iaload, 1) := by decide +kernel
theorem dL_law_259 : decode cL_law 259 = .ok (.invokevirtual 27, 3) := by decide +kernel
theorem dL_law_262 : decode cL_law 262 = .ok (.if_icmp .eq 943, 3) := by decide +kernel
theorem dL_law_265 : decode cL_law 265 = .ok (.iconst 0, 1) := by decide +kernel
theorem dL_law_266 : decode cL_law 266 = .ok (.ireturn, 1) := by decide +kernel
theorem dL_law_267 : decode cL_law 267 = .ok (.aload_n 1, 1) := by decide +kernel
theorem dL_law_268 : decode cL_law 268 = .ok (.aload_n 0, 1) := by decide +kernel
theorem dL_law_269 : decode cL_law 269 = .ok (.iload_n 3, 1) := by decide +kernel
theorem dL_law_270 : decode cL_law 270 = .ok (.iconst 1, 1) := by decide +kernel
theorem dL_law_271 : decode cL_law 271 = .ok (.iadd, 1) := by decide +kernel
theorem dL_law_272 : decode cL_law 272 = .ok (.iaload, 1) := by decide +kernel
theorem dL_law_273 : decode cL_law 273 = .ok (.invokevirtual 28, 3) := by decide +kernel
theorem dL_law_276 : decode cL_law 276 = .ok (.aload_n 2, 1) := by decide +kernel
theorem dL_law_277 : decode cL_law 277 = .ok (.aload_n 0, 1) := by decide +kernel
theorem dL_law_278 : decode cL_law 278 = .ok (.iload_n 3, 1) := by decide +kernel
theorem dL_law_279 : decode cL_law 279 = .ok (.iconst 1, 1) := by decide +kernel
theorem dL_law_280 : decode cL_law 280 = .ok (.iadd, 1) := by decide +kernel
theorem dL_law_281 : decode cL_law 281 = .ok (.iaload, 1) := by decide +kernel
theorem dL_law_282 : decode cL_law 282 = .ok (.invokevirtual 31, 3) := by decide +kernel
theorem dL_law_285 : decode cL_law 285 = .ok (.if_icmp .eq 920, 3) := by decide +kernel
theorem dL_law_288 : decode cL_law 288 = .ok (.iconst 0, 1) := by decide +kernel
theorem dL_law_289 : decode cL_law 289 = .ok (.ireturn, 1) := by decide +kernel
theorem dL_law_290 : decode cL_law 290 = .ok (.aload_n 1, 1) := by decide +kernel
theorem dL_law_291 : decode cL_law 291 = .ok (.aload_n 0, 1) := by decide +kernel
theorem dL_law_292 : decode cL_law 292 = .ok (.iload_n 3, 1) := by decide +kernel
theorem dL_law_293 : decode cL_law 293 = .ok (.iconst 1, 1) := by decide +kernel
theorem dL_law_294 : decode cL_law 294 = .ok (.iadd, 1) := by decide +kernel
theorem dL_law_295 : decode cL_law 295 = .ok (.iaload, 1) := by decide +kernel
theorem dL_law_296 : decode cL_law 296 = .ok (.aload_n 0, 1) := by decide +kernel
theorem dL_law_297 : decode cL_law 297 = .ok (.iload_n 3, 1) := by decide +kernel
theorem dL_law_298 : decode cL_law 298 = .ok (.iconst 2, 1) := by decide +kernel
theorem dL_law_299 : decode cL_law 299 = .ok (.iadd, 1) := by decide +kernel
theorem dL_law_300 : decode cL_law 300 = .ok (.iaload, 1) := by decide +kernel
theorem dL_law_301 : decode cL_law 301 = .ok (.aload_n 0, 1) := by decide +kernel
theorem dL_law_302 : decode cL_law 302 = .ok (.iload_n 3, 1) := by decide +kernel
theorem dL_law_303 : decode cL_law 303 = .ok (.iconst 3, 1) := by decide +kernel
theorem dL_law_304 : decode cL_law 304 = .ok (.iadd, 1) := by decide +kernel
theorem dL_law_305 : decode cL_law 305 = .ok (.iaload, 1) := by decide +kernel
theorem dL_law_306 : decode cL_law 306 = .ok (.i2l, 1) := by decide +kernel
theorem dL_law_307 : decode cL_law 307 = .ok (.bipush 32, 2) := by decide +kernel
theorem dL_law_309 : decode cL_law 309 = .ok (.lshl, 1) := by decide +kernel
theorem dL_law_310 : decode cL_law 310 = .ok (.aload_n 0, 1) := by decide +kernel
theorem dL_law_311 : decode cL_law 311 = .ok (.iload_n 3, 1) := by decide +kernel
theorem dL_law_312 : decode cL_law 312 = .ok (.iconst 4, 1) := by decide +kernel
theorem dL_law_313 : decode cL_law 313 = .ok (.iadd, 1) := by decide +kernel
theorem dL_law_314 : decode cL_law 314 = .ok (.iaload, 1) := by decide +kernel
theorem dL_law_315 : decode cL_law 315 = .ok (.i2l, 1) := by decide +kernel
theorem dL_law_316 : decode cL_law 316 = .ok (.ldc2_w 32, 3) := by decide +kernel
theorem dL_law_319 : decode cL_law 319 = .ok (.land, 1) := by decide +kernel
theorem dL_law_320 : decode cL_law 320 = .ok (.lor, 1) := by decide +kernel
theorem dL_law_321 : decode cL_law 321 = .ok (.invokevirtual 34, 3) := by decide +kernel
theorem dL_law_324 : decode cL_law 324 = .ok (.aload_n 2, 1) := by decide +kernel
theorem dL_law_325 : decode cL_law 325 = .ok (.aload_n 0, 1) := by decide +kernel
theorem dL_law_326 : decode cL_law 326 = .ok (.iload_n 3, 1) := by decide +kernel
theorem dL_law_327 : decode cL_law 327 = .ok (.iconst 1, 1) := by decide +kernel
theorem dL_law_328 : decode cL_law 328 = .ok (.iadd, 1) := by decide +kernel
theorem dL_law_329 : decode cL_law 329 = .ok (.iaload, 1) := by decide +kernel
theorem dL_law_330 : decode cL_law 330 = .ok (.aload_n 0, 1) := by decide +kernel
theorem dL_law_331 : decode cL_law 331 = .ok (.iload_n 3, 1) := by decide +kernel
theorem dL_law_332 : decode cL_law 332 = .ok (.iconst 2, 1) := by decide +kernel
theorem dL_law_333 : decode cL_law 333 = .ok (.iadd, 1) := by decide +kernel
theorem dL_law_334 : decode cL_law 334 = .ok (.iaload, 1) := by decide +kernel
theorem dL_law_335 : decode cL_law 335 = .ok (.aload_n 0, 1) := by decide +kernel
theorem dL_law_336 : decode cL_law 336 = .ok (.iload_n 3, 1) := by decide +kernel
theorem dL_law_337 : decode cL_law 337 = .ok (.iconst 3, 1) := by decide +kernel
theorem dL_law_338 : decode cL_law 338 = .ok (.iadd, 1) := by decide +kernel
theorem dL_law_339 : decode cL_law 339 = .ok (.iaload, 1) := by decide +kernel
theorem dL_law_340 : decode cL_law 340 = .ok (.i2l, 1) := by decide +kernel
theorem dL_law_341 : decode cL_law 341 = .ok (.bipush 32, 2) := by decide +kernel
theorem dL_law_343 : decode cL_law 343 = .ok (.lshl, 1) := by decide +kernel
theorem dL_law_344 : decode cL_law 344 = .ok (.aload_n 0, 1) := by decide +kernel
theorem dL_law_345 : decode cL_law 345 = .ok (.iload_n 3, 1) := by decide +kernel
theorem dL_law_346 : decode cL_law 346 = .ok (.iconst 4, 1) := by decide +kernel
theorem dL_law_347 : decode cL_law 347 = .ok (.iadd, 1) := by decide +kernel
theorem dL_law_348 : decode cL_law 348 = .ok (.iaload, 1) := by decide +kernel
theorem dL_law_349 : decode cL_law 349 = .ok (.i2l, 1) := by decide +kernel
theorem dL_law_350 : decode cL_law 350 = .ok (.ldc2_w 32, 3) := by decide +kernel
theorem dL_law_353 : decode cL_law 353 = .ok (.land, 1) := by decide +kernel
theorem dL_law_354 : decode cL_law 354 = .ok (.lor, 1) := by decide +kernel
theorem dL_law_355 : decode cL_law 355 = .ok (.invokevirtual 38, 3) := by decide +kernel
theorem dL_law_358 : decode cL_law 358 = .ok (.if_icmp .eq 847, 3) := by decide +kernel
theorem dL_law_361 : decode cL_law 361 = .ok (.iconst 0, 1) := by decide +kernel
theorem dL_law_362 : decode cL_law 362 = .ok (.ireturn, 1) := by decide +kernel
theorem dL_law_363 : decode cL_law 363 = .ok (.aload_n 1, 1) := by decide +kernel
theorem dL_law_364 : decode cL_law 364 = .ok (.aload_n 0, 1) := by decide +kernel
theorem dL_law_365 : decode cL_law 365 = .ok (.iload_n 3, 1) := by decide +kernel
theorem dL_law_366 : decode cL_law 366 = .ok (.iconst 1, 1) := by decide +kernel
theorem dL_law_367 : decode cL_law 367 = .ok (.iadd, 1) := by decide +kernel
theorem dL_law_368 : decode cL_law 368 = .ok (.iaload, 1) := by decide +kernel
theorem dL_law_369 : decode cL_law 369 = .ok (.aload_n 0, 1) := by decide +kernel
theorem dL_law_370 : decode cL_law 370 = .ok (.iload_n 3, 1) := by decide +kernel
theorem dL_law_371 : decode cL_law 371 = .ok (.iconst 2, 1) := by decide +kernel
theorem dL_law_372 : decode cL_law 372 = .ok (.iadd, 1) := by decide +kernel
theorem dL_law_373 : decode cL_law 373 = .ok (.iaload, 1) := by decide +kernel
theorem dL_law_374 : decode cL_law 374 = .ok (.invokevirtual 39, 3) := by decide +kernel
theorem dL_law_377 : decode cL_law 377 = .ok (.aload_n 2, 1) := by decide +kernel
theorem dL_law_378 : decode cL_law 378 = .ok (.aload_n 0, 1) := by decide +kernel
theorem dL_law_379 : decode cL_law 379 = .ok (.iload_n 3, 1) := by decide +kernel
theorem dL_law_380 : decode cL_law 380 = .ok (.iconst 1, 1) := by decide +kernel
theorem dL_law_381 : decode cL_law 381 = .ok (.iadd, 1) := by decide +kernel
theorem dL_law_382 : decode cL_law 382 = .ok (.iaload, 1) := by decide +kernel
theorem dL_law_383 : decode cL_law 383 = .ok (.aload_n 0, 1) := by decide +kernel
theorem dL_law_384 : decode cL_law 384 = .ok (.iload_n 3, 1) := by decide +kernel
theorem dL_law_385 : decode cL_law 385 = .ok (.iconst 2, 1) := by decide +kernel
theorem dL_law_386 : decode cL_law 386 = .ok (.iadd, 1) := by decide +kernel
theorem dL_law_387 : decode cL_law 387 = .ok (.iaload, 1) := by decide +kernel
theorem dL_law_388 : decode cL_law 388 = .ok (.invokevirtual 43, 3) := by decide +kernel
theorem dL_law_391 : decode cL_law 391 = .ok (.lcmp, 1) := by decide +kernel
theorem dL_law_392 : decode cL_law 392 = .ok (.ifCond .eq 813, 3) := by decide +kernel
theorem dL_law_395 : decode cL_law 395 = .ok (.iconst 0, 1) := by decide +kernel
theorem dL_law_396 : decode cL_law 396 = .ok (.ireturn, 1) := by decide +kernel
theorem dL_law_397 : decode cL_law 397 = .ok (.aload_n 1, 1) := by decide +kernel
theorem dL_law_398 : decode cL_law 398 = .ok (.aload_n 0, 1) := by decide +kernel
theorem dL_law_399 : decode cL_law 399 = .ok (.iload_n 3, 1) := by decide +kernel
theorem dL_law_400 : decode cL_law 400 = .ok (.iconst 1, 1) := by decide +kernel
theorem dL_law_401 : decode cL_law 401 = .ok (.iadd, 1) := by decide +kernel
theorem dL_law_402 : decode cL_law 402 = .ok (.iaload, 1) := by decide +kernel
theorem dL_law_403 : decode cL_law 403 = .ok (.aload_n 0, 1) := by decide +kernel
theorem dL_law_404 : decode cL_law 404 = .ok (.iload_n 3, 1) := by decide +kernel
theorem dL_law_405 : decode cL_law 405 = .ok (.iconst 2, 1) := by decide +kernel
theorem dL_law_406 : decode cL_law 406 = .ok (.iadd, 1) := by decide +kernel
theorem dL_law_407 : decode cL_law 407 = .ok (.iaload, 1) := by decide +kernel
theorem dL_law_408 : decode cL_law 408 = .ok (.aload_n 0, 1) := by decide +kernel
theorem dL_law_409 : decode cL_law 409 = .ok (.iload_n 3, 1) := by decide +kernel
theorem dL_law_410 : decode cL_law 410 = .ok (.iconst 3, 1) := by decide +kernel
theorem dL_law_411 : decode cL_law 411 = .ok (.iadd, 1) := by decide +kernel
theorem dL_law_412 : decode cL_law 412 = .ok (.iaload, 1) := by decide +kernel
theorem dL_law_413 : decode cL_law 413 = .ok (.aload_n 0, 1) := by decide +kernel
theorem dL_law_414 : decode cL_law 414 = .ok (.iload_n 3, 1) := by decide +kernel
theorem dL_law_415 : decode cL_law 415 = .ok (.iconst 4, 1) := by decide +kernel
theorem dL_law_416 : decode cL_law 416 = .ok (.iadd, 1) := by decide +kernel
theorem dL_law_417 : decode cL_law 417 = .ok (.iaload, 1) := by decide +kernel
theorem dL_law_418 : decode cL_law 418 = .ok (.aload_n 0, 1) := by decide +kernel
theorem dL_law_419 : decode cL_law 419 = .ok (.iload_n 3, 1) := by decide +kernel
theorem dL_law_420 : decode cL_law 420 = .ok (.iconst 5, 1) := by decide +kernel
theorem dL_law_421 : decode cL_law 421 = .ok (.iadd, 1) := by decide +kernel
theorem dL_law_422 : decode cL_law 422 = .ok (.iaload, 1) := by decide +kernel
theorem dL_law_423 : decode cL_law 423 = .ok (.invokevirtual 44, 3) := by decide +kernel
theorem dL_law_426 : decode cL_law 426 = .ok (.aload_n 2, 1) := by decide +kernel
theorem dL_law_427 : decode cL_law 427 = .ok (.aload_n 0, 1) := by decide +kernel
theorem dL_law_428 : decode cL_law 428 = .ok (.iload_n 3, 1) := by decide +kernel
theorem dL_law_429 : decode cL_law 429 = .ok (.iconst 1, 1) := by decide +kernel
theorem dL_law_430 : decode cL_law 430 = .ok (.iadd, 1) := by decide +kernel
theorem dL_law_431 : decode cL_law 431 = .ok (.iaload, 1) := by decide +kernel
theorem dL_law_432 : decode cL_law 432 = .ok (.aload_n 0, 1) := by decide +kernel
theorem dL_law_433 : decode cL_law 433 = .ok (.iload_n 3, 1) := by decide +kernel
theorem dL_law_434 : decode cL_law 434 = .ok (.iconst 2, 1) := by decide +kernel
theorem dL_law_435 : decode cL_law 435 = .ok (.iadd, 1) := by decide +kernel
theorem dL_law_436 : decode cL_law 436 = .ok (.iaload, 1) := by decide +kernel
theorem dL_law_437 : decode cL_law 437 = .ok (.aload_n 0, 1) := by decide +kernel
theorem dL_law_438 : decode cL_law 438 = .ok (.iload_n 3, 1) := by decide +kernel
theorem dL_law_439 : decode cL_law 439 = .ok (.iconst 3, 1) := by decide +kernel
theorem dL_law_440 : decode cL_law 440 = .ok (.iadd, 1) := by decide +kernel
theorem dL_law_441 : decode cL_law 441 = .ok (.iaload, 1) := by decide +kernel
theorem dL_law_442 : decode cL_law 442 = .ok (.aload_n 0, 1) := by decide +kernel
theorem dL_law_443 : decode cL_law 443 = .ok (.iload_n 3, 1) := by decide +kernel
theorem dL_law_444 : decode cL_law 444 = .ok (.iconst 4, 1) := by decide +kernel
theorem dL_law_445 : decode cL_law 445 = .ok (.iadd, 1) := by decide +kernel
theorem dL_law_446 : decode cL_law 446 = .ok (.iaload, 1) := by decide +kernel
theorem dL_law_447 : decode cL_law 447 = .ok (.aload_n 0, 1) := by decide +kernel
theorem dL_law_448 : decode cL_law 448 = .ok (.iload_n 3, 1) := by decide +kernel
theorem dL_law_449 : decode cL_law 449 = .ok (.iconst 5, 1) := by decide +kernel
theorem dL_law_450 : decode cL_law 450 = .ok (.iadd, 1) := by decide +kernel
theorem dL_law_451 : decode cL_law 451 = .ok (.iaload, 1) := by decide +kernel
theorem dL_law_452 : decode cL_law 452 = .ok (.invokevirtual 48, 3) := by decide +kernel
theorem dL_law_455 : decode cL_law 455 = .ok (.if_icmp .eq 750, 3) := by decide +kernel
theorem dL_law_458 : decode cL_law 458 = .ok (.iconst 0, 1) := by decide +kernel
theorem dL_law_459 : decode cL_law 459 = .ok (.ireturn, 1) := by decide +kernel
theorem dL_law_460 : decode cL_law 460 = .ok (.aload_n 1, 1) := by decide +kernel
theorem dL_law_461 : decode cL_law 461 = .ok (.aload_n 0, 1) := by decide +kernel
theorem dL_law_462 : decode cL_law 462 = .ok (.iload_n 3, 1) := by decide +kernel
theorem dL_law_463 : decode cL_law 463 = .ok (.iconst 1, 1) := by decide +kernel
theorem dL_law_464 : decode cL_law 464 = .ok (.iadd, 1) := by decide +kernel
theorem dL_law_465 : decode cL_law 465 = .ok (.iaload, 1) := by decide +kernel
theorem dL_law_466 : decode cL_law 466 = .ok (.aload_n 0, 1) := by decide +kernel
theorem dL_law_467 : decode cL_law 467 = .ok (.iload_n 3, 1) := by decide +kernel
theorem dL_law_468 : decode cL_law 468 = .ok (.iconst 2, 1) := by decide +kernel
theorem dL_law_469 : decode cL_law 469 = .ok (.iadd, 1) := by decide +kernel
theorem dL_law_470 : decode cL_law 470 = .ok (.iaload, 1) := by decide +kernel
theorem dL_law_471 : decode cL_law 471 = .ok (.invokevirtual 49, 3) := by decide +kernel
theorem dL_law_474 : decode cL_law 474 = .ok (.aload_n 2, 1) := by decide +kernel
theorem dL_law_475 : decode cL_law 475 = .ok (.aload_n 0, 1) := by decide +kernel
theorem dL_law_476 : decode cL_law 476 = .ok (.iload_n 3, 1) := by decide +kernel
theorem dL_law_477 : decode cL_law 477 = .ok (.iconst 1, 1) := by decide +kernel
theorem dL_law_478 : decode cL_law 478 = .ok (.iadd, 1) := by decide +kernel
theorem dL_law_479 : decode cL_law 479 = .ok (.iaload, 1) := by decide +kernel
theorem dL_law_480 : decode cL_law 480 = .ok (.aload_n 0, 1) := by decide +kernel
theorem dL_law_481 : decode cL_law 481 = .ok (.iload_n 3, 1) := by decide +kernel
theorem dL_law_482 : decode cL_law 482 = .ok (.iconst 2, 1) := by decide +kernel
theorem dL_law_483 : decode cL_law 483 = .ok (.iadd, 1) := by decide +kernel
theorem dL_law_484 : decode cL_law 484 = .ok (.iaload, 1) := by decide +kernel
theorem dL_law_485 : decode cL_law 485 = .ok (.invokevirtual 52, 3) := by decide +kernel
theorem dL_law_488 : decode cL_law 488 = .ok (.if_icmp .eq 717, 3) := by decide +kernel
theorem dL_law_491 : decode cL_law 491 = .ok (.iconst 0, 1) := by decide +kernel
theorem dL_law_492 : decode cL_law 492 = .ok (.ireturn, 1) := by decide +kernel
theorem dL_law_493 : decode cL_law 493 = .ok (.aload_n 1, 1) := by decide +kernel
theorem dL_law_494 : decode cL_law 494 = .ok (.aload_n 0, 1) := by decide +kernel
theorem dL_law_495 : decode cL_law 495 = .ok (.iload_n 3, 1) := by decide +kernel
theorem dL_law_496 : decode cL_law 496 = .ok (.iconst 1, 1) := by decide +kernel
theorem dL_law_497 : decode cL_law 497 = .ok (.iadd, 1) := by decide +kernel
theorem dL_law_498 : decode cL_law 498 = .ok (.iaload, 1) := by decide +kernel
theorem dL_law_499 : decode cL_law 499 = .ok (.aload_n 0, 1) := by decide +kernel
theorem dL_law_500 : decode cL_law 500 = .ok (.iload_n 3, 1) := by decide +kernel
theorem dL_law_501 : decode cL_law 501 = .ok (.iconst 2, 1) := by decide +kernel
theorem dL_law_502 : decode cL_law 502 = .ok (.iadd, 1) := by decide +kernel
theorem dL_law_503 : decode cL_law 503 = .ok (.iaload, 1) := by decide +kernel
theorem dL_law_504 : decode cL_law 504 = .ok (.invokevirtual 53, 3) := by decide +kernel
theorem dL_law_507 : decode cL_law 507 = .ok (.aload_n 2, 1) := by decide +kernel
theorem dL_law_508 : decode cL_law 508 = .ok (.aload_n 0, 1) := by decide +kernel
theorem dL_law_509 : decode cL_law 509 = .ok (.iload_n 3, 1) := by decide +kernel
theorem dL_law_510 : decode cL_law 510 = .ok (.iconst 1, 1) := by decide +kernel
theorem dL_law_511 : decode cL_law 511 = .ok (.iadd, 1) := by decide +kernel
theorem dL_law_512 : decode cL_law 512 = .ok (.iaload, 1) := by decide +kernel
theorem dL_law_513 : decode cL_law 513 = .ok (.aload_n 0, 1) := by decide +kernel
theorem dL_law_514 : decode cL_law 514 = .ok (.iload_n 3, 1) := by decide +kernel
theorem dL_law_515 : decode cL_law 515 = .ok (.iconst 2, 1) := by decide +kernel
theorem dL_law_516 : decode cL_law 516 = .ok (.iadd, 1) := by decide +kernel
theorem dL_law_517 : decode cL_law 517 = .ok (.iaload, 1) := by decide +kernel
theorem dL_law_518 : decode cL_law 518 = .ok (.invokevirtual 56, 3) := by decide +kernel
theorem dL_law_521 : decode cL_law 521 = .ok (.if_icmp .eq 684, 3) := by decide +kernel
theorem dL_law_524 : decode cL_law 524 = .ok (.iconst 0, 1) := by decide +kernel
theorem dL_law_525 : decode cL_law 525 = .ok (.ireturn, 1) := by decide +kernel
theorem dL_law_526 : decode cL_law 526 = .ok (.aload_n 1, 1) := by decide +kernel
theorem dL_law_527 : decode cL_law 527 = .ok (.aload_n 0, 1) := by decide +kernel
theorem dL_law_528 : decode cL_law 528 = .ok (.iload_n 3, 1) := by decide +kernel
theorem dL_law_529 : decode cL_law 529 = .ok (.iconst 1, 1) := by decide +kernel
theorem dL_law_530 : decode cL_law 530 = .ok (.iadd, 1) := by decide +kernel
theorem dL_law_531 : decode cL_law 531 = .ok (.iaload, 1) := by decide +kernel
theorem dL_law_532 : decode cL_law 532 = .ok (.aload_n 0, 1) := by decide +kernel
theorem dL_law_533 : decode cL_law 533 = .ok (.iload_n 3, 1) := by decide +kernel
theorem dL_law_534 : decode cL_law 534 = .ok (.iconst 2, 1) := by decide +kernel
theorem dL_law_535 : decode cL_law 535 = .ok (.iadd, 1) := by decide +kernel
theorem dL_law_536 : decode cL_law 536 = .ok (.iaload, 1) := by decide +kernel
theorem dL_law_537 : decode cL_law 537 = .ok (.invokevirtual 57, 3) := by decide +kernel
theorem dL_law_540 : decode cL_law 540 = .ok (.aload_n 2, 1) := by decide +kernel
theorem dL_law_541 : decode cL_law 541 = .ok (.aload_n 0, 1) := by decide +kernel
theorem dL_law_542 : decode cL_law 542 = .ok (.iload_n 3, 1) := by decide +kernel
theorem dL_law_543 : decode cL_law 543 = .ok (.iconst 1, 1) := by decide +kernel
theorem dL_law_544 : decode cL_law 544 = .ok (.iadd, 1) := by decide +kernel
theorem dL_law_545 : decode cL_law 545 = .ok (.iaload, 1) := by decide +kernel
theorem dL_law_546 : decode cL_law 546 = .ok (.aload_n 0, 1) := by decide +kernel
theorem dL_law_547 : decode cL_law 547 = .ok (.iload_n 3, 1) := by decide +kernel
theorem dL_law_548 : decode cL_law 548 = .ok (.iconst 2, 1) := by decide +kernel
theorem dL_law_549 : decode cL_law 549 = .ok (.iadd, 1) := by decide +kernel
theorem dL_law_550 : decode cL_law 550 = .ok (.iaload, 1) := by decide +kernel
theorem dL_law_551 : decode cL_law 551 = .ok (.invokevirtual 60, 3) := by decide +kernel
theorem dL_law_554 : decode cL_law 554 = .ok (.if_icmp .eq 651, 3) := by decide +kernel
theorem dL_law_557 : decode cL_law 557 = .ok (.iconst 0, 1) := by decide +kernel
theorem dL_law_558 : decode cL_law 558 = .ok (.ireturn, 1) := by decide +kernel
theorem dL_law_559 : decode cL_law 559 = .ok (.aload_n 1, 1) := by decide +kernel
theorem dL_law_560 : decode cL_law 560 = .ok (.aload_n 0, 1) := by decide +kernel
theorem dL_law_561 : decode cL_law 561 = .ok (.iload_n 3, 1) := by decide +kernel
theorem dL_law_562 : decode cL_law 562 = .ok (.iconst 1, 1) := by decide +kernel
theorem dL_law_563 : decode cL_law 563 = .ok (.iadd, 1) := by decide +kernel
theorem dL_law_564 : decode cL_law 564 = .ok (.iaload, 1) := by decide +kernel
theorem dL_law_565 : decode cL_law 565 = .ok (.invokevirtual 61, 3) := by decide +kernel
theorem dL_law_568 : decode cL_law 568 = .ok (.aload_n 2, 1) := by decide +kernel
theorem dL_law_569 : decode cL_law 569 = .ok (.aload_n 0, 1) := by decide +kernel
theorem dL_law_570 : decode cL_law 570 = .ok (.iload_n 3, 1) := by decide +kernel
theorem dL_law_571 : decode cL_law 571 = .ok (.iconst 1, 1) := by decide +kernel
theorem dL_law_572 : decode cL_law 572 = .ok (.iadd, 1) := by decide +kernel
theorem dL_law_573 : decode cL_law 573 = .ok (.iaload, 1) := by decide +kernel
theorem dL_law_574 : decode cL_law 574 = .ok (.invokevirtual 65, 3) := by decide +kernel
theorem dL_law_577 : decode cL_law 577 = .ok (.if_icmp .eq 628, 3) := by decide +kernel
theorem dL_law_580 : decode cL_law 580 = .ok (.iconst 0, 1) := by decide +kernel
theorem dL_law_581 : decode cL_law 581 = .ok (.ireturn, 1) := by decide +kernel
theorem dL_law_582 : decode cL_law 582 = .ok (.aload_n 1, 1) := by decide +kernel
theorem dL_law_583 : decode cL_law 583 = .ok (.aload_n 0, 1) := by decide +kernel
theorem dL_law_584 : decode cL_law 584 = .ok (.iload_n 3, 1) := by decide +kernel
theorem dL_law_585 : decode cL_law 585 = .ok (.iconst 1, 1) := by decide +kernel
theorem dL_law_586 : decode cL_law 586 = .ok (.iadd, 1) := by decide +kernel
theorem dL_law_587 : decode cL_law 587 = .ok (.iaload, 1) := by decide +kernel
theorem dL_law_588 : decode cL_law 588 = .ok (.aload_n 0, 1) := by decide +kernel
theorem dL_law_589 : decode cL_law 589 = .ok (.iload_n 3, 1) := by decide +kernel
theorem dL_law_590 : decode cL_law 590 = .ok (.iconst 2, 1) := by decide +kernel
theorem dL_law_591 : decode cL_law 591 = .ok (.iadd, 1) := by decide +kernel
theorem dL_law_592 : decode cL_law 592 = .ok (.iaload, 1) := by decide +kernel
theorem dL_law_593 : decode cL_law 593 = .ok (.invokevirtual 66, 3) := by decide +kernel
theorem dL_law_596 : decode cL_law 596 = .ok (.aload_n 2, 1) := by decide +kernel
theorem dL_law_597 : decode cL_law 597 = .ok (.aload_n 0, 1) := by decide +kernel
theorem dL_law_598 : decode cL_law 598 = .ok (.iload_n 3, 1) := by decide +kernel
theorem dL_law_599 : decode cL_law 599 = .ok (.iconst 1, 1) := by decide +kernel
theorem dL_law_600 : decode cL_law 600 = .ok (.iadd, 1) := by decide +kernel
theorem dL_law_601 : decode cL_law 601 = .ok (.iaload, 1) := by decide +kernel
theorem dL_law_602 : decode cL_law 602 = .ok (.aload_n 0, 1) := by decide +kernel
theorem dL_law_603 : decode cL_law 603 = .ok (.iload_n 3, 1) := by decide +kernel
theorem dL_law_604 : decode cL_law 604 = .ok (.iconst 2, 1) := by decide +kernel
theorem dL_law_605 : decode cL_law 605 = .ok (.iadd, 1) := by decide +kernel
theorem dL_law_606 : decode cL_law 606 = .ok (.iaload, 1) := by decide +kernel
theorem dL_law_607 : decode cL_law 607 = .ok (.invokevirtual 69, 3) := by decide +kernel
theorem dL_law_610 : decode cL_law 610 = .ok (.if_icmp .eq 595, 3) := by decide +kernel
theorem dL_law_613 : decode cL_law 613 = .ok (.iconst 0, 1) := by decide +kernel
theorem dL_law_614 : decode cL_law 614 = .ok (.ireturn, 1) := by decide +kernel
theorem dL_law_615 : decode cL_law 615 = .ok (.aload_n 1, 1) := by decide +kernel
theorem dL_law_616 : decode cL_law 616 = .ok (.aload_n 0, 1) := by decide +kernel
theorem dL_law_617 : decode cL_law 617 = .ok (.iload_n 3, 1) := by decide +kernel
theorem dL_law_618 : decode cL_law 618 = .ok (.iconst 1, 1) := by decide +kernel
theorem dL_law_619 : decode cL_law 619 = .ok (.iadd, 1) := by decide +kernel
theorem dL_law_620 : decode cL_law 620 = .ok (.iaload, 1) := by decide +kernel
theorem dL_law_621 : decode cL_law 621 = .ok (.invokevirtual 70, 3) := by decide +kernel
theorem dL_law_624 : decode cL_law 624 = .ok (.aload_n 2, 1) := by decide +kernel
theorem dL_law_625 : decode cL_law 625 = .ok (.aload_n 0, 1) := by decide +kernel
theorem dL_law_626 : decode cL_law 626 = .ok (.iload_n 3, 1) := by decide +kernel
theorem dL_law_627 : decode cL_law 627 = .ok (.iconst 1, 1) := by decide +kernel
theorem dL_law_628 : decode cL_law 628 = .ok (.iadd, 1) := by decide +kernel
theorem dL_law_629 : decode cL_law 629 = .ok (.iaload, 1) := by decide +kernel
theorem dL_law_630 : decode cL_law 630 = .ok (.invokevirtual 73, 3) := by decide +kernel
theorem dL_law_633 : decode cL_law 633 = .ok (.if_icmp .eq 572, 3) := by decide +kernel
theorem dL_law_636 : decode cL_law 636 = .ok (.iconst 0, 1) := by decide +kernel
theorem dL_law_637 : decode cL_law 637 = .ok (.ireturn, 1) := by decide +kernel
theorem dL_law_638 : decode cL_law 638 = .ok (.aload_n 1, 1) := by decide +kernel
theorem dL_law_639 : decode cL_law 639 = .ok (.aload_n 0, 1) := by decide +kernel
theorem dL_law_640 : decode cL_law 640 = .ok (.iload_n 3, 1) := by decide +kernel
theorem dL_law_641 : decode cL_law 641 = .ok (.iconst 1, 1) := by decide +kernel
theorem dL_law_642 : decode cL_law 642 = .ok (.iadd, 1) := by decide +kernel
theorem dL_law_643 : decode cL_law 643 = .ok (.iaload, 1) := by decide +kernel
theorem dL_law_644 : decode cL_law 644 = .ok (.aload_n 0, 1) := by decide +kernel
theorem dL_law_645 : decode cL_law 645 = .ok (.iload_n 3, 1) := by decide +kernel
theorem dL_law_646 : decode cL_law 646 = .ok (.iconst 2, 1) := by decide +kernel
theorem dL_law_647 : decode cL_law 647 = .ok (.iadd, 1) := by decide +kernel
theorem dL_law_648 : decode cL_law 648 = .ok (.iaload, 1) := by decide +kernel
theorem dL_law_649 : decode cL_law 649 = .ok (.invokevirtual 74, 3) := by decide +kernel
theorem dL_law_652 : decode cL_law 652 = .ok (.aload_n 2, 1) := by decide +kernel
theorem dL_law_653 : decode cL_law 653 = .ok (.aload_n 0, 1) := by decide +kernel
theorem dL_law_654 : decode cL_law 654 = .ok (.iload_n 3, 1) := by decide +kernel
theorem dL_law_655 : decode cL_law 655 = .ok (.iconst 1, 1) := by decide +kernel
theorem dL_law_656 : decode cL_law 656 = .ok (.iadd, 1) := by decide +kernel
theorem dL_law_657 : decode cL_law 657 = .ok (.iaload, 1) := by decide +kernel
theorem dL_law_658 : decode cL_law 658 = .ok (.aload_n 0, 1) := by decide +kernel
theorem dL_law_659 : decode cL_law 659 = .ok (.iload_n 3, 1) := by decide +kernel
theorem dL_law_660 : decode cL_law 660 = .ok (.iconst 2, 1) := by decide +kernel
theorem dL_law_661 : decode cL_law 661 = .ok (.iadd, 1) := by decide +kernel
theorem dL_law_662 : decode cL_law 662 = .ok (.iaload, 1) := by decide +kernel
theorem dL_law_663 : decode cL_law 663 = .ok (.invokevirtual 77, 3) := by decide +kernel
theorem dL_law_666 : decode cL_law 666 = .ok (.if_icmp .eq 539, 3) := by decide +kernel
theorem dL_law_669 : decode cL_law 669 = .ok (.iconst 0, 1) := by decide +kernel
theorem dL_law_670 : decode cL_law 670 = .ok (.ireturn, 1) := by decide +kernel
theorem dL_law_671 : decode cL_law 671 = .ok (.aload_n 1, 1) := by decide +kernel
theorem dL_law_672 : decode cL_law 672 = .ok (.aload_n 0, 1) := by decide +kernel
theorem dL_law_673 : decode cL_law 673 = .ok (.iload_n 3, 1) := by decide +kernel
theorem dL_law_674 : decode cL_law 674 = .ok (.iconst 1, 1) := by decide +kernel
theorem dL_law_675 : decode cL_law 675 = .ok (.iadd, 1) := by decide +kernel
theorem dL_law_676 : decode cL_law 676 = .ok (.iaload, 1) := by decide +kernel
theorem dL_law_677 : decode cL_law 677 = .ok (.aload_n 0, 1) := by decide +kernel
theorem dL_law_678 : decode cL_law 678 = .ok (.iload_n 3, 1) := by decide +kernel
theorem dL_law_679 : decode cL_law 679 = .ok (.iconst 2, 1) := by decide +kernel
theorem dL_law_680 : decode cL_law 680 = .ok (.iadd, 1) := by decide +kernel
theorem dL_law_681 : decode cL_law 681 = .ok (.iaload, 1) := by decide +kernel
theorem dL_law_682 : decode cL_law 682 = .ok (.invokevirtual 78, 3) := by decide +kernel
theorem dL_law_685 : decode cL_law 685 = .ok (.aload_n 2, 1) := by decide +kernel
theorem dL_law_686 : decode cL_law 686 = .ok (.aload_n 0, 1) := by decide +kernel
theorem dL_law_687 : decode cL_law 687 = .ok (.iload_n 3, 1) := by decide +kernel
theorem dL_law_688 : decode cL_law 688 = .ok (.iconst 1, 1) := by decide +kernel
theorem dL_law_689 : decode cL_law 689 = .ok (.iadd, 1) := by decide +kernel
theorem dL_law_690 : decode cL_law 690 = .ok (.iaload, 1) := by decide +kernel
theorem dL_law_691 : decode cL_law 691 = .ok (.aload_n 0, 1) := by decide +kernel
theorem dL_law_692 : decode cL_law 692 = .ok (.iload_n 3, 1) := by decide +kernel
theorem dL_law_693 : decode cL_law 693 = .ok (.iconst 2, 1) := by decide +kernel
theorem dL_law_694 : decode cL_law 694 = .ok (.iadd, 1) := by decide +kernel
theorem dL_law_695 : decode cL_law 695 = .ok (.iaload, 1) := by decide +kernel
theorem dL_law_696 : decode cL_law 696 = .ok (.invokevirtual 81, 3) := by decide +kernel
theorem dL_law_699 : decode cL_law 699 = .ok (.if_icmp .eq 506, 3) := by decide +kernel
theorem dL_law_702 : decode cL_law 702 = .ok (.iconst 0, 1) := by decide +kernel
theorem dL_law_703 : decode cL_law 703 = .ok (.ireturn, 1) := by decide +kernel
theorem dL_law_704 : decode cL_law 704 = .ok (.aload_n 1, 1) := by decide +kernel
theorem dL_law_705 : decode cL_law 705 = .ok (.aload_n 0, 1) := by decide +kernel
theorem dL_law_706 : decode cL_law 706 = .ok (.iload_n 3, 1) := by decide +kernel
theorem dL_law_707 : decode cL_law 707 = .ok (.iconst 1, 1) := by decide +kernel
theorem dL_law_708 : decode cL_law 708 = .ok (.iadd, 1) := by decide +kernel
theorem dL_law_709 : decode cL_law 709 = .ok (.iaload, 1) := by decide +kernel
theorem dL_law_710 : decode cL_law 710 = .ok (.aload_n 0, 1) := by decide +kernel
theorem dL_law_711 : decode cL_law 711 = .ok (.iload_n 3, 1) := by decide +kernel
theorem dL_law_712 : decode cL_law 712 = .ok (.iconst 2, 1) := by decide +kernel
theorem dL_law_713 : decode cL_law 713 = .ok (.iadd, 1) := by decide +kernel
theorem dL_law_714 : decode cL_law 714 = .ok (.iaload, 1) := by decide +kernel
theorem dL_law_715 : decode cL_law 715 = .ok (.invokevirtual 82, 3) := by decide +kernel
theorem dL_law_718 : decode cL_law 718 = .ok (.aload_n 2, 1) := by decide +kernel
theorem dL_law_719 : decode cL_law 719 = .ok (.aload_n 0, 1) := by decide +kernel
theorem dL_law_720 : decode cL_law 720 = .ok (.iload_n 3, 1) := by decide +kernel
theorem dL_law_721 : decode cL_law 721 = .ok (.iconst 1, 1) := by decide +kernel
theorem dL_law_722 : decode cL_law 722 = .ok (.iadd, 1) := by decide +kernel
theorem dL_law_723 : decode cL_law 723 = .ok (.iaload, 1) := by decide +kernel
theorem dL_law_724 : decode cL_law 724 = .ok (.aload_n 0, 1) := by decide +kernel
theorem dL_law_725 : decode cL_law 725 = .ok (.iload_n 3, 1) := by decide +kernel
theorem dL_law_726 : decode cL_law 726 = .ok (.iconst 2, 1) := by decide +kernel
theorem dL_law_727 : decode cL_law 727 = .ok (.iadd, 1) := by decide +kernel
theorem dL_law_728 : decode cL_law 728 = .ok (.iaload, 1) := by decide +kernel
theorem dL_law_729 : decode cL_law 729 = .ok (.invokevirtual 85, 3) := by decide +kernel
theorem dL_law_732 : decode cL_law 732 = .ok (.if_icmp .eq 473, 3) := by decide +kernel
theorem dL_law_735 : decode cL_law 735 = .ok (.iconst 0, 1) := by decide +kernel
theorem dL_law_736 : decode cL_law 736 = .ok (.ireturn, 1) := by decide +kernel
theorem dL_law_737 : decode cL_law 737 = .ok (.aload_n 1, 1) := by decide +kernel
theorem dL_law_738 : decode cL_law 738 = .ok (.aload_n 0, 1) := by decide +kernel
theorem dL_law_739 : decode cL_law 739 = .ok (.iload_n 3, 1) := by decide +kernel
theorem dL_law_740 : decode cL_law 740 = .ok (.iconst 1, 1) := by decide +kernel
theorem dL_law_741 : decode cL_law 741 = .ok (.iadd, 1) := by decide +kernel
theorem dL_law_742 : decode cL_law 742 = .ok (.iaload, 1) := by decide +kernel
theorem dL_law_743 : decode cL_law 743 = .ok (.aload_n 0, 1) := by decide +kernel
theorem dL_law_744 : decode cL_law 744 = .ok (.iload_n 3, 1) := by decide +kernel
theorem dL_law_745 : decode cL_law 745 = .ok (.iconst 2, 1) := by decide +kernel
theorem dL_law_746 : decode cL_law 746 = .ok (.iadd, 1) := by decide +kernel
theorem dL_law_747 : decode cL_law 747 = .ok (.iaload, 1) := by decide +kernel
theorem dL_law_748 : decode cL_law 748 = .ok (.invokevirtual 86, 3) := by decide +kernel
theorem dL_law_751 : decode cL_law 751 = .ok (.aload_n 2, 1) := by decide +kernel
theorem dL_law_752 : decode cL_law 752 = .ok (.aload_n 0, 1) := by decide +kernel
theorem dL_law_753 : decode cL_law 753 = .ok (.iload_n 3, 1) := by decide +kernel
theorem dL_law_754 : decode cL_law 754 = .ok (.iconst 1, 1) := by decide +kernel
theorem dL_law_755 : decode cL_law 755 = .ok (.iadd, 1) := by decide +kernel
theorem dL_law_756 : decode cL_law 756 = .ok (.iaload, 1) := by decide +kernel
theorem dL_law_757 : decode cL_law 757 = .ok (.aload_n 0, 1) := by decide +kernel
theorem dL_law_758 : decode cL_law 758 = .ok (.iload_n 3, 1) := by decide +kernel
theorem dL_law_759 : decode cL_law 759 = .ok (.iconst 2, 1) := by decide +kernel
theorem dL_law_760 : decode cL_law 760 = .ok (.iadd, 1) := by decide +kernel
theorem dL_law_761 : decode cL_law 761 = .ok (.iaload, 1) := by decide +kernel
theorem dL_law_762 : decode cL_law 762 = .ok (.invokevirtual 89, 3) := by decide +kernel
theorem dL_law_765 : decode cL_law 765 = .ok (.if_icmp .eq 440, 3) := by decide +kernel
theorem dL_law_768 : decode cL_law 768 = .ok (.iconst 0, 1) := by decide +kernel
theorem dL_law_769 : decode cL_law 769 = .ok (.ireturn, 1) := by decide +kernel
theorem dL_law_770 : decode cL_law 770 = .ok (.aload_n 1, 1) := by decide +kernel
theorem dL_law_771 : decode cL_law 771 = .ok (.aload_n 0, 1) := by decide +kernel
theorem dL_law_772 : decode cL_law 772 = .ok (.iload_n 3, 1) := by decide +kernel
theorem dL_law_773 : decode cL_law 773 = .ok (.iconst 1, 1) := by decide +kernel
theorem dL_law_774 : decode cL_law 774 = .ok (.iadd, 1) := by decide +kernel
theorem dL_law_775 : decode cL_law 775 = .ok (.iaload, 1) := by decide +kernel
theorem dL_law_776 : decode cL_law 776 = .ok (.aload_n 0, 1) := by decide +kernel
theorem dL_law_777 : decode cL_law 777 = .ok (.iload_n 3, 1) := by decide +kernel
theorem dL_law_778 : decode cL_law 778 = .ok (.iconst 2, 1) := by decide +kernel
theorem dL_law_779 : decode cL_law 779 = .ok (.iadd, 1) := by decide +kernel
theorem dL_law_780 : decode cL_law 780 = .ok (.iaload, 1) := by decide +kernel
theorem dL_law_781 : decode cL_law 781 = .ok (.invokevirtual 90, 3) := by decide +kernel
theorem dL_law_784 : decode cL_law 784 = .ok (.aload_n 2, 1) := by decide +kernel
theorem dL_law_785 : decode cL_law 785 = .ok (.aload_n 0, 1) := by decide +kernel
theorem dL_law_786 : decode cL_law 786 = .ok (.iload_n 3, 1) := by decide +kernel
theorem dL_law_787 : decode cL_law 787 = .ok (.iconst 1, 1) := by decide +kernel
theorem dL_law_788 : decode cL_law 788 = .ok (.iadd, 1) := by decide +kernel
theorem dL_law_789 : decode cL_law 789 = .ok (.iaload, 1) := by decide +kernel
theorem dL_law_790 : decode cL_law 790 = .ok (.aload_n 0, 1) := by decide +kernel
theorem dL_law_791 : decode cL_law 791 = .ok (.iload_n 3, 1) := by decide +kernel
theorem dL_law_792 : decode cL_law 792 = .ok (.iconst 2, 1) := by decide +kernel
theorem dL_law_793 : decode cL_law 793 = .ok (.iadd, 1) := by decide +kernel
theorem dL_law_794 : decode cL_law 794 = .ok (.iaload, 1) := by decide +kernel
theorem dL_law_795 : decode cL_law 795 = .ok (.invokevirtual 93, 3) := by decide +kernel
theorem dL_law_798 : decode cL_law 798 = .ok (.if_icmp .eq 407, 3) := by decide +kernel
theorem dL_law_801 : decode cL_law 801 = .ok (.iconst 0, 1) := by decide +kernel
theorem dL_law_802 : decode cL_law 802 = .ok (.ireturn, 1) := by decide +kernel
theorem dL_law_803 : decode cL_law 803 = .ok (.aload_n 1, 1) := by decide +kernel
theorem dL_law_804 : decode cL_law 804 = .ok (.aload_n 0, 1) := by decide +kernel
theorem dL_law_805 : decode cL_law 805 = .ok (.iload_n 3, 1) := by decide +kernel
theorem dL_law_806 : decode cL_law 806 = .ok (.iconst 1, 1) := by decide +kernel
theorem dL_law_807 : decode cL_law 807 = .ok (.iadd, 1) := by decide +kernel
theorem dL_law_808 : decode cL_law 808 = .ok (.iaload, 1) := by decide +kernel
theorem dL_law_809 : decode cL_law 809 = .ok (.aload_n 0, 1) := by decide +kernel
theorem dL_law_810 : decode cL_law 810 = .ok (.iload_n 3, 1) := by decide +kernel
theorem dL_law_811 : decode cL_law 811 = .ok (.iconst 2, 1) := by decide +kernel
theorem dL_law_812 : decode cL_law 812 = .ok (.iadd, 1) := by decide +kernel
theorem dL_law_813 : decode cL_law 813 = .ok (.iaload, 1) := by decide +kernel
theorem dL_law_814 : decode cL_law 814 = .ok (.aload_n 0, 1) := by decide +kernel
theorem dL_law_815 : decode cL_law 815 = .ok (.iload_n 3, 1) := by decide +kernel
theorem dL_law_816 : decode cL_law 816 = .ok (.iconst 3, 1) := by decide +kernel
theorem dL_law_817 : decode cL_law 817 = .ok (.iadd, 1) := by decide +kernel
theorem dL_law_818 : decode cL_law 818 = .ok (.iaload, 1) := by decide +kernel
theorem dL_law_819 : decode cL_law 819 = .ok (.invokevirtual 94, 3) := by decide +kernel
theorem dL_law_822 : decode cL_law 822 = .ok (.aload_n 2, 1) := by decide +kernel
theorem dL_law_823 : decode cL_law 823 = .ok (.aload_n 0, 1) := by decide +kernel
theorem dL_law_824 : decode cL_law 824 = .ok (.iload_n 3, 1) := by decide +kernel
theorem dL_law_825 : decode cL_law 825 = .ok (.iconst 1, 1) := by decide +kernel
theorem dL_law_826 : decode cL_law 826 = .ok (.iadd, 1) := by decide +kernel
theorem dL_law_827 : decode cL_law 827 = .ok (.iaload, 1) := by decide +kernel
theorem dL_law_828 : decode cL_law 828 = .ok (.aload_n 0, 1) := by decide +kernel
theorem dL_law_829 : decode cL_law 829 = .ok (.iload_n 3, 1) := by decide +kernel
theorem dL_law_830 : decode cL_law 830 = .ok (.iconst 2, 1) := by decide +kernel
theorem dL_law_831 : decode cL_law 831 = .ok (.iadd, 1) := by decide +kernel
theorem dL_law_832 : decode cL_law 832 = .ok (.iaload, 1) := by decide +kernel
theorem dL_law_833 : decode cL_law 833 = .ok (.aload_n 0, 1) := by decide +kernel
theorem dL_law_834 : decode cL_law 834 = .ok (.iload_n 3, 1) := by decide +kernel
theorem dL_law_835 : decode cL_law 835 = .ok (.iconst 3, 1) := by decide +kernel
theorem dL_law_836 : decode cL_law 836 = .ok (.iadd, 1) := by decide +kernel
theorem dL_law_837 : decode cL_law 837 = .ok (.iaload, 1) := by decide +kernel
theorem dL_law_838 : decode cL_law 838 = .ok (.invokevirtual 97, 3) := by decide +kernel
theorem dL_law_841 : decode cL_law 841 = .ok (.if_icmp .eq 364, 3) := by decide +kernel
theorem dL_law_844 : decode cL_law 844 = .ok (.iconst 0, 1) := by decide +kernel
theorem dL_law_845 : decode cL_law 845 = .ok (.ireturn, 1) := by decide +kernel
theorem dL_law_846 : decode cL_law 846 = .ok (.aload_n 1, 1) := by decide +kernel
theorem dL_law_847 : decode cL_law 847 = .ok (.aload_n 0, 1) := by decide +kernel
theorem dL_law_848 : decode cL_law 848 = .ok (.iload_n 3, 1) := by decide +kernel
theorem dL_law_849 : decode cL_law 849 = .ok (.iconst 1, 1) := by decide +kernel
theorem dL_law_850 : decode cL_law 850 = .ok (.iadd, 1) := by decide +kernel
theorem dL_law_851 : decode cL_law 851 = .ok (.iaload, 1) := by decide +kernel
theorem dL_law_852 : decode cL_law 852 = .ok (.aload_n 0, 1) := by decide +kernel
theorem dL_law_853 : decode cL_law 853 = .ok (.iload_n 3, 1) := by decide +kernel
theorem dL_law_854 : decode cL_law 854 = .ok (.iconst 2, 1) := by decide +kernel
theorem dL_law_855 : decode cL_law 855 = .ok (.iadd, 1) := by decide +kernel
theorem dL_law_856 : decode cL_law 856 = .ok (.iaload, 1) := by decide +kernel
theorem dL_law_857 : decode cL_law 857 = .ok (.ifCond .eq 7, 3) := by decide +kernel
theorem dL_law_860 : decode cL_law 860 = .ok (.iconst 1, 1) := by decide +kernel
theorem dL_law_861 : decode cL_law 861 = .ok (.goto 4, 3) := by decide +kernel
theorem dL_law_864 : decode cL_law 864 = .ok (.iconst 0, 1) := by decide +kernel
theorem dL_law_865 : decode cL_law 865 = .ok (.invokevirtual 98, 3) := by decide +kernel
theorem dL_law_868 : decode cL_law 868 = .ok (.aload_n 2, 1) := by decide +kernel
theorem dL_law_869 : decode cL_law 869 = .ok (.aload_n 0, 1) := by decide +kernel
theorem dL_law_870 : decode cL_law 870 = .ok (.iload_n 3, 1) := by decide +kernel
theorem dL_law_871 : decode cL_law 871 = .ok (.iconst 1, 1) := by decide +kernel
theorem dL_law_872 : decode cL_law 872 = .ok (.iadd, 1) := by decide +kernel
theorem dL_law_873 : decode cL_law 873 = .ok (.iaload, 1) := by decide +kernel
theorem dL_law_874 : decode cL_law 874 = .ok (.aload_n 0, 1) := by decide +kernel
theorem dL_law_875 : decode cL_law 875 = .ok (.iload_n 3, 1) := by decide +kernel
theorem dL_law_876 : decode cL_law 876 = .ok (.iconst 2, 1) := by decide +kernel
theorem dL_law_877 : decode cL_law 877 = .ok (.iadd, 1) := by decide +kernel
theorem dL_law_878 : decode cL_law 878 = .ok (.iaload, 1) := by decide +kernel
theorem dL_law_879 : decode cL_law 879 = .ok (.ifCond .eq 7, 3) := by decide +kernel
theorem dL_law_882 : decode cL_law 882 = .ok (.iconst 1, 1) := by decide +kernel
theorem dL_law_883 : decode cL_law 883 = .ok (.goto 4, 3) := by decide +kernel
theorem dL_law_886 : decode cL_law 886 = .ok (.iconst 0, 1) := by decide +kernel
theorem dL_law_887 : decode cL_law 887 = .ok (.invokevirtual 102, 3) := by decide +kernel
theorem dL_law_890 : decode cL_law 890 = .ok (.if_icmp .eq 315, 3) := by decide +kernel
theorem dL_law_893 : decode cL_law 893 = .ok (.iconst 0, 1) := by decide +kernel
theorem dL_law_894 : decode cL_law 894 = .ok (.ireturn, 1) := by decide +kernel
theorem dL_law_895 : decode cL_law 895 = .ok (.aload_n 1, 1) := by decide +kernel
theorem dL_law_896 : decode cL_law 896 = .ok (.aload_n 0, 1) := by decide +kernel
theorem dL_law_897 : decode cL_law 897 = .ok (.iload_n 3, 1) := by decide +kernel
theorem dL_law_898 : decode cL_law 898 = .ok (.iconst 1, 1) := by decide +kernel
theorem dL_law_899 : decode cL_law 899 = .ok (.iadd, 1) := by decide +kernel
theorem dL_law_900 : decode cL_law 900 = .ok (.iaload, 1) := by decide +kernel
theorem dL_law_901 : decode cL_law 901 = .ok (.aload_n 0, 1) := by decide +kernel
theorem dL_law_902 : decode cL_law 902 = .ok (.iload_n 3, 1) := by decide +kernel
theorem dL_law_903 : decode cL_law 903 = .ok (.iconst 2, 1) := by decide +kernel
theorem dL_law_904 : decode cL_law 904 = .ok (.iadd, 1) := by decide +kernel
theorem dL_law_905 : decode cL_law 905 = .ok (.iaload, 1) := by decide +kernel
theorem dL_law_906 : decode cL_law 906 = .ok (.invokevirtual 103, 3) := by decide +kernel
theorem dL_law_909 : decode cL_law 909 = .ok (.aload_n 2, 1) := by decide +kernel
theorem dL_law_910 : decode cL_law 910 = .ok (.aload_n 0, 1) := by decide +kernel
theorem dL_law_911 : decode cL_law 911 = .ok (.iload_n 3, 1) := by decide +kernel
theorem dL_law_912 : decode cL_law 912 = .ok (.iconst 1, 1) := by decide +kernel
theorem dL_law_913 : decode cL_law 913 = .ok (.iadd, 1) := by decide +kernel
theorem dL_law_914 : decode cL_law 914 = .ok (.iaload, 1) := by decide +kernel
theorem dL_law_915 : decode cL_law 915 = .ok (.aload_n 0, 1) := by decide +kernel
theorem dL_law_916 : decode cL_law 916 = .ok (.iload_n 3, 1) := by decide +kernel
theorem dL_law_917 : decode cL_law 917 = .ok (.iconst 2, 1) := by decide +kernel
theorem dL_law_918 : decode cL_law 918 = .ok (.iadd, 1) := by decide +kernel
theorem dL_law_919 : decode cL_law 919 = .ok (.iaload, 1) := by decide +kernel
theorem dL_law_920 : decode cL_law 920 = .ok (.invokevirtual 106, 3) := by decide +kernel
theorem dL_law_923 : decode cL_law 923 = .ok (.if_icmp .eq 282, 3) := by decide +kernel
theorem dL_law_926 : decode cL_law 926 = .ok (.iconst 0, 1) := by decide +kernel
theorem dL_law_927 : decode cL_law 927 = .ok (.ireturn, 1) := by decide +kernel
theorem dL_law_928 : decode cL_law 928 = .ok (.aload_n 1, 1) := by decide +kernel
theorem dL_law_929 : decode cL_law 929 = .ok (.aload_n 0, 1) := by decide +kernel
theorem dL_law_930 : decode cL_law 930 = .ok (.iload_n 3, 1) := by decide +kernel
theorem dL_law_931 : decode cL_law 931 = .ok (.iconst 1, 1) := by decide +kernel
theorem dL_law_932 : decode cL_law 932 = .ok (.iadd, 1) := by decide +kernel
theorem dL_law_933 : decode cL_law 933 = .ok (.iaload, 1) := by decide +kernel
theorem dL_law_934 : decode cL_law 934 = .ok (.aload_n 0, 1) := by decide +kernel
theorem dL_law_935 : decode cL_law 935 = .ok (.iload_n 3, 1) := by decide +kernel
theorem dL_law_936 : decode cL_law 936 = .ok (.iconst 2, 1) := by decide +kernel
theorem dL_law_937 : decode cL_law 937 = .ok (.iadd, 1) := by decide +kernel
theorem dL_law_938 : decode cL_law 938 = .ok (.iaload, 1) := by decide +kernel
theorem dL_law_939 : decode cL_law 939 = .ok (.invokevirtual 107, 3) := by decide +kernel
theorem dL_law_942 : decode cL_law 942 = .ok (.aload_n 2, 1) := by decide +kernel
theorem dL_law_943 : decode cL_law 943 = .ok (.aload_n 0, 1) := by decide +kernel
theorem dL_law_944 : decode cL_law 944 = .ok (.iload_n 3, 1) := by decide +kernel
theorem dL_law_945 : decode cL_law 945 = .ok (.iconst 1, 1) := by decide +kernel
theorem dL_law_946 : decode cL_law 946 = .ok (.iadd, 1) := by decide +kernel
theorem dL_law_947 : decode cL_law 947 = .ok (.iaload, 1) := by decide +kernel
theorem dL_law_948 : decode cL_law 948 = .ok (.aload_n 0, 1) := by decide +kernel
theorem dL_law_949 : decode cL_law 949 = .ok (.iload_n 3, 1) := by decide +kernel
theorem dL_law_950 : decode cL_law 950 = .ok (.iconst 2, 1) := by decide +kernel
theorem dL_law_951 : decode cL_law 951 = .ok (.iadd, 1) := by decide +kernel
theorem dL_law_952 : decode cL_law 952 = .ok (.iaload, 1) := by decide +kernel
theorem dL_law_953 : decode cL_law 953 = .ok (.invokevirtual 110, 3) := by decide +kernel
theorem dL_law_956 : decode cL_law 956 = .ok (.if_icmp .eq 249, 3) := by decide +kernel
theorem dL_law_959 : decode cL_law 959 = .ok (.iconst 0, 1) := by decide +kernel
theorem dL_law_960 : decode cL_law 960 = .ok (.ireturn, 1) := by decide +kernel
theorem dL_law_961 : decode cL_law 961 = .ok (.aload_n 1, 1) := by decide +kernel
theorem dL_law_962 : decode cL_law 962 = .ok (.aload_n 0, 1) := by decide +kernel
theorem dL_law_963 : decode cL_law 963 = .ok (.iload_n 3, 1) := by decide +kernel
theorem dL_law_964 : decode cL_law 964 = .ok (.iconst 1, 1) := by decide +kernel
theorem dL_law_965 : decode cL_law 965 = .ok (.iadd, 1) := by decide +kernel
theorem dL_law_966 : decode cL_law 966 = .ok (.iaload, 1) := by decide +kernel
theorem dL_law_967 : decode cL_law 967 = .ok (.aload_n 0, 1) := by decide +kernel
theorem dL_law_968 : decode cL_law 968 = .ok (.iload_n 3, 1) := by decide +kernel
theorem dL_law_969 : decode cL_law 969 = .ok (.iconst 2, 1) := by decide +kernel
theorem dL_law_970 : decode cL_law 970 = .ok (.iadd, 1) := by decide +kernel
theorem dL_law_971 : decode cL_law 971 = .ok (.iaload, 1) := by decide +kernel
theorem dL_law_972 : decode cL_law 972 = .ok (.aload_n 0, 1) := by decide +kernel
theorem dL_law_973 : decode cL_law 973 = .ok (.iload_n 3, 1) := by decide +kernel
theorem dL_law_974 : decode cL_law 974 = .ok (.iconst 3, 1) := by decide +kernel
theorem dL_law_975 : decode cL_law 975 = .ok (.iadd, 1) := by decide +kernel
theorem dL_law_976 : decode cL_law 976 = .ok (.iaload, 1) := by decide +kernel
theorem dL_law_977 : decode cL_law 977 = .ok (.invokevirtual 111, 3) := by decide +kernel
theorem dL_law_980 : decode cL_law 980 = .ok (.aload_n 2, 1) := by decide +kernel
theorem dL_law_981 : decode cL_law 981 = .ok (.aload_n 0, 1) := by decide +kernel
theorem dL_law_982 : decode cL_law 982 = .ok (.iload_n 3, 1) := by decide +kernel
theorem dL_law_983 : decode cL_law 983 = .ok (.iconst 1, 1) := by decide +kernel
theorem dL_law_984 : decode cL_law 984 = .ok (.iadd, 1) := by decide +kernel
theorem dL_law_985 : decode cL_law 985 = .ok (.iaload, 1) := by decide +kernel
theorem dL_law_986 : decode cL_law 986 = .ok (.aload_n 0, 1) := by decide +kernel
theorem dL_law_987 : decode cL_law 987 = .ok (.iload_n 3, 1) := by decide +kernel
theorem dL_law_988 : decode cL_law 988 = .ok (.iconst 2, 1) := by decide +kernel
theorem dL_law_989 : decode cL_law 989 = .ok (.iadd, 1) := by decide +kernel
theorem dL_law_990 : decode cL_law 990 = .ok (.iaload, 1) := by decide +kernel
theorem dL_law_991 : decode cL_law 991 = .ok (.aload_n 0, 1) := by decide +kernel
theorem dL_law_992 : decode cL_law 992 = .ok (.iload_n 3, 1) := by decide +kernel
theorem dL_law_993 : decode cL_law 993 = .ok (.iconst 3, 1) := by decide +kernel
theorem dL_law_994 : decode cL_law 994 = .ok (.iadd, 1) := by decide +kernel
theorem dL_law_995 : decode cL_law 995 = .ok (.iaload, 1) := by decide +kernel
theorem dL_law_996 : decode cL_law 996 = .ok (.invokevirtual 114, 3) := by decide +kernel
theorem dL_law_999 : decode cL_law 999 = .ok (.if_icmp .eq 206, 3) := by decide +kernel
theorem dL_law_1002 : decode cL_law 1002 = .ok (.iconst 0, 1) := by decide +kernel
theorem dL_law_1003 : decode cL_law 1003 = .ok (.ireturn, 1) := by decide +kernel
theorem dL_law_1004 : decode cL_law 1004 = .ok (.aload_n 1, 1) := by decide +kernel
theorem dL_law_1005 : decode cL_law 1005 = .ok (.aload_n 0, 1) := by decide +kernel
theorem dL_law_1006 : decode cL_law 1006 = .ok (.iload_n 3, 1) := by decide +kernel
theorem dL_law_1007 : decode cL_law 1007 = .ok (.iconst 1, 1) := by decide +kernel
theorem dL_law_1008 : decode cL_law 1008 = .ok (.iadd, 1) := by decide +kernel
theorem dL_law_1009 : decode cL_law 1009 = .ok (.iaload, 1) := by decide +kernel
theorem dL_law_1010 : decode cL_law 1010 = .ok (.aload_n 0, 1) := by decide +kernel
theorem dL_law_1011 : decode cL_law 1011 = .ok (.iload_n 3, 1) := by decide +kernel
theorem dL_law_1012 : decode cL_law 1012 = .ok (.iconst 2, 1) := by decide +kernel
theorem dL_law_1013 : decode cL_law 1013 = .ok (.iadd, 1) := by decide +kernel
theorem dL_law_1014 : decode cL_law 1014 = .ok (.iaload, 1) := by decide +kernel
theorem dL_law_1015 : decode cL_law 1015 = .ok (.aload_n 0, 1) := by decide +kernel
theorem dL_law_1016 : decode cL_law 1016 = .ok (.iload_n 3, 1) := by decide +kernel
theorem dL_law_1017 : decode cL_law 1017 = .ok (.iconst 3, 1) := by decide +kernel
theorem dL_law_1018 : decode cL_law 1018 = .ok (.iadd, 1) := by decide +kernel
theorem dL_law_1019 : decode cL_law 1019 = .ok (.iaload, 1) := by decide +kernel
theorem dL_law_1020 : decode cL_law 1020 = .ok (.invokevirtual 115, 3) := by decide +kernel
theorem dL_law_1023 : decode cL_law 1023 = .ok (.aload_n 2, 1) := by decide +kernel
theorem dL_law_1024 : decode cL_law 1024 = .ok (.aload_n 0, 1) := by decide +kernel
theorem dL_law_1025 : decode cL_law 1025 = .ok (.iload_n 3, 1) := by decide +kernel
theorem dL_law_1026 : decode cL_law 1026 = .ok (.iconst 1, 1) := by decide +kernel
theorem dL_law_1027 : decode cL_law 1027 = .ok (.iadd, 1) := by decide +kernel
theorem dL_law_1028 : decode cL_law 1028 = .ok (.iaload, 1) := by decide +kernel
theorem dL_law_1029 : decode cL_law 1029 = .ok (.aload_n 0, 1) := by decide +kernel
theorem dL_law_1030 : decode cL_law 1030 = .ok (.iload_n 3, 1) := by decide +kernel
theorem dL_law_1031 : decode cL_law 1031 = .ok (.iconst 2, 1) := by decide +kernel
theorem dL_law_1032 : decode cL_law 1032 = .ok (.iadd, 1) := by decide +kernel
theorem dL_law_1033 : decode cL_law 1033 = .ok (.iaload, 1) := by decide +kernel
theorem dL_law_1034 : decode cL_law 1034 = .ok (.aload_n 0, 1) := by decide +kernel
theorem dL_law_1035 : decode cL_law 1035 = .ok (.iload_n 3, 1) := by decide +kernel
theorem dL_law_1036 : decode cL_law 1036 = .ok (.iconst 3, 1) := by decide +kernel
theorem dL_law_1037 : decode cL_law 1037 = .ok (.iadd, 1) := by decide +kernel
theorem dL_law_1038 : decode cL_law 1038 = .ok (.iaload, 1) := by decide +kernel
theorem dL_law_1039 : decode cL_law 1039 = .ok (.invokevirtual 118, 3) := by decide +kernel
theorem dL_law_1042 : decode cL_law 1042 = .ok (.if_icmp .eq 163, 3) := by decide +kernel
theorem dL_law_1045 : decode cL_law 1045 = .ok (.iconst 0, 1) := by decide +kernel
theorem dL_law_1046 : decode cL_law 1046 = .ok (.ireturn, 1) := by decide +kernel
theorem dL_law_1047 : decode cL_law 1047 = .ok (.aload_n 1, 1) := by decide +kernel
theorem dL_law_1048 : decode cL_law 1048 = .ok (.aload_n 0, 1) := by decide +kernel
theorem dL_law_1049 : decode cL_law 1049 = .ok (.iload_n 3, 1) := by decide +kernel
theorem dL_law_1050 : decode cL_law 1050 = .ok (.iconst 1, 1) := by decide +kernel
theorem dL_law_1051 : decode cL_law 1051 = .ok (.iadd, 1) := by decide +kernel
theorem dL_law_1052 : decode cL_law 1052 = .ok (.iaload, 1) := by decide +kernel
theorem dL_law_1053 : decode cL_law 1053 = .ok (.invokevirtual 119, 3) := by decide +kernel
theorem dL_law_1056 : decode cL_law 1056 = .ok (.aload_n 2, 1) := by decide +kernel
theorem dL_law_1057 : decode cL_law 1057 = .ok (.aload_n 0, 1) := by decide +kernel
theorem dL_law_1058 : decode cL_law 1058 = .ok (.iload_n 3, 1) := by decide +kernel
theorem dL_law_1059 : decode cL_law 1059 = .ok (.iconst 1, 1) := by decide +kernel
theorem dL_law_1060 : decode cL_law 1060 = .ok (.iadd, 1) := by decide +kernel
theorem dL_law_1061 : decode cL_law 1061 = .ok (.iaload, 1) := by decide +kernel
theorem dL_law_1062 : decode cL_law 1062 = .ok (.invokevirtual 122, 3) := by decide +kernel
theorem dL_law_1065 : decode cL_law 1065 = .ok (.if_icmp .eq 140, 3) := by decide +kernel
theorem dL_law_1068 : decode cL_law 1068 = .ok (.iconst 0, 1) := by decide +kernel
theorem dL_law_1069 : decode cL_law 1069 = .ok (.ireturn, 1) := by decide +kernel
theorem dL_law_1070 : decode cL_law 1070 = .ok (.aload_n 1, 1) := by decide +kernel
theorem dL_law_1071 : decode cL_law 1071 = .ok (.aload_n 0, 1) := by decide +kernel
theorem dL_law_1072 : decode cL_law 1072 = .ok (.iload_n 3, 1) := by decide +kernel
theorem dL_law_1073 : decode cL_law 1073 = .ok (.iconst 1, 1) := by decide +kernel
theorem dL_law_1074 : decode cL_law 1074 = .ok (.iadd, 1) := by decide +kernel
theorem dL_law_1075 : decode cL_law 1075 = .ok (.iaload, 1) := by decide +kernel
theorem dL_law_1076 : decode cL_law 1076 = .ok (.aload_n 0, 1) := by decide +kernel
theorem dL_law_1077 : decode cL_law 1077 = .ok (.iload_n 3, 1) := by decide +kernel
theorem dL_law_1078 : decode cL_law 1078 = .ok (.iconst 2, 1) := by decide +kernel
theorem dL_law_1079 : decode cL_law 1079 = .ok (.iadd, 1) := by decide +kernel
theorem dL_law_1080 : decode cL_law 1080 = .ok (.iaload, 1) := by decide +kernel
theorem dL_law_1081 : decode cL_law 1081 = .ok (.invokevirtual 123, 3) := by decide +kernel
theorem dL_law_1084 : decode cL_law 1084 = .ok (.aload_n 2, 1) := by decide +kernel
theorem dL_law_1085 : decode cL_law 1085 = .ok (.aload_n 0, 1) := by decide +kernel
theorem dL_law_1086 : decode cL_law 1086 = .ok (.iload_n 3, 1) := by decide +kernel
theorem dL_law_1087 : decode cL_law 1087 = .ok (.iconst 1, 1) := by decide +kernel
theorem dL_law_1088 : decode cL_law 1088 = .ok (.iadd, 1) := by decide +kernel
theorem dL_law_1089 : decode cL_law 1089 = .ok (.iaload, 1) := by decide +kernel
theorem dL_law_1090 : decode cL_law 1090 = .ok (.aload_n 0, 1) := by decide +kernel
theorem dL_law_1091 : decode cL_law 1091 = .ok (.iload_n 3, 1) := by decide +kernel
theorem dL_law_1092 : decode cL_law 1092 = .ok (.iconst 2, 1) := by decide +kernel
theorem dL_law_1093 : decode cL_law 1093 = .ok (.iadd, 1) := by decide +kernel
theorem dL_law_1094 : decode cL_law 1094 = .ok (.iaload, 1) := by decide +kernel
theorem dL_law_1095 : decode cL_law 1095 = .ok (.invokevirtual 126, 3) := by decide +kernel
theorem dL_law_1098 : decode cL_law 1098 = .ok (.if_icmp .eq 107, 3) := by decide +kernel
theorem dL_law_1101 : decode cL_law 1101 = .ok (.iconst 0, 1) := by decide +kernel
theorem dL_law_1102 : decode cL_law 1102 = .ok (.ireturn, 1) := by decide +kernel
theorem dL_law_1103 : decode cL_law 1103 = .ok (.aload_n 1, 1) := by decide +kernel
theorem dL_law_1104 : decode cL_law 1104 = .ok (.aload_n 0, 1) := by decide +kernel
theorem dL_law_1105 : decode cL_law 1105 = .ok (.iload_n 3, 1) := by decide +kernel
theorem dL_law_1106 : decode cL_law 1106 = .ok (.iconst 1, 1) := by decide +kernel
theorem dL_law_1107 : decode cL_law 1107 = .ok (.iadd, 1) := by decide +kernel
theorem dL_law_1108 : decode cL_law 1108 = .ok (.iaload, 1) := by decide +kernel
theorem dL_law_1109 : decode cL_law 1109 = .ok (.invokevirtual 127, 3) := by decide +kernel
theorem dL_law_1112 : decode cL_law 1112 = .ok (.aload_n 2, 1) := by decide +kernel
theorem dL_law_1113 : decode cL_law 1113 = .ok (.aload_n 0, 1) := by decide +kernel
theorem dL_law_1114 : decode cL_law 1114 = .ok (.iload_n 3, 1) := by decide +kernel
theorem dL_law_1115 : decode cL_law 1115 = .ok (.iconst 1, 1) := by decide +kernel
theorem dL_law_1116 : decode cL_law 1116 = .ok (.iadd, 1) := by decide +kernel
theorem dL_law_1117 : decode cL_law 1117 = .ok (.iaload, 1) := by decide +kernel
theorem dL_law_1118 : decode cL_law 1118 = .ok (.invokevirtual 130, 3) := by decide +kernel
theorem dL_law_1121 : decode cL_law 1121 = .ok (.if_icmp .eq 84, 3) := by decide +kernel
theorem dL_law_1124 : decode cL_law 1124 = .ok (.iconst 0, 1) := by decide +kernel
theorem dL_law_1125 : decode cL_law 1125 = .ok (.ireturn, 1) := by decide +kernel
theorem dL_law_1126 : decode cL_law 1126 = .ok (.aload_n 1, 1) := by decide +kernel
theorem dL_law_1127 : decode cL_law 1127 = .ok (.aload_n 0, 1) := by decide +kernel
theorem dL_law_1128 : decode cL_law 1128 = .ok (.iload_n 3, 1) := by decide +kernel
theorem dL_law_1129 : decode cL_law 1129 = .ok (.iconst 1, 1) := by decide +kernel
theorem dL_law_1130 : decode cL_law 1130 = .ok (.iadd, 1) := by decide +kernel
theorem dL_law_1131 : decode cL_law 1131 = .ok (.iaload, 1) := by decide +kernel
theorem dL_law_1132 : decode cL_law 1132 = .ok (.invokevirtual 131, 3) := by decide +kernel
theorem dL_law_1135 : decode cL_law 1135 = .ok (.aload_n 2, 1) := by decide +kernel
theorem dL_law_1136 : decode cL_law 1136 = .ok (.aload_n 0, 1) := by decide +kernel
theorem dL_law_1137 : decode cL_law 1137 = .ok (.iload_n 3, 1) := by decide +kernel
theorem dL_law_1138 : decode cL_law 1138 = .ok (.iconst 1, 1) := by decide +kernel
theorem dL_law_1139 : decode cL_law 1139 = .ok (.iadd, 1) := by decide +kernel
theorem dL_law_1140 : decode cL_law 1140 = .ok (.iaload, 1) := by decide +kernel
theorem dL_law_1141 : decode cL_law 1141 = .ok (.invokevirtual 134, 3) := by decide +kernel
theorem dL_law_1144 : decode cL_law 1144 = .ok (.if_icmp .eq 61, 3) := by decide +kernel
theorem dL_law_1147 : decode cL_law 1147 = .ok (.iconst 0, 1) := by decide +kernel
theorem dL_law_1148 : decode cL_law 1148 = .ok (.ireturn, 1) := by decide +kernel
theorem dL_law_1149 : decode cL_law 1149 = .ok (.aload_n 1, 1) := by decide +kernel
theorem dL_law_1150 : decode cL_law 1150 = .ok (.aload_n 0, 1) := by decide +kernel
theorem dL_law_1151 : decode cL_law 1151 = .ok (.iload_n 3, 1) := by decide +kernel
theorem dL_law_1152 : decode cL_law 1152 = .ok (.iconst 1, 1) := by decide +kernel
theorem dL_law_1153 : decode cL_law 1153 = .ok (.iadd, 1) := by decide +kernel
theorem dL_law_1154 : decode cL_law 1154 = .ok (.iaload, 1) := by decide +kernel
theorem dL_law_1155 : decode cL_law 1155 = .ok (.aload_n 0, 1) := by decide +kernel
theorem dL_law_1156 : decode cL_law 1156 = .ok (.iload_n 3, 1) := by decide +kernel
theorem dL_law_1157 : decode cL_law 1157 = .ok (.iconst 2, 1) := by decide +kernel
theorem dL_law_1158 : decode cL_law 1158 = .ok (.iadd, 1) := by decide +kernel
theorem dL_law_1159 : decode cL_law 1159 = .ok (.iaload, 1) := by decide +kernel
theorem dL_law_1160 : decode cL_law 1160 = .ok (.invokevirtual 135, 3) := by decide +kernel
theorem dL_law_1163 : decode cL_law 1163 = .ok (.aload_n 2, 1) := by decide +kernel
theorem dL_law_1164 : decode cL_law 1164 = .ok (.aload_n 0, 1) := by decide +kernel
theorem dL_law_1165 : decode cL_law 1165 = .ok (.iload_n 3, 1) := by decide +kernel
theorem dL_law_1166 : decode cL_law 1166 = .ok (.iconst 1, 1) := by decide +kernel
theorem dL_law_1167 : decode cL_law 1167 = .ok (.iadd, 1) := by decide +kernel
theorem dL_law_1168 : decode cL_law 1168 = .ok (.iaload, 1) := by decide +kernel
theorem dL_law_1169 : decode cL_law 1169 = .ok (.aload_n 0, 1) := by decide +kernel
theorem dL_law_1170 : decode cL_law 1170 = .ok (.iload_n 3, 1) := by decide +kernel
theorem dL_law_1171 : decode cL_law 1171 = .ok (.iconst 2, 1) := by decide +kernel
theorem dL_law_1172 : decode cL_law 1172 = .ok (.iadd, 1) := by decide +kernel
theorem dL_law_1173 : decode cL_law 1173 = .ok (.iaload, 1) := by decide +kernel
theorem dL_law_1174 : decode cL_law 1174 = .ok (.invokevirtual 138, 3) := by decide +kernel
theorem dL_law_1177 : decode cL_law 1177 = .ok (.if_icmp .eq 28, 3) := by decide +kernel
theorem dL_law_1180 : decode cL_law 1180 = .ok (.iconst 0, 1) := by decide +kernel
theorem dL_law_1181 : decode cL_law 1181 = .ok (.ireturn, 1) := by decide +kernel
theorem dL_law_1182 : decode cL_law 1182 = .ok (.aload_n 1, 1) := by decide +kernel
theorem dL_law_1183 : decode cL_law 1183 = .ok (.aload_n 0, 1) := by decide +kernel
theorem dL_law_1184 : decode cL_law 1184 = .ok (.iload_n 3, 1) := by decide +kernel
theorem dL_law_1185 : decode cL_law 1185 = .ok (.iconst 1, 1) := by decide +kernel
theorem dL_law_1186 : decode cL_law 1186 = .ok (.iadd, 1) := by decide +kernel
theorem dL_law_1187 : decode cL_law 1187 = .ok (.iaload, 1) := by decide +kernel
theorem dL_law_1188 : decode cL_law 1188 = .ok (.invokevirtual 139, 3) := by decide +kernel
theorem dL_law_1191 : decode cL_law 1191 = .ok (.aload_n 2, 1) := by decide +kernel
theorem dL_law_1192 : decode cL_law 1192 = .ok (.aload_n 0, 1) := by decide +kernel
theorem dL_law_1193 : decode cL_law 1193 = .ok (.iload_n 3, 1) := by decide +kernel
theorem dL_law_1194 : decode cL_law 1194 = .ok (.iconst 1, 1) := by decide +kernel
theorem dL_law_1195 : decode cL_law 1195 = .ok (.iadd, 1) := by decide +kernel
theorem dL_law_1196 : decode cL_law 1196 = .ok (.iaload, 1) := by decide +kernel
theorem dL_law_1197 : decode cL_law 1197 = .ok (.invokevirtual 142, 3) := by decide +kernel
theorem dL_law_1200 : decode cL_law 1200 = .ok (.if_icmp .eq 5, 3) := by decide +kernel
theorem dL_law_1203 : decode cL_law 1203 = .ok (.iconst 0, 1) := by decide +kernel
theorem dL_law_1204 : decode cL_law 1204 = .ok (.ireturn, 1) := by decide +kernel
theorem dL_law_1205 : decode cL_law 1205 = .ok (.iinc 3 6, 3) := by decide +kernel
theorem dL_law_1208 : decode cL_law 1208 = .ok (.goto (-1190), 3) := by decide +kernel
theorem dL_law_1211 : decode cL_law 1211 = .ok (.iconst 1, 1) := by decide +kernel
theorem dL_law_1212 : decode cL_law 1212 = .ok (.ireturn, 1) := by decide +kernel
end
section
/-! THE PURE MEMORY. Cells by their offset from the law's own start: the i-th cell that the run makes has the offset i. mI, mL, mR: the ints, longs and references at a place of a cell; mT its kind, mN its length, mZ how many cells there are. Kinds 0..9: the objects by their places in vwCl; 10 byte[], 11 int[], 12 long[], 13 boolean[], 14 Rule[], 15 Slot[], 16 int[][] -/
abbrev pm_M : Type := (Nat → Nat → Int32) × (Nat → Nat → Int64) × (Nat → Nat → Option Nat) × (Nat → Nat) × (Nat → Nat) × Nat
def mI (M : pm_M) : Nat → Nat → Int32 := M.1
def mL (M : pm_M) : Nat → Nat → Int64 := M.2.1
def mR (M : pm_M) : Nat → Nat → Option Nat := M.2.2.1
def mT (M : pm_M) : Nat → Nat := M.2.2.2.1
def mN (M : pm_M) : Nat → Nat := M.2.2.2.2.1
def mZ (M : pm_M) : Nat := M.2.2.2.2.2
def pm_up {α : Type} (f : Nat → Nat → α) (a k : Nat) (v : α) : Nat → Nat → α := fun b j => if b = a ∧ j = k then v else f b j
def sI (M : pm_M) (a k : Nat) (v : Int32) : pm_M := (pm_up M.1 a k v, M.2)
def sL (M : pm_M) (a k : Nat) (v : Int64) : pm_M := (M.1, pm_up M.2.1 a k v, M.2.2)
def sR (M : pm_M) (a k : Nat) (v : Option Nat) : pm_M := (M.1, M.2.1, pm_up M.2.2.1 a k v, M.2.2.2)
/-- a new cell of the kind t with n places, all 0 or null -/
def sN (M : pm_M) (t n : Nat) : pm_M := (fun b j => if b = mZ M then 0 else mI M b j, fun b j => if b = mZ M then 0 else mL M b j, fun b j => if b = mZ M then none else mR M b j, fun b => if b = mZ M then t else mT M b, fun b => if b = mZ M then n else mN M b, mZ M + 1)
/-- n longs copied -/
def sC (M : pm_M) (a i b j n : Nat) : pm_M := (M.1, fun d => if d = b then va_cpy (mL M a) (mL M b) i j n else mL M d, M.2.2)
/-- new int[n][k] -/
def sM (M : pm_M) (n k : Nat) : pm_M := (fun b j => if mZ M ≤ b then 0 else mI M b j, fun b j => if mZ M ≤ b then 0 else mL M b j, fun b j => if mZ M ≤ b then (if b = mZ M ∧ j < n then some (mZ M + 1 + j) else none) else mR M b j, fun b => if mZ M ≤ b then (if b = mZ M then 16 else 11) else mT M b, fun b => if mZ M ≤ b then (if b = mZ M then n else k) else mN M b, mZ M + 1 + n)
/-- the kind that a reference at place k of a cell of kind t points to; 99: an int lies there -/
def pm_rt : Nat → Nat → Nat
  | 0, 0 => 11 | 0, 1 => 11
  | 1, 1 => 4 | 1, 2 => 4
  | 2, 0 => 11
  | 3, 0 => 5
  | 4, 4 => 10
  | 5, 0 => 12
  | 6, 0 => 12 | 6, 1 => 11
  | 7, 0 => 16 | 7, 1 => 16 | 7, 2 => 11
  | 8, 0 => 15 | 8, 1 => 14 | 8, 2 => 11 | 8, 3 => 11 | 8, 4 => 3 | 8, 5 => 6 | 8, 6 => 0 | 8, 7 => 2 | 8, 8 => 7
  | 9, 2 => 11 | 9, 4 => 13 | 9, 5 => 10 | 9, 6 => 11 | 9, 7 => 11 | 9, 8 => 11 | 9, 9 => 11 | 9, 10 => 11 | 9, 11 => 11 | 9, 12 => 11 | 9, 13 => 12 | 9, 14 => 12 | 9, 18 => 11 | 9, 19 => 11 | 9, 20 => 11 | 9, 21 => 11 | 9, 22 => 11 | 9, 23 => 10 | 9, 24 => 11 | 9, 25 => 11
  | 14, _ => 4
  | 15, _ => 5
  | 16, _ => 11
  | _, _ => 99
def pm_nf : Nat → Nat
  | 0 => 3 | 1 => 5 | 2 => 2 | 3 => 3 | 4 => 5 | 5 => 3 | 6 => 6 | 7 => 5 | 8 => 12 | 9 => 26 | _ => 0
abbrev pm_G : Type := va_G × (Nat → ClassId)
def pm_rf (z : Nat) (x : Option Nat) : Value := va_rf (x.map (fun q => z + q))
def pm_val (z : Nat) (M : pm_M) (t a k : Nat) : Value := if pm_rt t k = 99 then .int (mI M a k) else pm_rf z (mR M a k)
def pm_fs (z : Nat) (M : pm_M) (t a : Nat) : List Value := (List.range (pm_nf t)).map (fun k => pm_val z M t a k)
def pm_cell (G : pm_G) (z : Nat) (M : pm_M) (a : Nat) : va_E :=
  if mT M a < 10 then .inr (mT M a, pm_fs z M (mT M a) a)
  else if mT M a = 12 then .inl (G.2 12, mN M a, .inr (.inl (mL M a)))
  else if mT M a < 14 then .inl (G.2 (mT M a), mN M a, .inl (mI M a))
  else .inl (G.2 (mT M a), mN M a, .inr (.inr (.inr (.inr (fun j => (mR M a j).map (fun q => z + q))))))
def pm_W (G : pm_G) (z : Nat) (M : pm_M) : va_W := (List.range (mZ M)).map (fun a => (z + a, pm_cell G z M a))
def pm_is (M : pm_M) (a t : Nat) : Prop := a < mZ M ∧ mT M a = t
def pm_T (M : pm_M) : Prop := ∀ a k b : Nat, a < mZ M → mR M a k = some b → pm_is M b (pm_rt (mT M a) k)
def pm_I (G : pm_G) (H0 : Heap) (M : pm_M) (H : Heap) (locs : List Loc) : Prop :=
  H.size = H0.size + mZ M ∧ va_P G.1 vwCl (pm_W G H0.size M) H ∧ va_S (fun q : Nat => H0.size ≤ q) H0 H locs ∧ pm_T M
/-- kinds and lengths stay -/
def pm_X (M M' : pm_M) : Prop := mZ M ≤ mZ M' ∧ ∀ a, a < mZ M → mT M' a = mT M a ∧ mN M' a = mN M a
theorem pm_X.rf {M : pm_M} : pm_X M M := ⟨Nat.le_refl _, fun _ _ => ⟨rfl, rfl⟩⟩
theorem pm_X.tr {M M' M'' : pm_M} (h : pm_X M M') (g : pm_X M' M'') : pm_X M M'' := ⟨Nat.le_trans h.1 g.1, fun a ha => by
  have h1 := h.2 a ha
  have h2 := g.2 a (Nat.lt_of_lt_of_le ha h.1)
  exact ⟨h2.1.trans h1.1, h2.2.trans h1.2⟩⟩
theorem pm_is.x {M M' : pm_M} {a t : Nat} (h : pm_is M a t) (g : pm_X M M') : pm_is M' a t := ⟨Nat.lt_of_lt_of_le h.1 g.1, (g.2 a h.1).1.trans h.2⟩
theorem pm_X.n {M : pm_M} {t n : Nat} : pm_X M (sN M t n) := ⟨Nat.le_succ _, fun a ha => ⟨if_neg (Nat.ne_of_lt ha), if_neg (Nat.ne_of_lt ha)⟩⟩
theorem pm_X.m {M : pm_M} {n k : Nat} : pm_X M (sM M n k) := ⟨by show mZ M ≤ mZ M + 1 + n; omega, fun a ha => ⟨if_neg (Nat.not_le.mpr ha), if_neg (Nat.not_le.mpr ha)⟩⟩
theorem pm_is.new {M : pm_M} {t n : Nat} : pm_is (sN M t n) (mZ M) t := ⟨Nat.lt_succ_self _, if_pos rfl⟩
theorem pm_up_s {α : Type} {f : Nat → Nat → α} {a k : Nat} {v : α} : pm_up f a k v a k = v := if_pos ⟨rfl, rfl⟩
theorem pm_up_n {α : Type} {f : Nat → Nat → α} {a k b j : Nat} {v : α} (h : ¬ (b = a ∧ j = k)) : pm_up f a k v b j = f b j := if_neg h
theorem pm_up_r {α : Type} {f : Nat → Nat → α} {a k b : Nat} {v : α} (h : b ≠ a) : pm_up f a k v b = f b := funext fun _ => pm_up_n (fun q => h q.1)
theorem pm_get {G : pm_G} {z : Nat} {M : pm_M} {a : Nat} (h : a < mZ M) : (pm_W G z M)[a]? = some (z + a, pm_cell G z M a) := by
  simp [pm_W, h]
theorem pm_get' {G : pm_G} {z : Nat} {M : pm_M} {a : Nat} {q : Nat × va_E} (h : (pm_W G z M)[a]? = some q) : a < mZ M ∧ q = (z + a, pm_cell G z M a) := by
  have hl := (List.getElem?_eq_some_iff.mp h).1
  have hz : a < mZ M := by simpa [pm_W] using hl
  rw [pm_get hz] at h
  exact ⟨hz, (Option.some.inj h).symm⟩
theorem pm_D {G : pm_G} {z : Nat} {M : pm_M} : va_D (fun q : Nat => z ≤ q) (pm_W G z M) := by
  refine ⟨fun i j x y hi hj hxy => ?_, fun k q hk => ?_⟩
  · have h1 := (pm_get' hi).2
    have h2 := (pm_get' hj).2
    rw [h1, h2] at hxy
    exact Nat.add_left_cancel hxy
  · rw [(pm_get' hk).2]
    exact Nat.le_add_right _ _
theorem pm_set {G : pm_G} {z : Nat} {M M' : pm_M} {a : Nat} {e : va_E} (hZ : mZ M' = mZ M) (he : e = pm_cell G z M' a) (ho : ∀ b, b ≠ a → pm_cell G z M' b = pm_cell G z M b) : (pm_W G z M).set a (z + a, e) = pm_W G z M' := by
  apply List.ext_getElem?
  intro i
  by_cases hi : i < mZ M
  · by_cases e1 : i = a
    · subst e1
      rw [List.getElem?_set_self (by simpa [pm_W] using hi), pm_get (by rw [hZ]; exact hi), he]
    · rw [List.getElem?_set_ne (Ne.symm e1), pm_get hi, pm_get (by rw [hZ]; exact hi), ho i e1]
  · rw [List.getElem?_eq_none (by simp [pm_W]; omega), List.getElem?_eq_none (by simp [pm_W]; omega)]
theorem pm_W_push {G : pm_G} {z : Nat} {M M' : pm_M} {e : va_E} (hZ : mZ M' = mZ M + 1) (he : e = pm_cell G z M' (mZ M)) (ho : ∀ b, b < mZ M → pm_cell G z M' b = pm_cell G z M b) : pm_W G z M ++ [(z + mZ M, e)] = pm_W G z M' := by
  unfold pm_W
  rw [hZ, List.range_succ, List.map_append, List.map_singleton, he]
  congr 1
  apply List.map_congr_left
  intro b hb
  rw [ho b (List.mem_range.mp hb)]
theorem pm_cell_o {G : pm_G} {z : Nat} {M : pm_M} {a t : Nat} (h : mT M a = t) (ht : t < 10) : pm_cell G z M a = .inr (t, pm_fs z M t a) := by
  subst h
  exact if_pos ht
theorem pm_cell_i {G : pm_G} {z : Nat} {M : pm_M} {a t : Nat} (h : mT M a = t) (ht : t = 10 ∨ t = 11 ∨ t = 13) : pm_cell G z M a = .inl (G.2 t, mN M a, .inl (mI M a)) := by
  subst h
  unfold pm_cell
  rw [if_neg (by omega), if_neg (by omega), if_pos (by omega)]
theorem pm_cell_l {G : pm_G} {z : Nat} {M : pm_M} {a : Nat} (h : mT M a = 12) : pm_cell G z M a = .inl (G.2 12, mN M a, .inr (.inl (mL M a))) := by
  unfold pm_cell
  rw [if_neg (by omega), if_pos (by omega)]
theorem pm_cell_r {G : pm_G} {z : Nat} {M : pm_M} {a t : Nat} (h : mT M a = t) (ht : 14 ≤ t) : pm_cell G z M a = .inl (G.2 t, mN M a, .inr (.inr (.inr (.inr (fun j => (mR M a j).map (fun q => z + q)))))) := by
  subst h
  unfold pm_cell
  rw [if_neg (by omega), if_neg (by omega), if_neg (by omega)]
theorem pm_fs_len {z : Nat} {M : pm_M} {t a : Nat} : (pm_fs z M t a).length = pm_nf t := by simp [pm_fs]
theorem pm_fs_at {z : Nat} {M : pm_M} {t a k : Nat} (h : k < pm_nf t) : (pm_fs z M t a)[k]? = some (pm_val z M t a k) := by simp [pm_fs, h]
theorem pm_fs_set {z : Nat} {M M' : pm_M} {t a k : Nat} {v : Value} (hv : pm_val z M' t a k = v) (ho : ∀ j, j ≠ k → pm_val z M' t a j = pm_val z M t a j) : (pm_fs z M t a).set k v = pm_fs z M' t a := by
  apply List.ext_getElem?
  intro i
  by_cases hi : i < pm_nf t
  · by_cases e1 : i = k
    · subst e1
      rw [List.getElem?_set_self (by rw [pm_fs_len]; exact hi), pm_fs_at hi, hv]
    · rw [List.getElem?_set_ne (Ne.symm e1), pm_fs_at hi, pm_fs_at hi, ho i e1]
  · rw [List.getElem?_eq_none (by simp [pm_fs]; omega), List.getElem?_eq_none (by simp [pm_fs]; omega)]
theorem pm_cell_same {G : pm_G} {z : Nat} {M M' : pm_M} {b : Nat} (hI : mI M' b = mI M b) (hL : mL M' b = mL M b) (hR : mR M' b = mR M b) (hT : mT M' b = mT M b) (hN : mN M' b = mN M b) : pm_cell G z M' b = pm_cell G z M b := by
  unfold pm_cell pm_fs pm_val
  rw [hI, hL, hR, hT, hN]
/-! what holds of the tables, everywhere -/
def pm_tys (G : pm_G) : List (ClassId × FieldType) := [(G.2 10, .byte), (G.2 11, .int), (G.2 12, .long), (G.2 13, .boolean), (G.2 14, .object RX5), (G.2 15, .object RX6), (G.2 16, .array .int)]
def pm_nest : Cond → Bool
  | .fieldLinkNest _ _ _ _ _ _ => true
  | .methodLinkNest _ _ _ _ => true
  | _ => false
def yX1_fits : MethodName := ⟨RX1, "fits", "(I)Z"⟩
def pm_Fw (U : State) : Prop := va_Fw RX0 yX1_fits yX0_fits U ∧ va_Fw RX2 yX1_fits yX2_fits U ∧ va_Fw RX3 yX1_fits yX3_fits U ∧ va_Fw RX7 yX1_fits yX7_fits U ∧ va_Fw RX8 yX1_fits yX8_fits U
/-- the class of int[][] has int[] for its component -/
def pm_A2 (G : pm_G) (U : State) : Prop := ∃ k : Class, U.vm.classes[G.2 16]? = some k ∧ k.kind = .array (G.2 11) (.array .int)
theorem pm_A2.moved {G : pm_G} {u U : State} (hvm : u.vm.Alike U.vm) (h : pm_A2 G u) : pm_A2 G U := by
  obtain ⟨k, h1, h2⟩ := h
  obtain ⟨k', hk', he⟩ := hvm.2.2 _ _ h1
  exact ⟨k', hk', by rw [he]; exact h2⟩
def pm_AO (G : pm_G) (U : State) : Prop := va_AO RX5 U ∧ va_AO RX6 U ∧ pm_A2 G U
def pm_K (G : pm_G) (U : State) : Prop := va_K G.1 vwCl (pm_tys G) U ∧ (∀ w ∈ lw_tbl, goodWord w = true → w.before #[] U = true) ∧ (∀ w ∈ lw_tbl, pm_nest w = true → va_Nw w U) ∧ pm_Fw U ∧ pm_AO G U
theorem pm_K.warm {G : pm_G} {s U : State} (hW : s.WarmedH U.vm) (h : pm_K G s) : pm_K G U := by
  obtain ⟨h1, h2, h3, ⟨f1, f2, f3, f4, f5⟩, g1, g2, g3⟩ := h
  refine ⟨h1.moved hW.alike, fun w hw hg => word_at hW (good_of_word hg) (h2 w hw hg), fun w hw hg => ?_, ⟨f1.moved (by decide) hW.alike, f2.moved (by decide) hW.alike, f3.moved (by decide) hW.alike, f4.moved (by decide) hW.alike, f5.moved (by decide) hW.alike⟩, g1.moved hW.alike, g2.moved hW.alike, g3.moved hW.alike⟩
  have h4 := h3 w hw hg
  cases w <;> first | (exact va_Nw.warmF hW h4) | (exact va_Nw.warmM hW h4) | (exact absurd hg (by simp [pm_nest]))
def pm_tbl : List Cond := lw_tbl.filter goodWord
theorem pm_tbl_ok {G : pm_G} {s : State} {args : Array Value} (h : pm_K G s) : ∀ w ∈ pm_tbl, w.before args s = true := by
  intro w hw
  obtain ⟨h1, h2⟩ := List.mem_filter.mp hw
  exact word_at (State.WarmedH.refl s) (good_of_word h2) (h.2.1 w h1 h2)
/-- what holds throughout a method's body -/
def pm_E (G : pm_G) (p : Program) (s : State) (m : MethodId) (args : Array Value) (meth : Method) (c : Code) (cc : ByteArray) (nL : Nat) (own : String) : Prop :=
  p.tables.exec = Jvm.exec ∧ c.code = cc ∧ c.maxLocals = nL ∧ s.vm.findClass own = some m.cls ∧ (∀ w ∈ pm_tbl, w.before args s = true) ∧ pm_K G s ∧ meth.locks = false
end
section
section PMR
variable {p : Program} {l : Launch} {e : Env} {R : Room} {s : State} {m : MethodId} {args : Array Value} {below : List Frame} {meth : Method} {c : Code} {H : Heap} {locs : List Loc} {cells slots : Nat} {Q : State → Prop}
variable {cc : ByteArray} {pc nL : Nat} {own : String} {ls : Array Slot} {rest : List Value} {G : pm_G} {H0 : Heap} {M : pm_M} {a b t k n index : Nat} {C : String} {T : u_T} {N : Nat} {i : Int32}
theorem pm_getI (E : pm_E G p s m args meth c cc nL own) (hI : pm_I G H0 M H locs) (ha : pm_is M a t) (hc : vwCl[t]? = some (C, T, N)) (ht : t < 10) (hk : k < N) (hnf : pm_nf t = N) (hr : pm_rt t k = 99) (hin : ∀ w ∈ u_ws C T N, w ∈ pm_tbl) (hl : Cond.fieldLink own index (T k).1 (T k).2.1 (T k).2.2.1 ∈ pm_tbl) (hdg : decode cc pc = .ok (.getfield index, 3))
    (kk : W p l e R s m args below meth c H locs cells slots Q (F0 m (pc + 3) ls (.int (mI M a k) :: rest))) : W p l e R s m args below meth c H locs cells slots Q (F0 m pc ls (.ref (H0.size + a) :: rest)) := by
  obtain ⟨hx, hb, hml, hown, hts, hK, hlk⟩ := E
  obtain ⟨_, hP, _, _⟩ := hI
  exact va_get hx hb hts hin hown hK.1 hP a (by rw [pm_get ha.1, pm_cell_o ha.2 ht]) hc k hk (hts _ hl) (fun _ h => h) (by rw [pm_fs_at (by rw [hnf]; exact hk), pm_val, if_pos hr]) hdg kk
theorem pm_getIN {host : String} (E : pm_E G p s m args meth c cc nL own) (hI : pm_I G H0 M H locs) (ha : pm_is M a t) (hc : vwCl[t]? = some (C, T, N)) (ht : t < 10) (hk : k < N) (hnf : pm_nf t = N) (hr : pm_rt t k = 99) (hin : ∀ w ∈ u_ws C T N, w ∈ pm_tbl) (hl : Cond.fieldLinkNest own index (T k).1 (T k).2.1 (T k).2.2.1 host ∈ lw_tbl) (hdg : decode cc pc = .ok (.getfield index, 3))
    (kk : W p l e R s m args below meth c H locs cells slots Q (F0 m (pc + 3) ls (.int (mI M a k) :: rest))) : W p l e R s m args below meth c H locs cells slots Q (F0 m pc ls (.ref (H0.size + a) :: rest)) := by
  obtain ⟨hx, hb, hml, hown, hts, hK, hlk⟩ := E
  obtain ⟨_, hP, _, _⟩ := hI
  exact va_getN hx hb hts hin hown hK.1 hP a (by rw [pm_get ha.1, pm_cell_o ha.2 ht]) hc k hk (va_Nw.use rfl (hK.2.2.1 _ hl rfl)) (fun _ h => h) (by rw [pm_fs_at (by rw [hnf]; exact hk), pm_val, if_pos hr]) hdg kk
/-- a reference that isn't null -/
theorem pm_getR (E : pm_E G p s m args meth c cc nL own) (hI : pm_I G H0 M H locs) (ha : pm_is M a t) (hc : vwCl[t]? = some (C, T, N)) (ht : t < 10) (hk : k < N) (hnf : pm_nf t = N) (hr : ¬ pm_rt t k = 99) (hin : ∀ w ∈ u_ws C T N, w ∈ pm_tbl) (hl : Cond.fieldLink own index (T k).1 (T k).2.1 (T k).2.2.1 ∈ pm_tbl) (hdg : decode cc pc = .ok (.getfield index, 3)) (hq : mR M a k = some b)
    (kk : pm_is M b (pm_rt t k) → W p l e R s m args below meth c H locs cells slots Q (F0 m (pc + 3) ls (.ref (H0.size + b) :: rest))) : W p l e R s m args below meth c H locs cells slots Q (F0 m pc ls (.ref (H0.size + a) :: rest)) := by
  obtain ⟨hx, hb, hml, hown, hts, hK, hlk⟩ := E
  obtain ⟨_, hP, _, hT⟩ := hI
  exact va_get hx hb hts hin hown hK.1 hP a (by rw [pm_get ha.1, pm_cell_o ha.2 ht]) hc k hk (hts _ hl) (fun _ h => h) (by rw [pm_fs_at (by rw [hnf]; exact hk), pm_val, if_neg hr, hq]; rfl) hdg (kk (ha.2 ▸ hT a k b ha.1 hq))
theorem pm_getRN {host : String} (E : pm_E G p s m args meth c cc nL own) (hI : pm_I G H0 M H locs) (ha : pm_is M a t) (hc : vwCl[t]? = some (C, T, N)) (ht : t < 10) (hk : k < N) (hnf : pm_nf t = N) (hr : ¬ pm_rt t k = 99) (hin : ∀ w ∈ u_ws C T N, w ∈ pm_tbl) (hl : Cond.fieldLinkNest own index (T k).1 (T k).2.1 (T k).2.2.1 host ∈ lw_tbl) (hdg : decode cc pc = .ok (.getfield index, 3)) (hq : mR M a k = some b)
    (kk : pm_is M b (pm_rt t k) → W p l e R s m args below meth c H locs cells slots Q (F0 m (pc + 3) ls (.ref (H0.size + b) :: rest))) : W p l e R s m args below meth c H locs cells slots Q (F0 m pc ls (.ref (H0.size + a) :: rest)) := by
  obtain ⟨hx, hb, hml, hown, hts, hK, hlk⟩ := E
  obtain ⟨_, hP, _, hT⟩ := hI
  exact va_getN hx hb hts hin hown hK.1 hP a (by rw [pm_get ha.1, pm_cell_o ha.2 ht]) hc k hk (va_Nw.use rfl (hK.2.2.1 _ hl rfl)) (fun _ h => h) (by rw [pm_fs_at (by rw [hnf]; exact hk), pm_val, if_neg hr, hq]; rfl) hdg (kk (ha.2 ▸ hT a k b ha.1 hq))
/-- a reference that may be null -/
theorem pm_getO (E : pm_E G p s m args meth c cc nL own) (hI : pm_I G H0 M H locs) (ha : pm_is M a t) (hc : vwCl[t]? = some (C, T, N)) (ht : t < 10) (hk : k < N) (hnf : pm_nf t = N) (hr : ¬ pm_rt t k = 99) (hin : ∀ w ∈ u_ws C T N, w ∈ pm_tbl) (hl : Cond.fieldLink own index (T k).1 (T k).2.1 (T k).2.2.1 ∈ pm_tbl) (hdg : decode cc pc = .ok (.getfield index, 3))
    (kk : ∀ x : Option Nat, x = mR M a k → (∀ b, x = some b → pm_is M b (pm_rt t k)) → W p l e R s m args below meth c H locs cells slots Q (F0 m (pc + 3) ls (pm_rf H0.size x :: rest))) : W p l e R s m args below meth c H locs cells slots Q (F0 m pc ls (.ref (H0.size + a) :: rest)) := by
  obtain ⟨hx, hb, hml, hown, hts, hK, hlk⟩ := E
  obtain ⟨_, hP, _, hT⟩ := hI
  exact va_get hx hb hts hin hown hK.1 hP a (by rw [pm_get ha.1, pm_cell_o ha.2 ht]) hc k hk (hts _ hl) (fun _ h => h) (by rw [pm_fs_at (by rw [hnf]; exact hk), pm_val, if_neg hr]) hdg (kk _ rfl (fun b hq => ha.2 ▸ hT a k b ha.1 hq))
theorem pm_Ti {M : pm_M} {a k : Nat} {v : Int32} (h : pm_T M) : pm_T (sI M a k v) := h
theorem pm_Tl {M : pm_M} {a k : Nat} {v : Int64} (h : pm_T M) : pm_T (sL M a k v) := h
theorem pm_Tr {M : pm_M} {a k b : Nat} (h : pm_T M) (hb : pm_is M b (pm_rt (mT M a) k)) : pm_T (sR M a k (some b)) := by
  intro a1 k1 b1 h1 h2
  show pm_is M b1 (pm_rt (mT M a1) k1)
  by_cases e : a1 = a ∧ k1 = k
  · obtain ⟨rfl, rfl⟩ := e
    have h3 : some b = some b1 := by rw [← h2]; exact (pm_up_s (f := M.2.2.1)).symm
    cases h3
    exact hb
  · exact h a1 k1 b1 h1 (by rw [← h2]; exact (pm_up_n (f := M.2.2.1) e).symm)
theorem pm_Tn {M : pm_M} {t n : Nat} (h : pm_T M) : pm_T (sN M t n) := by
  intro a1 k1 b1 h1 h2
  by_cases e : a1 = mZ M
  · subst e
    have : (none : Option Nat) = some b1 := by rw [← h2]; exact (if_pos rfl).symm
    cases this
  · have h3 : mR M a1 k1 = some b1 := by rw [← h2]; exact (if_neg e).symm
    have h1' : a1 < mZ M := by have : a1 < mZ M + 1 := h1; omega
    have h4 := (h a1 k1 b1 h1' h3).x (pm_X.n (t := t) (n := n))
    have h5 : mT (sN M t n) a1 = mT M a1 := if_neg e
    rw [h5]
    exact h4
theorem pm_cell_sI {G : pm_G} {z : Nat} {M : pm_M} {a k b : Nat} {v : Int32} (h : b ≠ a) : pm_cell G z (sI M a k v) b = pm_cell G z M b := pm_cell_same (pm_up_r h) rfl rfl rfl rfl
theorem pm_cell_sL {G : pm_G} {z : Nat} {M : pm_M} {a k b : Nat} {v : Int64} (h : b ≠ a) : pm_cell G z (sL M a k v) b = pm_cell G z M b := pm_cell_same rfl (pm_up_r h) rfl rfl rfl
theorem pm_cell_sR {G : pm_G} {z : Nat} {M : pm_M} {a k b : Nat} {v : Option Nat} (h : b ≠ a) : pm_cell G z (sR M a k v) b = pm_cell G z M b := pm_cell_same rfl rfl (pm_up_r h) rfl rfl
theorem pm_fs_sI {z : Nat} {M : pm_M} {t a k : Nat} {v : Int32} (hr : pm_rt t k = 99) : (pm_fs z M t a).set k (.int v) = pm_fs z (sI M a k v) t a := by
  refine pm_fs_set ?_ fun j hj => ?_
  · rw [pm_val, if_pos hr]
    show Value.int (pm_up M.1 a k v a k) = _
    rw [pm_up_s]
  · unfold pm_val
    show (if _ then Value.int (pm_up M.1 a k v a j) else _) = _
    rw [pm_up_n (fun q => hj q.2)]
    rfl
theorem pm_fs_sR {z : Nat} {M : pm_M} {t a k : Nat} {x : Option Nat} (hr : ¬ pm_rt t k = 99) : (pm_fs z M t a).set k (pm_rf z x) = pm_fs z (sR M a k x) t a := by
  refine pm_fs_set ?_ fun j hj => ?_
  · rw [pm_val, if_neg hr]
    show pm_rf z (pm_up M.2.2.1 a k x a k) = _
    rw [pm_up_s]
  · unfold pm_val
    show (if _ then _ else pm_rf z (pm_up M.2.2.1 a k x a j)) = _
    rw [pm_up_n (fun q => hj q.2)]
    rfl
theorem pm_putI {ty0 : Nat → FieldType} {v : Int32} (E : pm_E G p s m args meth c cc nL own) (hI : pm_I G H0 M H locs) (ha : pm_is M a t) (hc : vwCl[t]? = some (C, T, N)) (ht : t < 10) (hk : k < N) (hnf : pm_nf t = N) (hr : pm_rt t k = 99) (hin : ∀ w ∈ u_ws C T N, w ∈ pm_tbl) (hty : ∀ k, k < N → parseFieldDescriptor (T k).2.2.1 = some (ty0 k)) (hnm : ∀ a, a < N → ∀ b, b < N → a ≠ b → (T a).2.1 ≠ (T b).2.1) (hl : Cond.fieldLink own index (T k).1 (T k).2.1 (T k).2.2.1 ∈ pm_tbl) (hd : parseFieldDescriptor (T k).2.2.1 = some .int) (hfin : (T k).2.2.2 = false ∨ ((T k).2.2.2 = true ∧ (T k).1 = own ∧ meth.name = "<init>")) (hdg : decode cc pc = .ok (.putfield index, 3))
    (kk : ∀ (H1 : Heap) (locs1 : List Loc), pm_I G H0 (sI M a k v) H1 locs1 → W p l e R s m args below meth c H1 locs1 cells slots Q (F0 m (pc + 3) ls rest)) : W p l e R s m args below meth c H locs cells slots Q (F0 m pc ls (.int v :: .ref (H0.size + a) :: rest)) := by
  obtain ⟨hx, hb, hml, hown, hts, hK, hlk⟩ := E
  obtain ⟨h1, hP, hS, hT⟩ := hI
  have he : (pm_W G H0.size M)[a]? = some (H0.size + a, .inr (t, pm_fs H0.size M t a)) := by rw [pm_get ha.1, pm_cell_o ha.2 ht]
  have hset : (pm_W G H0.size M).set a (H0.size + a, .inr (t, (pm_fs H0.size M t a).set k (.int v))) = pm_W G H0.size (sI M a k v) :=
    pm_set rfl (by rw [pm_cell_o (show mT (sI M a k v) a = t from ha.2) ht, pm_fs_sI hr]) (fun b hb => pm_cell_sI hb)
  have hlen : k < (pm_fs H0.size M t a).length := by rw [pm_fs_len, hnf]; exact hk
  have hk2 : ∀ (H1 : Heap) (locs1 : List Loc), va_P G.1 vwCl ((pm_W G H0.size M).set a (H0.size + a, .inr (t, (pm_fs H0.size M t a).set k (.int v)))) H1 → H1.size = H.size → va_S (fun q : Nat => H0.size ≤ q) H0 H1 locs1 → W p l e R s m args below meth c H1 locs1 cells slots Q (F0 m (pc + 3) ls rest) := fun H1 locs1 g1 g2 g3 => kk H1 locs1 ⟨by rw [g2]; exact h1, by rw [← hset]; exact g1, g3, pm_Ti hT⟩
  have hap := va_apart (own := own) hts hin ty0 hty hnm hK.1 hc
  obtain ⟨r, e1, cell, q1, q2, q3, q4⟩ := hP a _ he
  have hr : r = (C, T, N) := Option.some.inj (e1.symm.trans hc)
  subst hr
  obtain ⟨hS1, hfc, kC, hkC, hkind⟩ := hK.1.1 t _ hc
  obtain ⟨cf, kf, fi, f, hi, hsl⟩ := hS1 k hk
  have hlay := hts _ (hin _ (u_in_lay hk))
  unfold u_lay at hlay
  have hst := (u_facts hfc hkC (u_lays hts hin hk) hi).1
  have fin : ∀ H' : Heap, H'[H0.size + a]? = some (cell.setSlot f.slot (.int v)) → H'.size = H.size → (∀ q, q ≠ H0.size + a → H'[q]? = H[q]?) → W p l e R s m args below meth c H' (locs ++ [⟨H0.size + a, f.slot⟩]) cells slots Q (F0 m (pc + 3) ls rest) := by
    intro H' g1 g2 g3
    rw [hsl] at g1 ⊢
    exact hk2 H' _ (hP.set pm_D he ⟨_, hc, t_OB.to (V := updV (vp_V (pm_fs H0.size M t a)) k (.int v)) ⟨_, g1, q2, q3, t_set q4 hap hk _⟩ (fun j _ => vp_updV_set hlen _ j)⟩ g3) g2 (hS.put g2 g3 (Nat.le_add_right _ _))
  rcases hfin with hfin | ⟨hfin, hdecl, hin2⟩
  · rw [if_neg (by rw [hfin]; decide)] at hlay
    have h6 := u_store hfc hkC hkind hlay hi hd (v := .int v) rfl rfl
    exact W.putK hx hb (f := f) ⟨hown, hts _ hl, ⟨_, _, _, hi⟩, hst⟩ (by rw [q2]; exact h6) q1 q3 (by rw [hsl]; exact k2_hasslot (q4 k hk)) rfl rfl hdg fin
  · rw [if_pos hfin] at hlay
    have hcf : m.cls = cf := by
      obtain ⟨_, _, c', _, _, _, -, -, hf', -, -, -, hown2, -⟩ := Cond.laysFinal_spec hlay
      have e1 : c' = cf := by have := hi.symm.trans hf'; simp at this; exact this.1.symm
      rw [hdecl] at hown2
      rw [← e1]; exact Option.some.inj (hown.symm.trans hown2)
    have h6 := u_fits hfc hkC hkind (Or.inr hlay) hi hd (v := .int v) rfl rfl
    exact W.putFinK hx hb hown (hts _ hl) hi hst hcf hin2 (by rw [q2]; exact h6) q1 q3 (by rw [hsl]; exact k2_hasslot (q4 k hk)) rfl rfl hdg fin
theorem pm_putR {ty0 : Nat → FieldType} {ty : FieldType} (E : pm_E G p s m args meth c cc nL own) (hI : pm_I G H0 M H locs) (ha : pm_is M a t) (hc : vwCl[t]? = some (C, T, N)) (ht : t < 10) (hk : k < N) (hnf : pm_nf t = N) (hr : ¬ pm_rt t k = 99) (hin : ∀ w ∈ u_ws C T N, w ∈ pm_tbl) (hty : ∀ k, k < N → parseFieldDescriptor (T k).2.2.1 = some (ty0 k)) (hnm : ∀ a, a < N → ∀ b, b < N → a ≠ b → (T a).2.1 ≠ (T b).2.1) (hl : Cond.fieldLink own index (T k).1 (T k).2.1 (T k).2.2.1 ∈ pm_tbl) (hd : parseFieldDescriptor (T k).2.2.1 = some ty) (hnar : narrow ty (.ref (H0.size + b)) = .ref (H0.size + b)) (hfit : fits ty (.ref (H0.size + b)) = true) (hfin : (T k).2.2.2 = false ∨ ((T k).2.2.2 = true ∧ (T k).1 = own ∧ meth.name = "<init>")) (hbt : pm_is M b (pm_rt t k)) (hdg : decode cc pc = .ok (.putfield index, 3))
    (kk : ∀ (H1 : Heap) (locs1 : List Loc), pm_I G H0 (sR M a k (some b)) H1 locs1 → W p l e R s m args below meth c H1 locs1 cells slots Q (F0 m (pc + 3) ls rest)) : W p l e R s m args below meth c H locs cells slots Q (F0 m pc ls (.ref (H0.size + b) :: .ref (H0.size + a) :: rest)) := by
  obtain ⟨hx, hb, hml, hown, hts, hK, hlk⟩ := E
  obtain ⟨h1, hP, hS, hT⟩ := hI
  have he : (pm_W G H0.size M)[a]? = some (H0.size + a, .inr (t, pm_fs H0.size M t a)) := by rw [pm_get ha.1, pm_cell_o ha.2 ht]
  have hset : (pm_W G H0.size M).set a (H0.size + a, .inr (t, (pm_fs H0.size M t a).set k (.ref (H0.size + b)))) = pm_W G H0.size (sR M a k (some b)) :=
    pm_set rfl (by rw [pm_cell_o (show mT (sR M a k (some b)) a = t from ha.2) ht, ← pm_fs_sR hr]; rfl) (fun b hb => pm_cell_sR hb)
  have hlen : k < (pm_fs H0.size M t a).length := by rw [pm_fs_len, hnf]; exact hk
  have hk2 : ∀ (H1 : Heap) (locs1 : List Loc), va_P G.1 vwCl ((pm_W G H0.size M).set a (H0.size + a, .inr (t, (pm_fs H0.size M t a).set k (.ref (H0.size + b))))) H1 → H1.size = H.size → va_S (fun q : Nat => H0.size ≤ q) H0 H1 locs1 → W p l e R s m args below meth c H1 locs1 cells slots Q (F0 m (pc + 3) ls rest) := fun H1 locs1 g1 g2 g3 => kk H1 locs1 ⟨by rw [g2]; exact h1, by rw [← hset]; exact g1, g3, pm_Tr hT (by rw [ha.2]; exact hbt)⟩
  have hap := va_apart (own := own) hts hin ty0 hty hnm hK.1 hc
  obtain ⟨r, e1, cell, q1, q2, q3, q4⟩ := hP a _ he
  have hr : r = (C, T, N) := Option.some.inj (e1.symm.trans hc)
  subst hr
  obtain ⟨hS1, hfc, kC, hkC, hkind⟩ := hK.1.1 t _ hc
  obtain ⟨cf, kf, fi, f, hi, hsl⟩ := hS1 k hk
  have hlay := hts _ (hin _ (u_in_lay hk))
  unfold u_lay at hlay
  have hst := (u_facts hfc hkC (u_lays hts hin hk) hi).1
  have fin : ∀ H' : Heap, H'[H0.size + a]? = some (cell.setSlot f.slot (.ref (H0.size + b))) → H'.size = H.size → (∀ q, q ≠ H0.size + a → H'[q]? = H[q]?) → W p l e R s m args below meth c H' (locs ++ [⟨H0.size + a, f.slot⟩]) cells slots Q (F0 m (pc + 3) ls rest) := by
    intro H' g1 g2 g3
    rw [hsl] at g1 ⊢
    exact hk2 H' _ (hP.set pm_D he ⟨_, hc, t_OB.to (V := updV (vp_V (pm_fs H0.size M t a)) k (.ref (H0.size + b))) ⟨_, g1, q2, q3, t_set q4 hap hk _⟩ (fun j _ => vp_updV_set hlen _ j)⟩ g3) g2 (hS.put g2 g3 (Nat.le_add_right _ _))
  rcases hfin with hfin | ⟨hfin, hdecl, hin2⟩
  · rw [if_neg (by rw [hfin]; decide)] at hlay
    have h6 := u_store hfc hkC hkind hlay hi hd hnar hfit
    exact W.putK hx hb (f := f) ⟨hown, hts _ hl, ⟨_, _, _, hi⟩, hst⟩ (by rw [q2]; exact h6) q1 q3 (by rw [hsl]; exact k2_hasslot (q4 k hk)) rfl rfl hdg fin
  · rw [if_pos hfin] at hlay
    have hcf : m.cls = cf := by
      obtain ⟨_, _, c', _, _, _, -, -, hf', -, -, -, hown2, -⟩ := Cond.laysFinal_spec hlay
      have e1 : c' = cf := by have := hi.symm.trans hf'; simp at this; exact this.1.symm
      rw [hdecl] at hown2
      rw [← e1]; exact Option.some.inj (hown.symm.trans hown2)
    have h6 := u_fits hfc hkC hkind (Or.inr hlay) hi hd hnar hfit
    exact W.putFinK hx hb hown (hts _ hl) hi hst hcf hin2 (by rw [q2]; exact h6) q1 q3 (by rw [hsl]; exact k2_hasslot (q4 k hk)) rfl rfl hdg fin
end PMR
end
section
section PMA
variable {p : Program} {l : Launch} {e : Env} {R : Room} {s : State} {m : MethodId} {args : Array Value} {below : List Frame} {meth : Method} {c : Code} {H : Heap} {locs : List Loc} {cells slots : Nat} {Q : State → Prop}
variable {cc : ByteArray} {pc nL : Nat} {own : String} {ls : Array Slot} {rest : List Value} {G : pm_G} {H0 : Heap} {M : pm_M} {a b t k n index : Nat} {C : String} {T : u_T} {N : Nat} {i : Int32}
theorem pm_iald (E : pm_E G p s m args meth c cc nL own) (hI : pm_I G H0 M H locs) (ha : pm_is M a 11) (hin : vp_in i (mN M a)) (hdg : decode cc pc = .ok (.iaload, 1))
    (kk : W p l e R s m args below meth c H locs cells slots Q (F0 m (pc + 1) ls (.int (mI M a i.toNatClampNeg) :: rest))) : W p l e R s m args below meth c H locs cells slots Q (F0 m pc ls (.int i :: .ref (H0.size + a) :: rest)) := by
  obtain ⟨hx, hb, hml, hown, hts, hK, hlk⟩ := E
  obtain ⟨_, hP, _, _⟩ := hI
  exact va_iald hx hb hK.1 hP a 1 (by rw [pm_get ha.1, pm_cell_i ha.2 (by decide)]) rfl hin hdg kk
theorem pm_bald (E : pm_E G p s m args meth c cc nL own) (hI : pm_I G H0 M H locs) (ha : pm_is M a 10) (hin : vp_in i (mN M a)) (hdg : decode cc pc = .ok (.baload, 1))
    (kk : W p l e R s m args below meth c H locs cells slots Q (F0 m (pc + 1) ls (.int (mI M a i.toNatClampNeg) :: rest))) : W p l e R s m args below meth c H locs cells slots Q (F0 m pc ls (.int i :: .ref (H0.size + a) :: rest)) := by
  obtain ⟨hx, hb, hml, hown, hts, hK, hlk⟩ := E
  obtain ⟨_, hP, _, _⟩ := hI
  exact va_bald hx hb hK.1 hP a 0 (by rw [pm_get ha.1, pm_cell_i ha.2 (by decide)]) rfl hin hdg kk
theorem pm_zald (E : pm_E G p s m args meth c cc nL own) (hI : pm_I G H0 M H locs) (ha : pm_is M a 13) (hin : vp_in i (mN M a)) (hdg : decode cc pc = .ok (.baload, 1))
    (kk : W p l e R s m args below meth c H locs cells slots Q (F0 m (pc + 1) ls (.int (mI M a i.toNatClampNeg) :: rest))) : W p l e R s m args below meth c H locs cells slots Q (F0 m pc ls (.int i :: .ref (H0.size + a) :: rest)) := by
  obtain ⟨hx, hb, hml, hown, hts, hK, hlk⟩ := E
  obtain ⟨_, hP, _, _⟩ := hI
  exact va_zald hx hb hK.1 hP a 3 (by rw [pm_get ha.1, pm_cell_i ha.2 (by decide)]) rfl hin hdg kk
theorem pm_lald (E : pm_E G p s m args meth c cc nL own) (hI : pm_I G H0 M H locs) (ha : pm_is M a 12) (hin : vp_in i (mN M a)) (hdg : decode cc pc = .ok (.laload, 1))
    (kk : W p l e R s m args below meth c H locs cells slots Q (F0 m (pc + 1) ls (.long (mL M a i.toNatClampNeg) :: rest))) : W p l e R s m args below meth c H locs cells slots Q (F0 m pc ls (.int i :: .ref (H0.size + a) :: rest)) := by
  obtain ⟨hx, hb, hml, hown, hts, hK, hlk⟩ := E
  obtain ⟨_, hP, _, _⟩ := hI
  exact va_lald hx hb hK.1 hP a 2 (by rw [pm_get ha.1, pm_cell_l ha.2]) rfl hin hdg kk
/-- an array of objects, or of arrays: t0 its place in pm_tys -/
theorem pm_aald {ty : FieldType} (t0 : Nat) (E : pm_E G p s m args meth c cc nL own) (hI : pm_I G H0 M H locs) (ha : pm_is M a t) (ht : 14 ≤ t) (hty : (pm_tys G)[t0]? = some (G.2 t, ty)) (href : ty.isReference = true) (hin : vp_in i (mN M a)) (hdg : decode cc pc = .ok (.aaload, 1))
    (kk : ∀ x : Option Nat, x = mR M a i.toNatClampNeg → (∀ b, x = some b → pm_is M b (pm_rt t i.toNatClampNeg)) → W p l e R s m args below meth c H locs cells slots Q (F0 m (pc + 1) ls (pm_rf H0.size x :: rest))) : W p l e R s m args below meth c H locs cells slots Q (F0 m pc ls (.int i :: .ref (H0.size + a) :: rest)) := by
  obtain ⟨hx, hb, hml, hown, hts, hK, hlk⟩ := E
  obtain ⟨_, hP, _, hT⟩ := hI
  have hlt : i.toNatClampNeg < mN M a := Nat.not_le.mp fun q => hin (Or.inr q)
  have hat : (pm_W G H0.size M)[a]? = some (H0.size + a, .inl (G.2 t, mN M a, .inr (.inr (.inr (.inr (fun j => (mR M a j).map (fun q => H0.size + q))))))) := by rw [pm_get ha.1, pm_cell_r ha.2 ht]
  exact W.aald (v := pm_rf H0.size (mR M a i.toNatClampNeg)) (ty := ty) hx hb (hP a _ hat) ((hK.1.2 t0 _ hty).1 (mN M a) (fun j => pm_rf H0.size (mR M a j))) href (fun q => by cases q) (by show ¬ (i < 0 ∨ (arrV _ _ _).slots.size ≤ _); rw [arrV_size]; exact hin) (by show (arrV _ _ _).slots[_]? = _; rw [arrV_read _ _ hlt]; rfl) rfl rfl hdg (kk _ rfl (fun b hq => ha.2 ▸ hT a _ b ha.1 hq))
theorem pm_seti {G : pm_G} {z : Nat} {M : pm_M} {a t j : Nat} {x : Int32} (h : mT M a = t) (ht : t = 10 ∨ t = 11 ∨ t = 13) : (pm_W G z M).set a (z + a, .inl (G.2 t, mN M a, .inl (upd (mI M a) j x))) = pm_W G z (sI M a j x) := by
  refine pm_set rfl ?_ (fun b hb => pm_cell_sI hb)
  rw [pm_cell_i (show mT (sI M a j x) a = t from h) ht]
  have hf : upd (mI M a) j x = mI (sI M a j x) a := by
    funext q
    show (if q = j then x else mI M a q) = pm_up M.1 a j x a q
    unfold pm_up mI
    by_cases hq : q = j <;> simp [hq]
  rw [hf]
  rfl
theorem pm_iast {x : Int32} (E : pm_E G p s m args meth c cc nL own) (hI : pm_I G H0 M H locs) (ha : pm_is M a 11) (hin : vp_in i (mN M a)) (hdg : decode cc pc = .ok (.iastore, 1))
    (kk : ∀ (H1 : Heap) (locs1 : List Loc), pm_I G H0 (sI M a i.toNatClampNeg x) H1 locs1 → W p l e R s m args below meth c H1 locs1 cells slots Q (F0 m (pc + 1) ls rest)) : W p l e R s m args below meth c H locs cells slots Q (F0 m pc ls (.int x :: .int i :: .ref (H0.size + a) :: rest)) := by
  obtain ⟨hx, hb, hml, hown, hts, hK, hlk⟩ := E
  obtain ⟨h1, hP, hS, hT⟩ := hI
  have hat : (pm_W G H0.size M)[a]? = some (H0.size + a, .inl (G.2 11, mN M a, .inl (mI M a))) := by rw [pm_get ha.1, pm_cell_i ha.2 (by decide)]
  refine W.iast hx hb (hP a _ hat) ((hK.1.2 1 _ rfl).1 (mN M a) (fun j => .int (mI M a j))) (fun q => by cases q) (by show ¬ (i < 0 ∨ (arrV _ _ _).slots.size ≤ _); rw [arrV_size]; exact hin) rfl rfl hdg fun H1 e1 z oq => ?_
  refine kk H1 _ ⟨by rw [z]; exact h1, ?_, hS.put z oq (Nat.le_add_right _ _), pm_Ti hT⟩
  rw [← pm_seti ha.2 (by decide)]
  refine hP.set pm_D hat ?_ oq
  show H1[_]? = some (vp_cell _ _)
  rw [e1, vp_cell_i, vp_cell_i, arrV_store]
  congr 2
  funext q
  by_cases hq : q = i.toNatClampNeg
  · subst hq
    simp [updV, upd]
  · simp [updV, upd, hq]
theorem pm_bast {x : Int32} (E : pm_E G p s m args meth c cc nL own) (hI : pm_I G H0 M H locs) (ha : pm_is M a 10) (hin : vp_in i (mN M a)) (hdg : decode cc pc = .ok (.bastore, 1))
    (kk : ∀ (H1 : Heap) (locs1 : List Loc), pm_I G H0 (sI M a i.toNatClampNeg (vp_nar .byte x)) H1 locs1 → W p l e R s m args below meth c H1 locs1 cells slots Q (F0 m (pc + 1) ls rest)) : W p l e R s m args below meth c H locs cells slots Q (F0 m pc ls (.int x :: .int i :: .ref (H0.size + a) :: rest)) := by
  obtain ⟨hx, hb, hml, hown, hts, hK, hlk⟩ := E
  obtain ⟨h1, hP, hS, hT⟩ := hI
  have hat : (pm_W G H0.size M)[a]? = some (H0.size + a, .inl (G.2 10, mN M a, .inl (mI M a))) := by rw [pm_get ha.1, pm_cell_i ha.2 (by decide)]
  refine W.bast hx hb (hP a _ hat) ((hK.1.2 0 _ rfl).1 (mN M a) (fun j => .int (mI M a j))) (fun q => by cases q) (by show ¬ (i < 0 ∨ (arrV _ _ _).slots.size ≤ _); rw [arrV_size]; exact hin) rfl rfl hdg fun H1 e1 z oq => ?_
  refine kk H1 _ ⟨by rw [z]; exact h1, ?_, hS.put z oq (Nat.le_add_right _ _), pm_Ti hT⟩
  rw [← pm_seti ha.2 (by decide)]
  refine hP.set pm_D hat ?_ oq
  show H1[_]? = some (vp_cell _ _)
  rw [e1, vp_cell_i, vp_cell_i, arrV_store]
  congr 2
  funext q
  by_cases hq : q = i.toNatClampNeg
  · subst hq
    simp [updV, upd, vp_nar, narrow]
  · simp [updV, upd, hq]
theorem pm_zast {x : Int32} (E : pm_E G p s m args meth c cc nL own) (hI : pm_I G H0 M H locs) (ha : pm_is M a 13) (hin : vp_in i (mN M a)) (hdg : decode cc pc = .ok (.bastore, 1))
    (kk : ∀ (H1 : Heap) (locs1 : List Loc), pm_I G H0 (sI M a i.toNatClampNeg (vp_nar .boolean x)) H1 locs1 → W p l e R s m args below meth c H1 locs1 cells slots Q (F0 m (pc + 1) ls rest)) : W p l e R s m args below meth c H locs cells slots Q (F0 m pc ls (.int x :: .int i :: .ref (H0.size + a) :: rest)) := by
  obtain ⟨hx, hb, hml, hown, hts, hK, hlk⟩ := E
  obtain ⟨h1, hP, hS, hT⟩ := hI
  have hat : (pm_W G H0.size M)[a]? = some (H0.size + a, .inl (G.2 13, mN M a, .inl (mI M a))) := by rw [pm_get ha.1, pm_cell_i ha.2 (by decide)]
  refine W.zast hx hb (hP a _ hat) ((hK.1.2 3 _ rfl).1 (mN M a) (fun j => .int (mI M a j))) (fun q => by cases q) (by show ¬ (i < 0 ∨ (arrV _ _ _).slots.size ≤ _); rw [arrV_size]; exact hin) rfl rfl hdg fun H1 e1 z oq => ?_
  refine kk H1 _ ⟨by rw [z]; exact h1, ?_, hS.put z oq (Nat.le_add_right _ _), pm_Ti hT⟩
  rw [← pm_seti ha.2 (by decide)]
  refine hP.set pm_D hat ?_ oq
  show H1[_]? = some (vp_cell _ _)
  rw [e1, vp_cell_i, vp_cell_i, arrV_store]
  congr 2
  funext q
  by_cases hq : q = i.toNatClampNeg
  · subst hq
    simp [updV, upd, vp_nar, narrow]
  · simp [updV, upd, hq]
theorem pm_last {x : Int64} (E : pm_E G p s m args meth c cc nL own) (hI : pm_I G H0 M H locs) (ha : pm_is M a 12) (hin : vp_in i (mN M a)) (hdg : decode cc pc = .ok (.lastore, 1))
    (kk : ∀ (H1 : Heap) (locs1 : List Loc), pm_I G H0 (sL M a i.toNatClampNeg x) H1 locs1 → W p l e R s m args below meth c H1 locs1 cells slots Q (F0 m (pc + 1) ls rest)) : W p l e R s m args below meth c H locs cells slots Q (F0 m pc ls (.long x :: .int i :: .ref (H0.size + a) :: rest)) := by
  obtain ⟨hx, hb, hml, hown, hts, hK, hlk⟩ := E
  obtain ⟨h1, hP, hS, hT⟩ := hI
  have hat : (pm_W G H0.size M)[a]? = some (H0.size + a, .inl (G.2 12, mN M a, .inr (.inl (mL M a)))) := by rw [pm_get ha.1, pm_cell_l ha.2]
  refine W.last hx hb (hP a _ hat) ((hK.1.2 2 _ rfl).1 (mN M a) (fun j => .long (mL M a j))) (fun q => by cases q) (by show ¬ (i < 0 ∨ (arrV _ _ _).slots.size ≤ _); rw [arrV_size]; exact hin) rfl rfl hdg fun H1 e1 z oq => ?_
  refine kk H1 _ ⟨by rw [z]; exact h1, ?_, hS.put z oq (Nat.le_add_right _ _), pm_Tl hT⟩
  have hset : (pm_W G H0.size M).set a (H0.size + a, .inl (G.2 12, mN M a, .inr (.inl (vp_updL (mL M a) i.toNatClampNeg x)))) = pm_W G H0.size (sL M a i.toNatClampNeg x) := by
    refine pm_set rfl ?_ (fun b hb => pm_cell_sL hb)
    rw [pm_cell_l (show mT (sL M a i.toNatClampNeg x) a = 12 from ha.2)]
    have hf : vp_updL (mL M a) i.toNatClampNeg x = mL (sL M a i.toNatClampNeg x) a := by
      funext q
      show (if q = i.toNatClampNeg then x else mL M a q) = pm_up M.2.1 a i.toNatClampNeg x a q
      unfold pm_up mL
      by_cases hq : q = i.toNatClampNeg <;> simp [hq]
    rw [hf]
    rfl
  rw [← hset]
  refine hP.set pm_D hat ?_ oq
  show H1[_]? = some (vp_cell _ _)
  rw [e1, vp_cell_l, vp_cell_l, arrV_store]
  congr 2
  funext q
  by_cases hq : q = i.toNatClampNeg
  · subst hq
    simp [updV, vp_updL]
  · simp [updV, vp_updL, hq]
/-- an object of the class number t1 into an array of such (kind t) -/
theorem pm_aast {t1 : Nat} {r : vw_C} (t0 : Nat) (E : pm_E G p s m args meth c cc nL own) (hI : pm_I G H0 M H locs) (ha : pm_is M a t) (ht : 14 ≤ t) (hty : (pm_tys G)[t0]? = some (G.2 t, .object r.1)) (hv : pm_is M b t1) (ht1 : t1 < 10) (hrt : pm_rt t i.toNatClampNeg = t1) (hc : vwCl[t1]? = some r) (hin : vp_in i (mN M a)) (hdg : decode cc pc = .ok (.aastore, 1))
    (kk : ∀ (H1 : Heap) (locs1 : List Loc), pm_I G H0 (sR M a i.toNatClampNeg (some b)) H1 locs1 → W p l e R s m args below meth c H1 locs1 cells slots Q (F0 m (pc + 1) ls rest)) : W p l e R s m args below meth c H locs cells slots Q (F0 m pc ls (.ref (H0.size + b) :: .int i :: .ref (H0.size + a) :: rest)) := by
  obtain ⟨hx, hb, hml, hown, hts, hK, hlk⟩ := E
  obtain ⟨h1, hP, hS, hT⟩ := hI
  have hlt : i.toNatClampNeg < mN M a := Nat.not_le.mp fun q => hin (Or.inr q)
  have h0 : ¬ i < 0 := fun q => hin (Or.inl q)
  have hat : (pm_W G H0.size M)[a]? = some (H0.size + a, .inl (G.2 t, mN M a, .inr (.inr (.inr (.inr (fun j => (mR M a j).map (fun q => H0.size + q))))))) := by rw [pm_get ha.1, pm_cell_r ha.2 ht]
  have hav : (pm_W G H0.size M)[b]? = some (H0.size + b, .inr (t1, pm_fs H0.size M t1 b)) := by rw [pm_get hv.1, pm_cell_o hv.2 ht1]
  obtain ⟨r', hr', cellV, g1, g2, g3, -⟩ := hP b _ hav
  have hcls := (hK.1.1 t1 r hc).2
  obtain ⟨kA, comp, k1, k2, k3, -⟩ := (hK.1.2 t0 _ hty).2
  have hcomp : comp = G.1.1 t1 := Option.some.inj (k3.symm.trans hcls.1)
  subst hcomp
  obtain ⟨kC, hkC, -⟩ := hcls.2
  refine W.aast hx hb (hP a _ hat) (fun q h => by cases h) (fun h => by cases h) k1 k2 rfl hkC ⟨h0, by show _ < (arrV _ _ _).slots.size; rw [arrV_size]; exact hlt⟩ g1 (fun q h => by rw [g3] at h; cases h) (by rw [g2]; exact hkC) (by rw [g2]; exact va_assign hcls) rfl rfl hdg fun H1 e1 z oq => ?_
  refine kk H1 _ ⟨by rw [z]; exact h1, ?_, hS.put z oq (Nat.le_add_right _ _), pm_Tr hT (by rw [ha.2, hrt]; exact hv)⟩
  have hset : (pm_W G H0.size M).set a (H0.size + a, .inl (G.2 t, mN M a, .inr (.inr (.inr (.inr (va_up (fun j => (mR M a j).map (fun q => H0.size + q)) i.toNatClampNeg (some (H0.size + b)))))))) = pm_W G H0.size (sR M a i.toNatClampNeg (some b)) := by
    refine pm_set rfl ?_ (fun b hb => pm_cell_sR hb)
    rw [pm_cell_r (show mT (sR M a i.toNatClampNeg (some b)) a = t from ha.2) ht]
    have hf : va_up (fun j => (mR M a j).map (fun q => H0.size + q)) i.toNatClampNeg (some (H0.size + b)) = fun j => (mR (sR M a i.toNatClampNeg (some b)) a j).map (fun q => H0.size + q) := by
      funext q
      show (if q = i.toNatClampNeg then some (H0.size + b) else (mR M a q).map (fun q => H0.size + q)) = (pm_up M.2.2.1 a i.toNatClampNeg (some b) a q).map (fun q => H0.size + q)
      unfold pm_up mR
      by_cases hq : q = i.toNatClampNeg <;> simp [hq]
    rw [hf]
    rfl
  rw [← hset]
  refine hP.set pm_D hat ?_ oq
  show H1[_]? = some (vp_cell _ _)
  rw [e1, vp_cell_q, vp_cell_q, arrV_store]
  congr 2
  funext q
  by_cases hq : q = i.toNatClampNeg
  · subst hq
    simp [updV, va_up, va_rf]
  · simp [updV, va_up, hq]
theorem pm_alen (t0 : Nat) {ty : FieldType} (E : pm_E G p s m args meth c cc nL own) (hI : pm_I G H0 M H locs) (ha : pm_is M a t) (ht : 10 ≤ t) (hty : (pm_tys G)[t0]? = some (G.2 t, ty)) (hdg : decode cc pc = .ok (.arraylength, 1))
    (kk : W p l e R s m args below meth c H locs cells slots Q (F0 m (pc + 1) ls (.int (nI (mN M a)) :: rest))) : W p l e R s m args below meth c H locs cells slots Q (F0 m pc ls (.ref (H0.size + a) :: rest)) := by
  obtain ⟨hx, hb, hml, hown, hts, hK, hlk⟩ := E
  obtain ⟨h1, hP, hS, hT⟩ := hI
  have hat : ∃ y : vp_A, (pm_W G H0.size M)[a]? = some (H0.size + a, .inl (G.2 t, y)) ∧ y.1 = mN M a := by
    rw [pm_get ha.1]
    unfold pm_cell
    rw [ha.2, if_neg (by omega)]
    by_cases h12 : t = 12
    · subst h12
      exact ⟨_, by rw [if_pos rfl], rfl⟩
    · rw [if_neg h12]
      by_cases h14 : t < 14
      · exact ⟨_, by rw [if_pos h14], rfl⟩
      · exact ⟨_, by rw [if_neg h14], rfl⟩
  obtain ⟨y, hy, hyn⟩ := hat
  exact va_alen hx hb hK.1 hP a t0 hy hty (by rw [hyn]; rfl) hdg kk
theorem pm_copyl {sp dp nn : Int32} (E : pm_E G p s m args meth c cc nL own) (hI : pm_I G H0 M H locs) (hls : ls.size = nL) (hl : Cond.methodLink own index arraycopyName ∈ pm_tbl) (hn : Cond.native arraycopyName ∈ pm_tbl) (hst : Cond.static arraycopyName ∈ pm_tbl) (hini : Cond.initialized "java/lang/System" ∈ pm_tbl) (ha : pm_is M a 12) (hb2 : pm_is M b 12)
    (h1 : ¬ sp < 0) (h2 : ¬ dp < 0) (h3 : ¬ nn < 0) (h4 : sp.toNatClampNeg + nn.toNatClampNeg ≤ mN M a) (h5 : dp.toNatClampNeg + nn.toNatClampNeg ≤ mN M b) (hframes : 1 ≤ R.frames) (hlocals : (rest.map fun v => v.category).sum + (nativeFrameWords "java/lang/System" "arraycopy" 5 + 11) ≤ R.locals) (hdg : decode cc pc = .ok (.invokestatic index, 3))
    (kk : ∀ (H1 : Heap) (locs1 : List Loc), pm_I G H0 (sC M a sp.toNatClampNeg b dp.toNatClampNeg nn.toNatClampNeg) H1 locs1 → W p l e R s m args below meth c H1 locs1 cells slots Q (F0 m (pc + 3) ls rest)) : W p l e R s m args below meth c H locs cells slots Q (F0 m pc ls (.int nn :: .int dp :: .ref (H0.size + b) :: .int sp :: .ref (H0.size + a) :: rest)) := by
  obtain ⟨hx, hb, hml, hown, hts, hK, hlk⟩ := E
  obtain ⟨z1, hP, hS, hT⟩ := hI
  have hat0 : (pm_W G H0.size M)[a]? = some (H0.size + a, .inl (G.2 12, mN M a, .inr (.inl (mL M a)))) := by rw [pm_get ha.1, pm_cell_l ha.2]
  have hc0 : H[H0.size + a]? = some (vp_cell (G.2 12) (mN M a, .inr (.inl (mL M a)))) := hP a _ hat0
  have hat : (pm_W G H0.size M)[b]? = some (H0.size + b, .inl (G.2 12, mN M b, .inr (.inl (mL M b)))) := by rw [pm_get hb2.1, pm_cell_l hb2.2]
  have hc1 : H[H0.size + b]? = some (vp_cell (G.2 12) (mN M b, .inr (.inl (mL M b)))) := hP b _ hat
  have hset : (pm_W G H0.size M).set b (H0.size + b, .inl (G.2 12, mN M b, .inr (.inl (va_cpy (mL M a) (mL M b) sp.toNatClampNeg dp.toNatClampNeg nn.toNatClampNeg)))) = pm_W G H0.size (sC M a sp.toNatClampNeg b dp.toNatClampNeg nn.toNatClampNeg) := by
    refine pm_set rfl ?_ (fun d hd => pm_cell_same rfl (if_neg hd) rfl rfl rfl)
    rw [pm_cell_l (show mT (sC M a sp.toNatClampNeg b dp.toNatClampNeg nn.toNatClampNeg) b = 12 from hb2.2)]
    have hf : va_cpy (mL M a) (mL M b) sp.toNatClampNeg dp.toNatClampNeg nn.toNatClampNeg = mL (sC M a sp.toNatClampNeg b dp.toNatClampNeg nn.toNatClampNeg) b := (if_pos rfl).symm
    rw [hf]
    rfl
  have hz : ∀ z : Int32, ¬ z < 0 → z.toInt = (z.toNatClampNeg : Int) := by
    intro z hz
    have h0 : (0 : Int) ≤ z.toInt := by simpa using Int32.le_iff_toInt_le.mp (Int32.not_lt.mp hz)
    show z.toInt = ((z.toInt.toNat : Nat) : Int)
    omega
  intro T hT X
  obtain ⟨-, k0, hk0, cm0, hkk0⟩ := (hK.1.2 2 _ rfl).1 (mN M a) (fun j => .long (mL M a j))
  obtain ⟨-, k1, hk1, cm1, hkk1⟩ := (hK.1.2 2 _ rfl).1 (mN M b) (fun j => .long (mL M b j))
  obtain ⟨vm', X', step⟩ := X.arraycopy hx hown (hts _ hl) (hts _ hn) (hts _ hst) (hts _ hini) (src := H0.size + a) (dst := H0.size + b) (cs := vp_cell (G.2 12) (mN M a, .inr (.inl (mL M a)))) (cd := vp_cell (G.2 12) (mN M b, .inr (.inl (mL M b)))) (srcPos := sp) (destPos := dp) (n := nn) (by rw [hT]; exact hc0) (by rw [hT]; exact hc1)
    (fun _ h => by cases h) (fun _ h => by cases h) (fun h => by cases h) (fun h => by cases h) hk0 hk1 hkk0 hkk1 (by rfl) h1 h2 h3
    (by rw [hz sp h1, hz nn h3]; show ¬ _ > ((arrV _ _ _).slots.size : Int); rw [arrV_size]; omega)
    (by rw [hz dp h2, hz nn h3]; show ¬ _ > ((arrV _ _ _).slots.size : Int); rw [arrV_size]; omega)
    (fun vm₁ _ i hi => by
      have e : (vp_cell (G.2 12) (mN M a, .inr (.inl (mL M a)))).slots.getD (sp.toNatClampNeg + i) .null = .long (mL M a (sp.toNatClampNeg + i)) := by
        show (arrV _ _ _).slots.getD _ _ = _
        rw [Array.getD_eq_getD_getElem?, arrV_read _ _ (by omega)]
        rfl
      exact ⟨by rw [e]; rfl, by rw [e]; exact trivial⟩)
    (g := F0 m pc ls (.int nn :: .int dp :: .ref (H0.size + b) :: .int sp :: .ref (H0.size + a) :: rest)) rfl (by rw [hml]; exact hls) (rest := rest) rfl (by rw [hb]; exact hdg) hframes (by show 2 * 0 + _ + _ ≤ _; omega)
  have e1 : copied (vp_cell (G.2 12) (mN M a, .inr (.inl (mL M a)))) (vp_cell (G.2 12) (mN M b, .inr (.inl (mL M b)))) sp dp nn = vp_cell (G.2 12) (mN M b, .inr (.inl (va_cpy (mL M a) (mL M b) sp.toNatClampNeg dp.toNatClampNeg nn.toNatClampNeg))) := va_copied (fun z => .long z) (G.2 12) (G.2 12) (mL M a) (mL M b) h4
  rw [e1] at X' step
  have hlt : H0.size + b < H.size := (Array.getElem?_eq_some_iff.mp hc1).1
  subst hT
  have oq : ∀ (v : Cell) (q : Nat), q ≠ H0.size + b → (T.heap.setIfInBounds (H0.size + b) v)[q]? = T.heap[q]? := fun v q hq => by simp [Array.getElem?_setIfInBounds, Ne.symm hq]
  refine (kk _ _ ⟨?_, ?_, ⟨?_, fun q g1 g2 => ?_, fun q hq => ?_⟩, hT⟩ _ rfl X').elim fun t ht => ⟨t, step t ht.1, ht.2⟩
  · show (T.heap.setIfInBounds _ _).size = H0.size + mZ M
    simpa using z1
  · rw [← hset]
    exact hP.set pm_D hat (show (T.heap.setIfInBounds _ _)[_]? = some _ by simp [Array.getElem?_setIfInBounds, hlt]) (oq _)
  · show _ ≤ (T.heap.setIfInBounds _ _).size
    simpa using hS.1
  · show (T.heap.setIfInBounds _ _)[q]? = _
    rw [oq _ q (fun e => g2 (by rw [e]; exact Nat.le_add_right _ _))]
    exact hS.2.1 q g1 g2
  · rcases List.mem_append.mp hq with h | h
    · exact hS.2.2 q h
    · obtain ⟨z, -, hz⟩ := List.mem_map.mp h
      rw [← hz]
      exact Nat.le_add_right _ _
end PMA
end
section
section PMC
variable {p : Program} {l : Launch} {e : Env} {R : Room} {s : State} {m : MethodId} {args : Array Value} {below : List Frame} {meth : Method} {c : Code} {H : Heap} {locs : List Loc} {cells slots : Nat} {Q : State → Prop}
variable {cc : ByteArray} {pc nL : Nat} {own : String} {ls : Array Slot} {rest : List Value} {G : pm_G} {H0 : Heap} {M : pm_M} {a b t k index : Nat} {C : String} {T : u_T} {N : Nat} {i : Int32}
theorem pm_cell_sN {G : pm_G} {z : Nat} {M : pm_M} {b t n : Nat} (h : b < mZ M) : pm_cell G z (sN M t n) b = pm_cell G z M b := by
  have hb : ¬ b = mZ M := Nat.ne_of_lt h
  exact pm_cell_same (funext fun _ => if_neg hb) (funext fun _ => if_neg hb) (funext fun _ => if_neg hb) (if_neg hb) (if_neg hb)
theorem pm_pushed {E1 : va_E} {n : Nat} {H1 : Heap} (hI : pm_I G H0 M H locs) (hz : H1.size = H.size + 1) (ho : ∀ q, q < H.size → H1[q]? = H[q]?) (he : E1 = pm_cell G H0.size (sN M t n) (mZ M)) (hat : va_at G.1 vwCl (H0.size + mZ M, E1) H1) : pm_I G H0 (sN M t n) H1 locs := by
  obtain ⟨h1, hP, hS, hT⟩ := hI
  refine ⟨by rw [hz, h1]; rfl, ?_, ⟨Nat.le_trans hS.1 (by omega), fun q g1 g2 => ?_, hS.2.2⟩, pm_Tn hT⟩
  · rw [← pm_W_push (M' := sN M t n) rfl he (fun b hb => pm_cell_sN hb)]
    refine va_P.app (hP.kept fun k q hk => ho _ ((hP k q hk).lt)) (fun k q hk => ?_)
    have hk0 : k < 1 := (List.getElem?_eq_some_iff.mp hk).1
    rw [show k = 0 by omega] at hk
    cases hk
    exact hat
  · rw [ho q (Nat.lt_of_lt_of_le g1 hS.1)]
    exact hS.2.1 q g1 g2
theorem pm_new {ty : Nat → FieldType} (E : pm_E G p s m args meth c cc nL own) (hI : pm_I G H0 M H locs) (hc : vwCl[t]? = some (C, T, N)) (ht : t < 10) (hnf : pm_nf t = N) (hin : ∀ w ∈ u_ws C T N, w ∈ pm_tbl) (hty : ∀ k, k < N → parseFieldDescriptor (T k).2.2.1 = some (ty k)) (hdf : ∀ k, k < N → defaultValue (ty k) = if pm_rt t k = 99 then .int 0 else .null)
    (hcl : Cond.classLink own index C ∈ pm_tbl) (hinst : Cond.instantiable C N ∈ pm_tbl) (hini : Cond.initialized C ∈ pm_tbl) (hcells : cells + 1 ≤ R.cells) (hslots : slots + N ≤ R.slots) (hdg : decode cc pc = .ok (.new index, 3))
    (kk : ∀ H1 : Heap, pm_I G H0 (sN M t 0) H1 locs → W p l e R s m args below meth c H1 locs (cells + 1) (slots + N) Q (F0 m (pc + 3) ls (.ref (H0.size + mZ M) :: rest))) : W p l e R s m args below meth c H locs cells slots Q (F0 m pc ls rest) := by
  obtain ⟨hx, hb, hml, hown, hts, hK, hlk⟩ := E
  have hKn := hK.1.1 t _ hc
  have hsz : H.size = H0.size + mZ M := hI.1
  refine W.newcK hx hb hown (hts _ hcl) (hts _ hinst) (hts _ hini) rfl hdg hcells hslots hKn.2.1 hsz fun H1 kC hkC e1 z1 o1 => ?_
  refine kk H1 (pm_pushed hI (by rw [z1, hsz]) (fun q hq => o1 q (by rw [← hsz]; exact hq)) (pm_cell_o (show mT (sN M t 0) (mZ M) = t from if_pos rfl) ht).symm ?_)
  refine ⟨_, hc, (u_born ty hts hin hKn hkC e1 hty).to fun k hk => ?_⟩
  rw [hdf k hk]
  show _ = (pm_fs H0.size (sN M t 0) t (mZ M)).getD k .null
  rw [List.getD_eq_getElem?_getD, pm_fs_at (by rw [hnf]; exact hk)]
  show _ = pm_val _ _ _ _ _
  unfold pm_val
  have e3 : mI (sN M t 0) (mZ M) k = 0 := if_pos rfl
  have e4 : mR (sN M t 0) (mZ M) k = none := if_pos rfl
  rw [e3, e4]
  rfl
theorem pm_newa {atype : ArrayType} {ty : FieldType} (t0 : Nat) {nn : Int32} (E : pm_E G p s m args meth c cc nL own) (hI : pm_I G H0 M H locs) (hty : newarray.typeOf atype = ty) (hat : (pm_tys G)[t0]? = some (G.2 t, ty)) (ht : t = 10 ∨ t = 11 ∨ t = 12 ∨ t = 13) (hra : va_RA s (G.2 t) ty = (s.vm.findClass ("[" ++ ty.toString) = some (G.2 t)))
    (hdf : defaultValue ty = if t = 12 then .long 0 else .int 0) (harr : Cond.arrayClass ty ∈ pm_tbl) (hn : ¬ nn < 0) (hN : nn.toNatClampNeg = N) (hbytes : N * componentBytes ty ≤ 536870912) (hcells : cells + 1 ≤ R.cells) (hslots : slots + N ≤ R.slots) (hdg : decode cc pc = .ok (.newarray atype, 2))
    (kk : ∀ H1 : Heap, pm_I G H0 (sN M t N) H1 locs → W p l e R s m args below meth c H1 locs (cells + 1) (slots + N) Q (F0 m (pc + 2) ls (.ref (H0.size + mZ M) :: rest))) : W p l e R s m args below meth c H locs cells slots Q (F0 m pc ls (.int nn :: rest)) := by
  obtain ⟨hx, hb, hml, hown, hts, hK, hlk⟩ := E
  subst hty
  have hsz : H.size = H0.size + mZ M := hI.1
  refine va_newaK hx hb (hts _ harr) rfl hdg rfl hn hN hbytes hcells hslots hsz fun H1 cA e1 z1 o1 hAr hNm => ?_
  have hA := (hK.1.2 t0 _ hat).2
  dsimp only at hA
  rw [hra] at hA
  have hcA : cA = G.2 t := Option.some.inj (hNm.symm.trans hA)
  subst hcA
  have hz0 : mI (sN M t N) (mZ M) = fun _ => 0 := funext fun _ => if_pos rfl
  have hz1 : mL (sN M t N) (mZ M) = fun _ => 0 := funext fun _ => if_pos rfl
  have hz2 : mN (sN M t N) (mZ M) = N := if_pos rfl
  have hz3 : mT (sN M t N) (mZ M) = t := if_pos rfl
  by_cases h12 : t = 12
  · subst h12
    refine kk H1 (pm_pushed hI (by rw [z1, hsz]) (fun q hq => o1 q (by rw [← hsz]; exact hq)) rfl ?_)
    rw [pm_cell_l hz3, hz2, hz1]
    show H1[_]? = some (vp_cell _ _)
    rw [e1, vp_cell_l, hdf]
    rfl
  · refine kk H1 (pm_pushed hI (by rw [z1, hsz]) (fun q hq => o1 q (by rw [← hsz]; exact hq)) rfl ?_)
    rw [pm_cell_i hz3 (by omega), hz2, hz0]
    show H1[_]? = some (vp_cell _ _)
    rw [e1, vp_cell_i, hdf, if_neg h12]
/-! nullable references: loads, stores, tests -/
theorem pm_aload_n {kf : Fin 4} {x : Option Nat} (hexec : p.tables.exec = Jvm.exec) (hb : c.code = cc) (hdg : decode cc pc = .ok (.aload_n kf, 1)) (hi : (kf : Nat) = k) (hl : ls[k]? = some (.val (pm_rf H0.size x)))
    (kk : W p l e R s m args below meth c H locs cells slots Q (F0 m (pc + 1) ls (pm_rf H0.size x :: rest))) : W p l e R s m args below meth c H locs cells slots Q (F0 m pc ls rest) := by
  cases x with
  | none => exact lv_aload_nN hexec hb hdg hi hl kk
  | some q => exact lv_aload_n hexec hb hdg hi hl kk
theorem pm_aload {x : Option Nat} (hexec : p.tables.exec = Jvm.exec) (hb : c.code = cc) (hdg : decode cc pc = .ok (.aload k, 2)) (hl : ls[k]? = some (.val (pm_rf H0.size x)))
    (kk : W p l e R s m args below meth c H locs cells slots Q (F0 m (pc + 2) ls (pm_rf H0.size x :: rest))) : W p l e R s m args below meth c H locs cells slots Q (F0 m pc ls rest) := by
  cases x with
  | none => exact lv_aloadN hexec hb hdg hl kk
  | some q => exact lv_aload hexec hb hdg hl kk
theorem pm_astore_n {kf : Fin 4} {x : Option Nat} {lv lv' : List (Nat × Value)} (hexec : p.tables.exec = Jvm.exec) (hb : c.code = cc) (hdg : decode cc pc = .ok (.astore_n kf, 1)) (hi : (kf : Nat) = k) (h : lv_has ls nL lv) (hn : k < nL) (hl : (k, pm_rf H0.size x) :: lv.filter (fun q => !(q.1 == k) && !(q.1 + 1 == k && q.2.category == 2)) = lv')
    (kk : ∀ ls : Array Slot, lv_has ls nL lv' → W p l e R s m args below meth c H locs cells slots Q (F0 m (pc + 1) ls rest)) : W p l e R s m args below meth c H locs cells slots Q (F0 m pc ls (pm_rf H0.size x :: rest)) := by
  cases x with
  | none => exact lv_astore_nN hexec hb hdg hi h hn hl kk
  | some q => exact lv_astore_n hexec hb hdg hi h hn hl kk
theorem pm_astore {x : Option Nat} {lv lv' : List (Nat × Value)} (hexec : p.tables.exec = Jvm.exec) (hb : c.code = cc) (hdg : decode cc pc = .ok (.astore k, 2)) (h : lv_has ls nL lv) (hn : k < nL) (hl : (k, pm_rf H0.size x) :: lv.filter (fun q => !(q.1 == k) && !(q.1 + 1 == k && q.2.category == 2)) = lv')
    (kk : ∀ ls : Array Slot, lv_has ls nL lv' → W p l e R s m args below meth c H locs cells slots Q (F0 m (pc + 2) ls rest)) : W p l e R s m args below meth c H locs cells slots Q (F0 m pc ls (pm_rf H0.size x :: rest)) := by
  cases x with
  | none => exact lv_astoreN hexec hb hdg h hn hl kk
  | some q => exact lv_astore hexec hb hdg h hn hl kk
theorem pm_ifnull {x : Option Nat} {off : Int} {tgt : Nat} (hexec : p.tables.exec = Jvm.exec) (hb : c.code = cc) (hdg : decode cc pc = .ok (.ifnull off, 3)) (ht : (pc : Int) + off = (tgt : Int))
    (kt : x = none → W p l e R s m args below meth c H locs cells slots Q (F0 m tgt ls rest)) (kf : ∀ q, x = some q → W p l e R s m args below meth c H locs cells slots Q (F0 m (pc + 3) ls rest)) : W p l e R s m args below meth c H locs cells slots Q (F0 m pc ls (pm_rf H0.size x :: rest)) := by
  cases x with
  | none => exact lv_ifnullN hexec hb hdg ht (kt rfl)
  | some q => exact lv_ifnull hexec hb hdg (kf q rfl)
theorem pm_ifnonnull {x : Option Nat} {off : Int} {tgt : Nat} (hexec : p.tables.exec = Jvm.exec) (hb : c.code = cc) (hdg : decode cc pc = .ok (.ifnonnull off, 3)) (ht : (pc : Int) + off = (tgt : Int))
    (kt : ∀ q, x = some q → W p l e R s m args below meth c H locs cells slots Q (F0 m tgt ls rest)) (kf : x = none → W p l e R s m args below meth c H locs cells slots Q (F0 m (pc + 3) ls rest)) : W p l e R s m args below meth c H locs cells slots Q (F0 m pc ls (pm_rf H0.size x :: rest)) := by
  cases x with
  | none => exact lv_ifnonnullN hexec hb hdg (kf rfl)
  | some q => exact lv_ifnonnull hexec hb hdg ht (kt q rfl)
/-! contracts -/
def pm_Qc (G : pm_G) (H0 : Heap) (M : pm_M) (Post : Option Value → pm_M → Prop) : Array Value → State → Outcome → State → Prop := fun _ _ o t => ∃ (r : Option Value) (M' : pm_M), o = .returned r ∧ Post r M' ∧ pm_X M M' ∧ pm_I G H0 M' t.heap []
/-- the method y, called with these values at the memory M, ends; Post of what it gives and leaves -/
def pm_C (l : Launch) (G : pm_G) (H0 : Heap) (y : MethodName) (bytes : ByteArray) (maxL : Nat) (ret : Option FieldType) (rm : Room) (avs : List Value) (M : pm_M) (Post : Option Value → pm_M → Prop) : Prop :=
  Met l y [Cond.code y bytes maxL ret] rm (fun v U => v = avs.toArray ∧ pm_I G H0 M U.heap [] ∧ pm_K G U) (pm_Qc G H0 M Post) rm.cells rm.slots (fun q => H0.size ≤ q)
def pm_Z (G : pm_G) (H0 : Heap) (M : pm_M) (Post : Option Value → pm_M → Prop) (below : List Frame) (args : Array Value) (s : State) (mc ms : Nat) : State → Prop := MQ below (pm_Qc G H0 M Post) args s mc ms (fun q => H0.size ≤ q)
theorem pm_S0 {H0 H : Heap} {locs : List Loc} (h : va_S (fun q : Nat => H0.size ≤ q) H0 H locs) : va_S (fun q : Nat => H0.size ≤ q) H0 H [] := ⟨h.1, h.2.1, fun q hq => by cases hq⟩
theorem pm_I0 (h : pm_I G H0 M H locs) : pm_I G H0 M H [] := ⟨h.1, h.2.1, pm_S0 h.2.2.1, h.2.2.2⟩
theorem pm_start {y : MethodName} {bytes : ByteArray} {maxL : Nat} {ret : Option FieldType} {rm : Room} {avs : List Value} {Post : Option Value → pm_M → Prop} (hy : plainName y.cls = true) (hlen : (lg_sl avs).length ≤ maxL)
    (body : ∀ (p : Program) (e : Env) (s : State) (m : MethodId) (args : Array Value) (below : List Frame) (meth : Method) (c : Code) (H : Heap) (ls : Array Slot), pm_E G p s m args meth c bytes maxL y.cls → meth.sig.returnType = ret → meth.name = y.name → pm_I G H0 M H [] → lv_has ls maxL (lv_args 0 avs) →
      W p l e rm s m args below meth c H [] 0 0 (pm_Z G H0 M Post below args s rm.cells rm.slots) (F0 m 0 ls [])) : pm_C l G H0 y bytes maxL ret rm avs M Post := by
  refine Met.ofW (cc := bytes) (maxL := maxL) (ret := ret) hy rfl ?_
  intro p e s m args below meth c s₁ B hml hv
  obtain ⟨rfl, hI, hK⟩ := hv
  have hown : s.vm.findClass y.cls = some m.cls := findClass_of_methodNamed B.named
  have hl := lv_entry avs (n := maxL) hlen
  rw [lg_entry_eq]
  exact body p e s m _ below meth c s.heap _ ⟨B.exec, B.bytes, hml, hown, pm_tbl_ok hK, hK, B.notSynchronized⟩ B.returns (name_of_methodNamed B.named B.method).1 hI hl
theorem pm_end {cells slots mc ms : Nat} {M0 : pm_M} {Post : Option Value → pm_M → Prop} {r : Option Value} (hI : pm_I G H0 M H locs) (hX : pm_X M0 M) (hp : Post r M) : ∀ t : State, t.heap = H → s.WarmedH t.vm → pm_Qc G H0 M0 Post args s (.returned r) t := fun t ht _ => ⟨r, M, rfl, hp, hX, by rw [ht]; exact pm_I0 hI⟩
theorem pm_iret {mc ms : Nat} {M0 : pm_M} {Post : Option Value → pm_M → Prop} {v : Int32} (E : pm_E G p s m args meth c cc nL own) (hr : meth.sig.returnType = some .int) (hI : pm_I G H0 M H locs) (hX : pm_X M0 M) (hp : Post (some (.int v)) M) (hc : cells ≤ mc) (hs : slots ≤ ms) (hdg : decode cc pc = .ok (.ireturn, 1)) : W p l e R s m args below meth c H locs cells slots (pm_Z G H0 M0 Post below args s mc ms) (F0 m pc ls [.int v]) := by
  obtain ⟨hx, hb, hml, hown, hts, hK, hlk⟩ := E
  refine W.widen hc hs ?_
  exact W.iret hx hb hr (pm_end (cells := 0) (slots := 0) (mc := 0) (ms := 0) hI hX hp) (fun q hq => hI.2.2.1.2.2 q hq) hdg hlk
theorem pm_zret {mc ms : Nat} {M0 : pm_M} {Post : Option Value → pm_M → Prop} {v : Int32} (E : pm_E G p s m args meth c cc nL own) (hr : meth.sig.returnType = some .boolean) (hI : pm_I G H0 M H locs) (hX : pm_X M0 M) (hn : narrow .boolean (.int v) = .int v) (hp : Post (some (.int v)) M) (hc : cells ≤ mc) (hs : slots ≤ ms) (hdg : decode cc pc = .ok (.ireturn, 1)) : W p l e R s m args below meth c H locs cells slots (pm_Z G H0 M0 Post below args s mc ms) (F0 m pc ls [.int v]) := by
  obtain ⟨hx, hb, hml, hown, hts, hK, hlk⟩ := E
  refine W.widen hc hs ?_
  exact W.zret hx hb hr hn (pm_end (cells := 0) (slots := 0) (mc := 0) (ms := 0) hI hX hp) (fun q hq => hI.2.2.1.2.2 q hq) hdg hlk
theorem pm_lret {mc ms : Nat} {M0 : pm_M} {Post : Option Value → pm_M → Prop} {v : Int64} (E : pm_E G p s m args meth c cc nL own) (hr : meth.sig.returnType = some .long) (hI : pm_I G H0 M H locs) (hX : pm_X M0 M) (hp : Post (some (.long v)) M) (hc : cells ≤ mc) (hs : slots ≤ ms) (hdg : decode cc pc = .ok (.lreturn, 1)) : W p l e R s m args below meth c H locs cells slots (pm_Z G H0 M0 Post below args s mc ms) (F0 m pc ls [.long v]) := by
  obtain ⟨hx, hb, hml, hown, hts, hK, hlk⟩ := E
  refine W.widen hc hs ?_
  exact W.lret hx hb hr (pm_end (cells := 0) (slots := 0) (mc := 0) (ms := 0) hI hX hp) (fun q hq => hI.2.2.1.2.2 q hq) hdg hlk
theorem pm_vret {mc ms : Nat} {M0 : pm_M} {Post : Option Value → pm_M → Prop} (E : pm_E G p s m args meth c cc nL own) (hr : meth.sig.returnType = none) (hI : pm_I G H0 M H locs) (hX : pm_X M0 M) (hp : Post none M) (hc : cells ≤ mc) (hs : slots ≤ ms) (hdg : decode cc pc = .ok (.return_, 1)) : W p l e R s m args below meth c H locs cells slots (pm_Z G H0 M0 Post below args s mc ms) (F0 m pc ls []) := by
  obtain ⟨hx, hb, hml, hown, hts, hK, hlk⟩ := E
  refine W.widen hc hs ?_
  exact W.vret hx hb hr (pm_end (cells := 0) (slots := 0) (mc := 0) (ms := 0) hI hX hp) (fun q hq => hI.2.2.1.2.2 q hq) hdg hlk
theorem pm_aret {mc ms : Nat} {M0 : pm_M} {Post : Option Value → pm_M → Prop} {x : Option Nat} {nm : String} (E : pm_E G p s m args meth c cc nL own) (hr : meth.sig.returnType = some (.object nm)) (hI : pm_I G H0 M H locs) (hX : pm_X M0 M) (hp : Post (some (pm_rf H0.size x)) M) (hc : cells ≤ mc) (hs : slots ≤ ms) (hdg : decode cc pc = .ok (.areturn, 1)) : W p l e R s m args below meth c H locs cells slots (pm_Z G H0 M0 Post below args s mc ms) (F0 m pc ls [pm_rf H0.size x]) := by
  obtain ⟨hx, hb, hml, hown, hts, hK, hlk⟩ := E
  refine W.widen hc hs ?_
  exact W.aret hx hb hr (Or.inl ⟨_, rfl⟩) (by cases x; exact Or.inl rfl; exact Or.inr ⟨_, rfl⟩) (pm_end (cells := 0) (slots := 0) (mc := 0) (ms := 0) hI hX hp) (fun q hq => hI.2.2.1.2.2 q hq) hdg hlk
/-! calls -/
theorem pm_go {mc ms : Nat} {g : JFrame} {as : Array Value} {Post : Option Value → pm_M → Prop} (hI : pm_I G H0 M H locs) (hr : CallRun p l e R s m args below meth c H locs cells slots mc ms g rest (pm_Qc G H0 M Post as) (fun q => H0.size ≤ q))
    (kk : ∀ (r : Option Value) (M' : pm_M) (H1 : Heap) (locs1 : List Loc), Post r M' → pm_X M M' → pm_I G H0 M' H1 locs1 → W p l e R s m args below meth c H1 locs1 (cells + mc) (slots + ms) Q { g with pc := g.pc + 3, stack := r.toList ++ rest }) : W p l e R s m args below meth c H locs cells slots Q g := by
  intro T hT X
  obtain ⟨v, st₀, t, T', L, h0, X', hL, e1, ⟨r, M', er, hp, hX, hI'⟩, st⟩ := hr T hT X
  cases er
  obtain ⟨t2, a1, b1⟩ := kk v M' t.heap (locs ++ L) hp hX ⟨hI'.1, hI'.2.1, ⟨hI'.2.2.1.1, hI'.2.2.1.2.1, fun q hq => (List.mem_append.mp hq).elim (hI.2.2.1.2.2 q) (hL q)⟩, hI'.2.2.2⟩ T' e1 X'
  exact ⟨t2, st t2 a1, b1⟩
theorem pm_good {w : Cond} (h : w ∈ pm_tbl) : GoodIn pm_tbl [w] := by
  intro x hx
  rw [List.mem_singleton.mp hx]
  exact ⟨h, good_of_word (List.mem_filter.mp h).2⟩
theorem pm_recv (E : pm_E G p s m args meth c cc nL own) (hI : pm_I G H0 M H locs) (ha : pm_is M a t) (hc : vwCl[t]? = some (C, T, N)) (ht : t < 10) : ∃ cell : Cell, H[H0.size + a]? = some cell ∧ cell.vm.isStatics = false ∧ s.vm.findClass C = some cell.cls := by
  obtain ⟨hx, hb, hml, hown, hts, hK, hlk⟩ := E
  have he : (pm_W G H0.size M)[a]? = some (H0.size + a, .inr (t, pm_fs H0.size M t a)) := by rw [pm_get ha.1, pm_cell_o ha.2 ht]
  exact va_recv hK.1 hI.2.1 hc he
theorem pm_pre {s : State} {avs : List Value} (hK : pm_K G s) (hI : pm_I G H0 M H locs) : FrameBlind (fun v U => v = avs.toArray ∧ pm_I G H0 M U.heap [] ∧ pm_K G U) ∧ ∀ U : State, U.heap = H → s.WarmedH U.vm → (avs.toArray = avs.toArray ∧ pm_I G H0 M U.heap [] ∧ pm_K G U) := by
  refine ⟨fun a U g mk q => ⟨q.1, q.2.1, pm_K.warm (U := U.calling g mk a) (State.WarmedH.refl U) q.2.2⟩, fun U hU hW => ⟨rfl, by rw [hU]; exact pm_I0 hI, hK.warm hW⟩⟩
end PMC
end
section
section PMD
variable {p : Program} {l : Launch} {e : Env} {R : Room} {s : State} {m : MethodId} {args : Array Value} {below : List Frame} {meth : Method} {c : Code} {H : Heap} {locs : List Loc} {cells slots : Nat} {Q : State → Prop}
variable {cc bytes : ByteArray} {pc nL maxL index : Nat} {own : String} {ls : Array Slot} {rest As stk : List Value} {G : pm_G} {H0 : Heap} {M : pm_M} {a b t k : Nat} {C : String} {T : u_T} {N : Nat} {y : MethodName} {ret : Option FieldType} {rm : Room} {Post : Option Value → pm_M → Prop}
/-- a method of the receiver's own class (private, or found by its name) -/
theorem pm_callV (n : Nat) (E : pm_E G p s m args meth c cc nL own) (hI : pm_I G H0 M H locs) (hC : pm_C l G H0 y bytes maxL ret rm (.ref (H0.size + b) :: As) M Post) (hb : pm_is M b t) (ht : t < 10) (hc : vwCl[t]? = some (C, T, N)) (hcode : Cond.code y bytes maxL ret ∈ pm_tbl) (hl : Cond.methodLink own index y ∈ pm_tbl) (hin : Cond.instanceMethod y ∈ pm_tbl) (hsel : Cond.selects C y y ∈ pm_tbl) (hini : Cond.initialized C ∈ pm_tbl)
    (hd : y.cls = C ∧ y.cls ≠ "java/lang/invoke/MethodHandle" ∧ y.cls ≠ "java/lang/invoke/VarHandle" ∧ (parseMethodDescriptor y.desc).map (fun d => d.parameters.length) = some n) (hR : rm.frames + 1 ≤ R.frames ∧ 8 + (maxL + 11) + rm.locals ≤ R.locals) (hn : As.length = n) (hls : ls.size = nL) (hstk : stk = As.reverse ++ .ref (H0.size + b) :: rest) (hW : (rest.map fun v => v.category).sum ≤ 8) (hdg : decode cc pc = .ok (.invokevirtual index, 3)) (hf : cells + rm.cells ≤ R.cells ∧ slots + rm.slots ≤ R.slots)
    (kk : ∀ (r : Option Value) (M' : pm_M) (H1 : Heap) (locs1 : List Loc), Post r M' → pm_X M M' → pm_I G H0 M' H1 locs1 → W p l e R s m args below meth c H1 locs1 (cells + rm.cells) (slots + rm.slots) Q (F0 m (pc + 3) ls (r.toList ++ rest))) : W p l e R s m args below meth c H locs cells slots Q (F0 m pc ls stk) := by
  have hrecv := pm_recv E hI hb hc ht
  obtain ⟨hx, hbb, hml, hown, hts, hK, hlk⟩ := E
  have hpre := pm_pre (avs := .ref (H0.size + b) :: As) hK hI
  subst hstk
  have hsub : GoodIn pm_tbl (wsV own index C y [Cond.code y bytes maxL ret]) := by
    intro w hw
    have hm : w ∈ pm_tbl := by
      simp only [wsV, List.mem_append, List.mem_cons, List.not_mem_nil, or_false] at hw
      rcases hw with (rfl | rfl | rfl | rfl) | rfl <;> assumption
    exact ⟨hm, good_of_word (List.mem_filter.mp hm).2⟩
  refine pm_go hI (W.runV (C := C) ⟨hx, hbb, hml, hown, hts⟩ hC (cwV n hts hsub rfl rfl rfl hd hR) ⟨hpre.1, hrecv, hpre.2⟩ rfl hn hls rfl (by show 2 * 0 + _ ≤ 8; omega) hdg hf) kk
theorem pm_callI (n : Nat) (E : pm_E G p s m args meth c cc nL own) (hI : pm_I G H0 M H locs) (hC : pm_C l G H0 y bytes maxL none rm (.ref (H0.size + b) :: As) M Post) (hcode : Cond.code y bytes maxL none ∈ pm_tbl) (hl : Cond.methodLink own index y ∈ pm_tbl) (hin : Cond.instanceMethod y ∈ pm_tbl) (hini : Cond.initialized y.cls ∈ pm_tbl) (hnm : y.name = "<init>")
    (hd : y.cls ≠ "java/lang/invoke/MethodHandle" ∧ y.cls ≠ "java/lang/invoke/VarHandle" ∧ (parseMethodDescriptor y.desc).map (fun d => d.parameters.length) = some n) (hR : rm.frames + 1 ≤ R.frames ∧ 8 + (maxL + 11) + rm.locals ≤ R.locals) (hn : As.length = n) (hls : ls.size = nL) (hstk : stk = As.reverse ++ .ref (H0.size + b) :: rest) (hW : (rest.map fun v => v.category).sum ≤ 8) (hdg : decode cc pc = .ok (.invokespecial index, 3)) (hf : cells + rm.cells ≤ R.cells ∧ slots + rm.slots ≤ R.slots)
    (kk : ∀ (r : Option Value) (M' : pm_M) (H1 : Heap) (locs1 : List Loc), Post r M' → pm_X M M' → pm_I G H0 M' H1 locs1 → W p l e R s m args below meth c H1 locs1 (cells + rm.cells) (slots + rm.slots) Q (F0 m (pc + 3) ls (r.toList ++ rest))) : W p l e R s m args below meth c H locs cells slots Q (F0 m pc ls stk) := by
  obtain ⟨hx, hbb, hml, hown, hts, hK, hlk⟩ := E
  have hpre := pm_pre (avs := .ref (H0.size + b) :: As) hK hI
  subst hstk
  exact pm_go hI (W.runI ⟨hx, hbb, hml, hown, hts⟩ hC (cwI n hts (pm_good hcode) rfl rfl rfl (hts _ hini) (hts _ hl) (hts _ hin) hnm hd hR) hpre rfl hn hls rfl (by show 2 * 0 + _ ≤ 8; omega) hdg hf) kk
theorem pm_run {mc ms : Nat} {g : JFrame} {Qa : State → Outcome → State → Prop} {free : Addr → Prop} (h : va_Run p l e R s m args below meth c H locs cells slots mc ms g rest Qa free) : CallRun p l e R s m args below meth c H locs cells slots mc ms g rest Qa free := by
  intro T hT X
  obtain ⟨v, st₀, t, T', L, h0, X', hL, e1, e2, hq, st⟩ := h T hT X
  exact ⟨v, st₀, t, T', L, h0, X', hL, e1, hq, st⟩
theorem pm_callIN {host : String} (n : Nat) (E : pm_E G p s m args meth c cc nL own) (hI : pm_I G H0 M H locs) (hC : pm_C l G H0 y bytes maxL none rm (.ref (H0.size + b) :: As) M Post) (hcode : Cond.code y bytes maxL none ∈ pm_tbl) (hl : Cond.methodLinkNest own index y host ∈ lw_tbl) (hin : Cond.instanceMethod y ∈ pm_tbl) (hini : Cond.initialized y.cls ∈ pm_tbl) (hnm : y.name = "<init>")
    (hd : y.cls ≠ "java/lang/invoke/MethodHandle" ∧ y.cls ≠ "java/lang/invoke/VarHandle" ∧ (parseMethodDescriptor y.desc).map (fun d => d.parameters.length) = some n) (hR : rm.frames + 1 ≤ R.frames ∧ 8 + (maxL + 11) + rm.locals ≤ R.locals) (hn : As.length = n) (hls : ls.size = nL) (hstk : stk = As.reverse ++ .ref (H0.size + b) :: rest) (hW : (rest.map fun v => v.category).sum ≤ 8) (hdg : decode cc pc = .ok (.invokespecial index, 3)) (hf : cells + rm.cells ≤ R.cells ∧ slots + rm.slots ≤ R.slots)
    (kk : ∀ (r : Option Value) (M' : pm_M) (H1 : Heap) (locs1 : List Loc), Post r M' → pm_X M M' → pm_I G H0 M' H1 locs1 → W p l e R s m args below meth c H1 locs1 (cells + rm.cells) (slots + rm.slots) Q (F0 m (pc + 3) ls (r.toList ++ rest))) : W p l e R s m args below meth c H locs cells slots Q (F0 m pc ls stk) := by
  obtain ⟨hx, hbb, hml, hown, hts, hK, hlk⟩ := E
  have hpre := pm_pre (avs := .ref (H0.size + b) :: As) hK hI
  subst hstk
  exact pm_go hI (pm_run (va_runIN ⟨hx, hbb, hml, hown, hts⟩ hC ⟨va_cnB n hts (pm_good hcode) rfl rfl rfl (hK.2.2.1 _ hl rfl) (hts _ hini) hd hR, hnm, hts _ hin⟩ hpre rfl hn hls rfl (by show 2 * 0 + _ ≤ 8; omega) hdg hf)) kk
theorem pm_callS (n : Nat) (E : pm_E G p s m args meth c cc nL own) (hI : pm_I G H0 M H locs) (hC : pm_C l G H0 y bytes maxL ret rm As M Post) (hcode : Cond.code y bytes maxL ret ∈ pm_tbl) (hl : Cond.methodLink own index y ∈ pm_tbl) (hst : Cond.static y ∈ pm_tbl) (hini : Cond.initialized y.cls ∈ pm_tbl)
    (hd : y.cls ≠ "java/lang/invoke/MethodHandle" ∧ y.cls ≠ "java/lang/invoke/VarHandle" ∧ (parseMethodDescriptor y.desc).map (fun d => d.parameters.length) = some n) (hR : rm.frames + 1 ≤ R.frames ∧ 8 + (maxL + 11) + rm.locals ≤ R.locals) (hn : As.length = n) (hls : ls.size = nL) (hstk : stk = As.reverse ++ rest) (hW : (rest.map fun v => v.category).sum ≤ 8) (hdg : decode cc pc = .ok (.invokestatic index, 3)) (hf : cells + rm.cells ≤ R.cells ∧ slots + rm.slots ≤ R.slots)
    (kk : ∀ (r : Option Value) (M' : pm_M) (H1 : Heap) (locs1 : List Loc), Post r M' → pm_X M M' → pm_I G H0 M' H1 locs1 → W p l e R s m args below meth c H1 locs1 (cells + rm.cells) (slots + rm.slots) Q (F0 m (pc + 3) ls (r.toList ++ rest))) : W p l e R s m args below meth c H locs cells slots Q (F0 m pc ls stk) := by
  obtain ⟨hx, hbb, hml, hown, hts, hK, hlk⟩ := E
  have hpre := pm_pre (avs := As) hK hI
  subst hstk
  exact pm_go hI (W.runS ⟨hx, hbb, hml, hown, hts⟩ hC ⟨callB_of n hts (pm_good hcode) rfl rfl rfl (hts _ hini) (hts _ hl) hd hR, hts _ hst⟩ hpre rfl hn hls rfl (by show 2 * 0 + _ ≤ 8; omega) hdg hf) kk
theorem pm_callF (n : Nat) {x : MethodName} {count : Nat} (E : pm_E G p s m args meth c cc nL own) (hI : pm_I G H0 M H locs) (hC : pm_C l G H0 y bytes maxL ret rm (.ref (H0.size + b) :: As) M Post) (hb : pm_is M b t) (ht : t < 10) (hc : vwCl[t]? = some (C, T, N)) (hFw : va_Fw C x y s) (hcode : Cond.code y bytes maxL ret ∈ pm_tbl) (hl : Cond.methodLink own index x ∈ pm_tbl) (hin : Cond.instanceMethod y ∈ pm_tbl) (hsel : Cond.selects C x y ∈ pm_tbl) (hini : Cond.initialized y.cls ∈ pm_tbl)
    (hd : x.cls ≠ "java/lang/invoke/MethodHandle" ∧ x.cls ≠ "java/lang/invoke/VarHandle" ∧ (parseMethodDescriptor x.desc).map (fun d => d.parameters.length) = some n) (hR : rm.frames + 1 ≤ R.frames ∧ 8 + (maxL + 11) + rm.locals ≤ R.locals) (hn : As.length = n) (hls : ls.size = nL) (hstk : stk = As.reverse ++ .ref (H0.size + b) :: rest) (hW : (rest.map fun v => v.category).sum ≤ 8) (hdg : decode cc pc = .ok (.invokeinterface index count, 5)) (hf : cells + rm.cells ≤ R.cells ∧ slots + rm.slots ≤ R.slots)
    (kk : ∀ (r : Option Value) (M' : pm_M) (H1 : Heap) (locs1 : List Loc), Post r M' → pm_X M M' → pm_I G H0 M' H1 locs1 → W p l e R s m args below meth c H1 locs1 (cells + rm.cells) (slots + rm.slots) Q (F0 m (pc + 5) ls (r.toList ++ rest))) : W p l e R s m args below meth c H locs cells slots Q (F0 m pc ls stk) := by
  have hrecv := pm_recv E hI hb hc ht
  obtain ⟨hx, hbb, hml, hown, hts, hK, hlk⟩ := E
  have hpre := pm_pre (avs := .ref (H0.size + b) :: As) hK hI
  subst hstk
  have hsub : GoodIn pm_tbl (va_wsF own index C x y [Cond.code y bytes maxL ret]) := by
    intro w hw
    have hm : w ∈ pm_tbl := by
      simp only [va_wsF, List.mem_append, List.mem_cons, List.not_mem_nil, or_false] at hw
      rcases hw with (rfl | rfl | rfl | rfl) | rfl <;> assumption
    exact ⟨hm, good_of_word (List.mem_filter.mp hm).2⟩
  have hr := va_runF (e := e) (below := below) (meth := meth) (locs := locs) (C := C) (hK.1.1 t _ hc).2 ⟨hx, hbb, hml, hown, hts⟩ hC (va_cwF n hts hsub rfl rfl rfl hFw hd hR) ⟨hpre.1, hrecv, hpre.2⟩ (g := F0 m pc ls (As.reverse ++ .ref (H0.size + b) :: rest)) (rest := rest) rfl hn hls rfl (by show 2 * 0 + _ ≤ 8; omega) hdg hf
  intro T hT X
  obtain ⟨v, st₀, t, T', L, h0, X', hL, e1, e2, ⟨r, M', er, hp, hX, hI'⟩, st⟩ := hr T hT X
  cases er
  obtain ⟨t2, a1, b1⟩ := kk v M' t.heap (locs ++ L) hp hX ⟨hI'.1, hI'.2.1, ⟨hI'.2.2.1.1, hI'.2.2.1.2.1, fun q hq => (List.mem_append.mp hq).elim (hI.2.2.1.2.2 q) (hL q)⟩, hI'.2.2.2⟩ T' e1 X'
  exact ⟨t2, st t2 a1, b1⟩
theorem pm_objInit (E : pm_E G p s m args meth c cc nL own) (hls : ls.size = nL) (hl : Cond.methodLink own index Lib.objectInit ∈ pm_tbl) (hin : Cond.instanceMethod Lib.objectInit ∈ pm_tbl) (hcode : Cond.code Lib.objectInit ⟨#[0xb1]⟩ 1 none ∈ pm_tbl) (hdg : decode cc pc = .ok (.invokespecial index, 3)) (hfr : 1 ≤ R.frames) (hlo : (rest.map fun v => v.category).sum + 12 ≤ R.locals)
    (kk : W p l e R s m args below meth c H locs cells slots Q (F0 m (pc + 3) ls rest)) : W p l e R s m args below meth c H locs cells slots Q (F0 m pc ls (.ref a :: rest)) := by
  obtain ⟨hx, hbb, hml, hown, hts, hK, hlk⟩ := E
  exact W.objInit hx hbb hown (hts _ hl) (hts _ hin) (hts _ hcode) rfl (hls.trans hml.symm) rfl hdg hfr (by show 2 * 0 + _ + 12 ≤ _; omega) kk
theorem pm_anew {nn : Int32} (t0 : Nat) (E : pm_E G p s m args meth c cc nL own) (hI : pm_I G H0 M H locs) (hat : (pm_tys G)[t0]? = some (G.2 t, .object C)) (ht : t = 14 ∨ t = 15) (hcl : Cond.classLink own index C ∈ pm_tbl) (hov : va_AO C s) (hn : ¬ nn < 0) (hN : nn.toNatClampNeg = N) (hbytes : N * 4 ≤ 536870912) (hcells : cells + 1 ≤ R.cells) (hslots : slots + N ≤ R.slots) (hdg : decode cc pc = .ok (.anewarray index, 3))
    (kk : ∀ H1 : Heap, pm_I G H0 (sN M t N) H1 locs → W p l e R s m args below meth c H1 locs (cells + 1) (slots + N) Q (F0 m (pc + 3) ls (.ref (H0.size + mZ M) :: rest))) : W p l e R s m args below meth c H locs cells slots Q (F0 m pc ls (.int nn :: rest)) := by
  obtain ⟨hx, hb, hml, hown, hts, hK, hlk⟩ := E
  subst hN
  have hsz : H.size = H0.size + mZ M := hI.1
  refine W.anew hx hb hown (hts _ hcl) (va_AO.use hov) rfl hdg rfl hn hbytes hcells hslots fun cA kA comp h1 h2 h3 h4 => ?_
  obtain ⟨kA', comp', -, -, -, hA⟩ := (hK.1.2 t0 _ hat).2
  have hcA : cA = G.2 t := Option.some.inj (h1.symm.trans hA)
  subst hcA
  refine W.eq (g2 := F0 m (pc + 3) ls (.ref (H0.size + mZ M) :: rest)) (by rw [hsz]) (kk _ (pm_pushed hI (by simp) (fun q hq => by rw [Array.getElem?_push, if_neg (Nat.ne_of_lt hq)]) rfl ?_))
  have hz0 : mR (sN M t nn.toNatClampNeg) (mZ M) = fun _ => none := funext fun _ => if_pos rfl
  have hz2 : mN (sN M t nn.toNatClampNeg) (mZ M) = nn.toNatClampNeg := if_pos rfl
  have hz3 : mT (sN M t nn.toNatClampNeg) (mZ M) = t := if_pos rfl
  rw [pm_cell_r hz3 (by omega), hz2, hz0]
  show (H.push _)[_]? = some (vp_cell _ _)
  rw [vp_cell_q, ← hsz, Array.getElem?_push, if_pos rfl, arrV_new]
  rfl
end PMD
end
section
section PMN
variable {p : Program} {l : Launch} {e : Env} {R : Room} {s : State} {m : MethodId} {args : Array Value} {below : List Frame} {meth : Method} {c : Code} {H : Heap} {locs : List Loc} {cells slots : Nat} {Q : State → Prop}
variable {cc : ByteArray} {pc nL : Nat} {own : String} {ls : Array Slot} {rest : List Value} {G : pm_G} {H0 : Heap} {M : pm_M} {a b t k n index : Nat} {C : String} {T : u_T} {N : Nat} {i : Int32}
theorem pm_putIN {host : String} {ty0 : Nat → FieldType} {v : Int32} (E : pm_E G p s m args meth c cc nL own) (hI : pm_I G H0 M H locs) (ha : pm_is M a t) (hc : vwCl[t]? = some (C, T, N)) (ht : t < 10) (hk : k < N) (hnf : pm_nf t = N) (hr : pm_rt t k = 99) (hin : ∀ w ∈ u_ws C T N, w ∈ pm_tbl) (hty : ∀ k, k < N → parseFieldDescriptor (T k).2.2.1 = some (ty0 k)) (hnm : ∀ a, a < N → ∀ b, b < N → a ≠ b → (T a).2.1 ≠ (T b).2.1) (hl : Cond.fieldLinkNest own index (T k).1 (T k).2.1 (T k).2.2.1 host ∈ lw_tbl) (hd : parseFieldDescriptor (T k).2.2.1 = some .int) (hfin : (T k).2.2.2 = false ∨ False) (hdg : decode cc pc = .ok (.putfield index, 3))
    (kk : ∀ (H1 : Heap) (locs1 : List Loc), pm_I G H0 (sI M a k v) H1 locs1 → W p l e R s m args below meth c H1 locs1 cells slots Q (F0 m (pc + 3) ls rest)) : W p l e R s m args below meth c H locs cells slots Q (F0 m pc ls (.int v :: .ref (H0.size + a) :: rest)) := by
  obtain ⟨hx, hb, hml, hown, hts, hK, hlk⟩ := E
  obtain ⟨h1, hP, hS, hT⟩ := hI
  have he : (pm_W G H0.size M)[a]? = some (H0.size + a, .inr (t, pm_fs H0.size M t a)) := by rw [pm_get ha.1, pm_cell_o ha.2 ht]
  have hset : (pm_W G H0.size M).set a (H0.size + a, .inr (t, (pm_fs H0.size M t a).set k (.int v))) = pm_W G H0.size (sI M a k v) :=
    pm_set rfl (by rw [pm_cell_o (show mT (sI M a k v) a = t from ha.2) ht, pm_fs_sI hr]) (fun b hb => pm_cell_sI hb)
  have hlen : k < (pm_fs H0.size M t a).length := by rw [pm_fs_len, hnf]; exact hk
  have hk2 : ∀ (H1 : Heap) (locs1 : List Loc), va_P G.1 vwCl ((pm_W G H0.size M).set a (H0.size + a, .inr (t, (pm_fs H0.size M t a).set k (.int v)))) H1 → H1.size = H.size → va_S (fun q : Nat => H0.size ≤ q) H0 H1 locs1 → W p l e R s m args below meth c H1 locs1 cells slots Q (F0 m (pc + 3) ls rest) := fun H1 locs1 g1 g2 g3 => kk H1 locs1 ⟨by rw [g2]; exact h1, by rw [← hset]; exact g1, g3, pm_Ti hT⟩
  have hap := va_apart (own := own) hts hin ty0 hty hnm hK.1 hc
  obtain ⟨r, e1, cell, q1, q2, q3, q4⟩ := hP a _ he
  have hr : r = (C, T, N) := Option.some.inj (e1.symm.trans hc)
  subst hr
  obtain ⟨hS1, hfc, kC, hkC, hkind⟩ := hK.1.1 t _ hc
  obtain ⟨cf, kf, fi, f, hi, hsl⟩ := hS1 k hk
  have hlay := hts _ (hin _ (u_in_lay hk))
  unfold u_lay at hlay
  have hst := (u_facts hfc hkC (u_lays hts hin hk) hi).1
  have fin : ∀ H' : Heap, H'[H0.size + a]? = some (cell.setSlot f.slot (.int v)) → H'.size = H.size → (∀ q, q ≠ H0.size + a → H'[q]? = H[q]?) → W p l e R s m args below meth c H' (locs ++ [⟨H0.size + a, f.slot⟩]) cells slots Q (F0 m (pc + 3) ls rest) := by
    intro H' g1 g2 g3
    rw [hsl] at g1 ⊢
    exact hk2 H' _ (hP.set pm_D he ⟨_, hc, t_OB.to (V := updV (vp_V (pm_fs H0.size M t a)) k (.int v)) ⟨_, g1, q2, q3, t_set q4 hap hk _⟩ (fun j _ => vp_updV_set hlen _ j)⟩ g3) g2 (hS.put g2 g3 (Nat.le_add_right _ _))
  rcases hfin with hfin | hfin
  · rw [if_neg (by rw [hfin]; decide)] at hlay
    have h6 := u_store hfc hkC hkind hlay hi hd (v := .int v) rfl rfl
    exact va_WputK hx hb (f := f) hown (va_Nw.use rfl (hK.2.2.1 _ hl rfl)) hi hst (by rw [q2]; exact h6) q1 q3 (by rw [hsl]; exact k2_hasslot (q4 k hk)) rfl rfl hdg fin
  · exact hfin.elim
end PMN
end
section
theorem iX0 : ∀ w ∈ u_ws RX0 TX0 3, w ∈ pm_tbl := by decide +kernel
theorem iX2 : ∀ w ∈ u_ws RX2 TX2 5, w ∈ pm_tbl := by decide +kernel
theorem iX3 : ∀ w ∈ u_ws RX3 TX3 2, w ∈ pm_tbl := by decide +kernel
theorem iX4 : ∀ w ∈ u_ws RX4 TX4 3, w ∈ pm_tbl := by decide +kernel
theorem iX5 : ∀ w ∈ u_ws RX5 TX5 5, w ∈ pm_tbl := by decide +kernel
theorem iX6 : ∀ w ∈ u_ws RX6 TX6 3, w ∈ pm_tbl := by decide +kernel
theorem iX7 : ∀ w ∈ u_ws RX7 TX7 6, w ∈ pm_tbl := by decide +kernel
theorem iX8 : ∀ w ∈ u_ws RX8 TX8 5, w ∈ pm_tbl := by decide +kernel
theorem iX9 : ∀ w ∈ u_ws RX9 TX9 12, w ∈ pm_tbl := by decide +kernel
theorem iX10 : ∀ w ∈ u_ws RX10 TX10 26, w ∈ pm_tbl := by decide +kernel
theorem ki_X0 : Cond.initialized RX0 ∈ pm_tbl := List.mem_filter.mpr ⟨List.mem_of_getElem? (i := 66) (by decide +kernel), by decide +kernel⟩
theorem kn_X0 : Cond.instantiable RX0 3 ∈ pm_tbl := List.mem_filter.mpr ⟨List.mem_of_getElem? (i := 136) (by decide +kernel), by decide +kernel⟩
theorem ki_X2 : Cond.initialized RX2 ∈ pm_tbl := List.mem_filter.mpr ⟨List.mem_of_getElem? (i := 75) (by decide +kernel), by decide +kernel⟩
theorem kn_X2 : Cond.instantiable RX2 5 ∈ pm_tbl := List.mem_filter.mpr ⟨List.mem_of_getElem? (i := 535) (by decide +kernel), by decide +kernel⟩
theorem ki_X3 : Cond.initialized RX3 ∈ pm_tbl := List.mem_filter.mpr ⟨List.mem_of_getElem? (i := 67) (by decide +kernel), by decide +kernel⟩
theorem kn_X3 : Cond.instantiable RX3 2 ∈ pm_tbl := List.mem_filter.mpr ⟨List.mem_of_getElem? (i := 152) (by decide +kernel), by decide +kernel⟩
theorem ki_X4 : Cond.initialized RX4 ∈ pm_tbl := List.mem_filter.mpr ⟨List.mem_of_getElem? (i := 64) (by decide +kernel), by decide +kernel⟩
theorem kn_X4 : Cond.instantiable RX4 3 ∈ pm_tbl := List.mem_filter.mpr ⟨List.mem_of_getElem? (i := 89) (by decide +kernel), by decide +kernel⟩
theorem ki_X5 : Cond.initialized RX5 ∈ pm_tbl := List.mem_filter.mpr ⟨List.mem_of_getElem? (i := 74) (by decide +kernel), by decide +kernel⟩
theorem kn_X5 : Cond.instantiable RX5 5 ∈ pm_tbl := List.mem_filter.mpr ⟨List.mem_of_getElem? (i := 431) (by decide +kernel), by decide +kernel⟩
theorem ki_X6 : Cond.initialized RX6 ∈ pm_tbl := List.mem_filter.mpr ⟨List.mem_of_getElem? (i := 69) (by decide +kernel), by decide +kernel⟩
theorem kn_X6 : Cond.instantiable RX6 3 ∈ pm_tbl := List.mem_filter.mpr ⟨List.mem_of_getElem? (i := 188) (by decide +kernel), by decide +kernel⟩
theorem ki_X7 : Cond.initialized RX7 ∈ pm_tbl := List.mem_filter.mpr ⟨List.mem_of_getElem? (i := 65) (by decide +kernel), by decide +kernel⟩
theorem kn_X7 : Cond.instantiable RX7 6 ∈ pm_tbl := List.mem_filter.mpr ⟨List.mem_of_getElem? (i := 107) (by decide +kernel), by decide +kernel⟩
theorem ki_X8 : Cond.initialized RX8 ∈ pm_tbl := List.mem_filter.mpr ⟨List.mem_of_getElem? (i := 68) (by decide +kernel), by decide +kernel⟩
theorem kn_X8 : Cond.instantiable RX8 5 ∈ pm_tbl := List.mem_filter.mpr ⟨List.mem_of_getElem? (i := 165) (by decide +kernel), by decide +kernel⟩
theorem ki_X9 : Cond.initialized RX9 ∈ pm_tbl := List.mem_filter.mpr ⟨List.mem_of_getElem? (i := 63) (by decide +kernel), by decide +kernel⟩
theorem kn_X9 : Cond.instantiable RX9 12 ∈ pm_tbl := List.mem_filter.mpr ⟨List.mem_of_getElem? (i := 77) (by decide +kernel), by decide +kernel⟩
theorem ki_X10 : Cond.initialized RX10 ∈ pm_tbl := List.mem_filter.mpr ⟨List.mem_of_getElem? (i := 70) (by decide +kernel), by decide +kernel⟩
theorem kn_X10 : Cond.instantiable RX10 26 ∈ pm_tbl := List.mem_filter.mpr ⟨List.mem_of_getElem? (i := 705) (by decide +kernel), by decide +kernel⟩
theorem ki_J6 : Cond.initialized RJ6 ∈ pm_tbl := List.mem_filter.mpr ⟨List.mem_of_getElem? (i := 73) (by decide +kernel), by decide +kernel⟩
theorem ki_J9 : Cond.initialized RJ9 ∈ pm_tbl := List.mem_filter.mpr ⟨List.mem_of_getElem? (i := 71) (by decide +kernel), by decide +kernel⟩
theorem ki_J10 : Cond.initialized RJ10 ∈ pm_tbl := List.mem_filter.mpr ⟨List.mem_of_getElem? (i := 72) (by decide +kernel), by decide +kernel⟩
theorem ki_L : Cond.initialized RL ∈ pm_tbl := List.mem_filter.mpr ⟨List.mem_of_getElem? (i := 62) (by decide +kernel), by decide +kernel⟩
theorem kc_X0_init : Cond.code yX0_init cX0_init 1 none ∈ pm_tbl := List.mem_filter.mpr ⟨List.mem_of_getElem? (i := 139) (by decide +kernel), by decide +kernel⟩
theorem km_X0_init : Cond.instanceMethod yX0_init ∈ pm_tbl := List.mem_filter.mpr ⟨List.mem_of_getElem? (i := 138) (by decide +kernel), by decide +kernel⟩
theorem kc_X0_readEven : Cond.code yX0_readEven cX0_readEven 3 none ∈ pm_tbl := List.mem_filter.mpr ⟨List.mem_of_getElem? (i := 354) (by decide +kernel), by decide +kernel⟩
theorem km_X0_readEven : Cond.instanceMethod yX0_readEven ∈ pm_tbl := List.mem_filter.mpr ⟨List.mem_of_getElem? (i := 352) (by decide +kernel), by decide +kernel⟩
theorem ks_X0_readEven : Cond.selects RX0 yX0_readEven yX0_readEven ∈ pm_tbl := List.mem_filter.mpr ⟨List.mem_of_getElem? (i := 353) (by decide +kernel), by decide +kernel⟩
theorem kc_X0_readParts : Cond.code yX0_readParts cX0_readParts 5 none ∈ pm_tbl := List.mem_filter.mpr ⟨List.mem_of_getElem? (i := 359) (by decide +kernel), by decide +kernel⟩
theorem km_X0_readParts : Cond.instanceMethod yX0_readParts ∈ pm_tbl := List.mem_filter.mpr ⟨List.mem_of_getElem? (i := 357) (by decide +kernel), by decide +kernel⟩
theorem ks_X0_readParts : Cond.selects RX0 yX0_readParts yX0_readParts ∈ pm_tbl := List.mem_filter.mpr ⟨List.mem_of_getElem? (i := 358) (by decide +kernel), by decide +kernel⟩
theorem kc_X0_readNested : Cond.code yX0_readNested cX0_readNested 4 none ∈ pm_tbl := List.mem_filter.mpr ⟨List.mem_of_getElem? (i := 366) (by decide +kernel), by decide +kernel⟩
theorem km_X0_readNested : Cond.instanceMethod yX0_readNested ∈ pm_tbl := List.mem_filter.mpr ⟨List.mem_of_getElem? (i := 364) (by decide +kernel), by decide +kernel⟩
theorem ks_X0_readNested : Cond.selects RX0 yX0_readNested yX0_readNested ∈ pm_tbl := List.mem_filter.mpr ⟨List.mem_of_getElem? (i := 365) (by decide +kernel), by decide +kernel⟩
theorem kc_X0_lieNested : Cond.code yX0_lieNested cX0_lieNested 4 (some .boolean) ∈ pm_tbl := List.mem_filter.mpr ⟨List.mem_of_getElem? (i := 388) (by decide +kernel), by decide +kernel⟩
theorem km_X0_lieNested : Cond.instanceMethod yX0_lieNested ∈ pm_tbl := List.mem_filter.mpr ⟨List.mem_of_getElem? (i := 386) (by decide +kernel), by decide +kernel⟩
theorem ks_X0_lieNested : Cond.selects RX0 yX0_lieNested yX0_lieNested ∈ pm_tbl := List.mem_filter.mpr ⟨List.mem_of_getElem? (i := 387) (by decide +kernel), by decide +kernel⟩
theorem kc_X0_fits : Cond.code yX0_fits cX0_fits 3 (some .boolean) ∈ pm_tbl := List.mem_filter.mpr ⟨List.mem_of_getElem? (i := 477) (by decide +kernel), by decide +kernel⟩
theorem km_X0_fits : Cond.instanceMethod yX0_fits ∈ pm_tbl := List.mem_filter.mpr ⟨List.mem_of_getElem? (i := 475) (by decide +kernel), by decide +kernel⟩
theorem kc_X2_init : Cond.code yX2_init cX2_init 6 none ∈ pm_tbl := List.mem_filter.mpr ⟨List.mem_of_getElem? (i := 538) (by decide +kernel), by decide +kernel⟩
theorem km_X2_init : Cond.instanceMethod yX2_init ∈ pm_tbl := List.mem_filter.mpr ⟨List.mem_of_getElem? (i := 537) (by decide +kernel), by decide +kernel⟩
theorem kc_X2_fits : Cond.code yX2_fits cX2_fits 3 (some .boolean) ∈ pm_tbl := List.mem_filter.mpr ⟨List.mem_of_getElem? (i := 484) (by decide +kernel), by decide +kernel⟩
theorem km_X2_fits : Cond.instanceMethod yX2_fits ∈ pm_tbl := List.mem_filter.mpr ⟨List.mem_of_getElem? (i := 482) (by decide +kernel), by decide +kernel⟩
theorem kc_X3_init : Cond.code yX3_init cX3_init 1 none ∈ pm_tbl := List.mem_filter.mpr ⟨List.mem_of_getElem? (i := 155) (by decide +kernel), by decide +kernel⟩
theorem km_X3_init : Cond.instanceMethod yX3_init ∈ pm_tbl := List.mem_filter.mpr ⟨List.mem_of_getElem? (i := 154) (by decide +kernel), by decide +kernel⟩
theorem kc_X3_readEdges : Cond.code yX3_readEdges cX3_readEdges 6 none ∈ pm_tbl := List.mem_filter.mpr ⟨List.mem_of_getElem? (i := 370) (by decide +kernel), by decide +kernel⟩
theorem km_X3_readEdges : Cond.instanceMethod yX3_readEdges ∈ pm_tbl := List.mem_filter.mpr ⟨List.mem_of_getElem? (i := 368) (by decide +kernel), by decide +kernel⟩
theorem ks_X3_readEdges : Cond.selects RX3 yX3_readEdges yX3_readEdges ∈ pm_tbl := List.mem_filter.mpr ⟨List.mem_of_getElem? (i := 369) (by decide +kernel), by decide +kernel⟩
theorem kc_X3_readPlaces : Cond.code yX3_readPlaces cX3_readPlaces 4 none ∈ pm_tbl := List.mem_filter.mpr ⟨List.mem_of_getElem? (i := 384) (by decide +kernel), by decide +kernel⟩
theorem km_X3_readPlaces : Cond.instanceMethod yX3_readPlaces ∈ pm_tbl := List.mem_filter.mpr ⟨List.mem_of_getElem? (i := 382) (by decide +kernel), by decide +kernel⟩
theorem ks_X3_readPlaces : Cond.selects RX3 yX3_readPlaces yX3_readPlaces ∈ pm_tbl := List.mem_filter.mpr ⟨List.mem_of_getElem? (i := 383) (by decide +kernel), by decide +kernel⟩
theorem kc_X3_fits : Cond.code yX3_fits cX3_fits 4 (some .boolean) ∈ pm_tbl := List.mem_filter.mpr ⟨List.mem_of_getElem? (i := 492) (by decide +kernel), by decide +kernel⟩
theorem km_X3_fits : Cond.instanceMethod yX3_fits ∈ pm_tbl := List.mem_filter.mpr ⟨List.mem_of_getElem? (i := 490) (by decide +kernel), by decide +kernel⟩
theorem kc_X4_init : Cond.code yX4_init cX4_init 1 none ∈ pm_tbl := List.mem_filter.mpr ⟨List.mem_of_getElem? (i := 92) (by decide +kernel), by decide +kernel⟩
theorem km_X4_init : Cond.instanceMethod yX4_init ∈ pm_tbl := List.mem_filter.mpr ⟨List.mem_of_getElem? (i := 91) (by decide +kernel), by decide +kernel⟩
theorem kc_X4_start : Cond.code yX4_start cX4_start 2 none ∈ pm_tbl := List.mem_filter.mpr ⟨List.mem_of_getElem? (i := 336) (by decide +kernel), by decide +kernel⟩
theorem km_X4_start : Cond.instanceMethod yX4_start ∈ pm_tbl := List.mem_filter.mpr ⟨List.mem_of_getElem? (i := 334) (by decide +kernel), by decide +kernel⟩
theorem ks_X4_start : Cond.selects RX4 yX4_start yX4_start ∈ pm_tbl := List.mem_filter.mpr ⟨List.mem_of_getElem? (i := 335) (by decide +kernel), by decide +kernel⟩
theorem kc_X4_next : Cond.code yX4_next cX4_next 5 (some .int) ∈ pm_tbl := List.mem_filter.mpr ⟨List.mem_of_getElem? (i := 348) (by decide +kernel), by decide +kernel⟩
theorem km_X4_next : Cond.instanceMethod yX4_next ∈ pm_tbl := List.mem_filter.mpr ⟨List.mem_of_getElem? (i := 346) (by decide +kernel), by decide +kernel⟩
theorem ks_X4_next : Cond.selects RX4 yX4_next yX4_next ∈ pm_tbl := List.mem_filter.mpr ⟨List.mem_of_getElem? (i := 347) (by decide +kernel), by decide +kernel⟩
theorem kc_X4_refuseLast : Cond.code yX4_refuseLast cX4_refuseLast 1 none ∈ pm_tbl := List.mem_filter.mpr ⟨List.mem_of_getElem? (i := 380) (by decide +kernel), by decide +kernel⟩
theorem km_X4_refuseLast : Cond.instanceMethod yX4_refuseLast ∈ pm_tbl := List.mem_filter.mpr ⟨List.mem_of_getElem? (i := 378) (by decide +kernel), by decide +kernel⟩
theorem ks_X4_refuseLast : Cond.selects RX4 yX4_refuseLast yX4_refuseLast ∈ pm_tbl := List.mem_filter.mpr ⟨List.mem_of_getElem? (i := 379) (by decide +kernel), by decide +kernel⟩
theorem kc_X5_init : Cond.code yX5_init cX5_init 1 none ∈ pm_tbl := List.mem_filter.mpr ⟨List.mem_of_getElem? (i := 434) (by decide +kernel), by decide +kernel⟩
theorem km_X5_init : Cond.instanceMethod yX5_init ∈ pm_tbl := List.mem_filter.mpr ⟨List.mem_of_getElem? (i := 433) (by decide +kernel), by decide +kernel⟩
theorem kc_X5_fill : Cond.code yX5_fill cX5_fill 4 none ∈ pm_tbl := List.mem_filter.mpr ⟨List.mem_of_getElem? (i := 456) (by decide +kernel), by decide +kernel⟩
theorem km_X5_fill : Cond.instanceMethod yX5_fill ∈ pm_tbl := List.mem_filter.mpr ⟨List.mem_of_getElem? (i := 454) (by decide +kernel), by decide +kernel⟩
theorem ks_X5_fill : Cond.selects RX5 yX5_fill yX5_fill ∈ pm_tbl := List.mem_filter.mpr ⟨List.mem_of_getElem? (i := 455) (by decide +kernel), by decide +kernel⟩
theorem kc_X5_rankByParts : Cond.code yX5_rankByParts cX5_rankByParts 8 (some .int) ∈ pm_tbl := List.mem_filter.mpr ⟨List.mem_of_getElem? (i := 460) (by decide +kernel), by decide +kernel⟩
theorem km_X5_rankByParts : Cond.instanceMethod yX5_rankByParts ∈ pm_tbl := List.mem_filter.mpr ⟨List.mem_of_getElem? (i := 459) (by decide +kernel), by decide +kernel⟩
theorem ks_X5_rankByParts : Cond.selects RX5 yX5_rankByParts yX5_rankByParts ∈ pm_tbl := List.mem_filter.mpr ⟨by decide +kernel, by decide +kernel⟩
theorem kc_X5_rankOf : Cond.code yX5_rankOf cX5_rankOf 2 (some .int) ∈ pm_tbl := List.mem_filter.mpr ⟨List.mem_of_getElem? (i := 465) (by decide +kernel), by decide +kernel⟩
theorem km_X5_rankOf : Cond.instanceMethod yX5_rankOf ∈ pm_tbl := List.mem_filter.mpr ⟨List.mem_of_getElem? (i := 463) (by decide +kernel), by decide +kernel⟩
theorem ks_X5_rankOf : Cond.selects RX5 yX5_rankOf yX5_rankOf ∈ pm_tbl := List.mem_filter.mpr ⟨List.mem_of_getElem? (i := 464) (by decide +kernel), by decide +kernel⟩
theorem kc_X5_permits : Cond.code yX5_permits cX5_permits 2 (some .boolean) ∈ pm_tbl := List.mem_filter.mpr ⟨List.mem_of_getElem? (i := 584) (by decide +kernel), by decide +kernel⟩
theorem km_X5_permits : Cond.instanceMethod yX5_permits ∈ pm_tbl := List.mem_filter.mpr ⟨List.mem_of_getElem? (i := 582) (by decide +kernel), by decide +kernel⟩
theorem ks_X5_permits : Cond.selects RX5 yX5_permits yX5_permits ∈ pm_tbl := List.mem_filter.mpr ⟨List.mem_of_getElem? (i := 583) (by decide +kernel), by decide +kernel⟩
theorem kc_X5_permitsEachAlone : Cond.code yX5_permitsEachAlone cX5_permitsEachAlone 3 (some .boolean) ∈ pm_tbl := List.mem_filter.mpr ⟨List.mem_of_getElem? (i := 654) (by decide +kernel), by decide +kernel⟩
theorem km_X5_permitsEachAlone : Cond.instanceMethod yX5_permitsEachAlone ∈ pm_tbl := List.mem_filter.mpr ⟨List.mem_of_getElem? (i := 652) (by decide +kernel), by decide +kernel⟩
theorem ks_X5_permitsEachAlone : Cond.selects RX5 yX5_permitsEachAlone yX5_permitsEachAlone ∈ pm_tbl := List.mem_filter.mpr ⟨List.mem_of_getElem? (i := 653) (by decide +kernel), by decide +kernel⟩
theorem kc_X5_allowedSets : Cond.code yX5_allowedSets cX5_allowedSets 4 (some .int) ∈ pm_tbl := List.mem_filter.mpr ⟨List.mem_of_getElem? (i := 580) (by decide +kernel), by decide +kernel⟩
theorem km_X5_allowedSets : Cond.instanceMethod yX5_allowedSets ∈ pm_tbl := List.mem_filter.mpr ⟨List.mem_of_getElem? (i := 578) (by decide +kernel), by decide +kernel⟩
theorem ks_X5_allowedSets : Cond.selects RX5 yX5_allowedSets yX5_allowedSets ∈ pm_tbl := List.mem_filter.mpr ⟨List.mem_of_getElem? (i := 579) (by decide +kernel), by decide +kernel⟩
theorem kc_X6_init : Cond.code yX6_init cX6_init 1 none ∈ pm_tbl := List.mem_filter.mpr ⟨List.mem_of_getElem? (i := 191) (by decide +kernel), by decide +kernel⟩
theorem km_X6_init : Cond.instanceMethod yX6_init ∈ pm_tbl := List.mem_filter.mpr ⟨List.mem_of_getElem? (i := 190) (by decide +kernel), by decide +kernel⟩
theorem kc_X6_hasRow : Cond.code yX6_hasRow cX6_hasRow 1 (some .boolean) ∈ pm_tbl := List.mem_filter.mpr ⟨List.mem_of_getElem? (i := 289) (by decide +kernel), by decide +kernel⟩
theorem km_X6_hasRow : Cond.instanceMethod yX6_hasRow ∈ pm_tbl := List.mem_filter.mpr ⟨List.mem_of_getElem? (i := 287) (by decide +kernel), by decide +kernel⟩
theorem ks_X6_hasRow : Cond.selects RX6 yX6_hasRow yX6_hasRow ∈ pm_tbl := List.mem_filter.mpr ⟨List.mem_of_getElem? (i := 288) (by decide +kernel), by decide +kernel⟩
theorem kc_X6_lay : Cond.code yX6_lay cX6_lay 4 none ∈ pm_tbl := List.mem_filter.mpr ⟨List.mem_of_getElem? (i := 278) (by decide +kernel), by decide +kernel⟩
theorem km_X6_lay : Cond.instanceMethod yX6_lay ∈ pm_tbl := List.mem_filter.mpr ⟨List.mem_of_getElem? (i := 276) (by decide +kernel), by decide +kernel⟩
theorem ks_X6_lay : Cond.selects RX6 yX6_lay yX6_lay ∈ pm_tbl := List.mem_filter.mpr ⟨List.mem_of_getElem? (i := 277) (by decide +kernel), by decide +kernel⟩
theorem kc_X6_clear : Cond.code yX6_clear cX6_clear 1 none ∈ pm_tbl := List.mem_filter.mpr ⟨List.mem_of_getElem? (i := 293) (by decide +kernel), by decide +kernel⟩
theorem km_X6_clear : Cond.instanceMethod yX6_clear ∈ pm_tbl := List.mem_filter.mpr ⟨List.mem_of_getElem? (i := 291) (by decide +kernel), by decide +kernel⟩
theorem ks_X6_clear : Cond.selects RX6 yX6_clear yX6_clear ∈ pm_tbl := List.mem_filter.mpr ⟨List.mem_of_getElem? (i := 292) (by decide +kernel), by decide +kernel⟩
theorem kc_X6_hasStretch : Cond.code yX6_hasStretch cX6_hasStretch 3 (some .boolean) ∈ pm_tbl := List.mem_filter.mpr ⟨List.mem_of_getElem? (i := 305) (by decide +kernel), by decide +kernel⟩
theorem km_X6_hasStretch : Cond.instanceMethod yX6_hasStretch ∈ pm_tbl := List.mem_filter.mpr ⟨List.mem_of_getElem? (i := 303) (by decide +kernel), by decide +kernel⟩
theorem ks_X6_hasStretch : Cond.selects RX6 yX6_hasStretch yX6_hasStretch ∈ pm_tbl := List.mem_filter.mpr ⟨List.mem_of_getElem? (i := 304) (by decide +kernel), by decide +kernel⟩
theorem kc_X6_number : Cond.code yX6_number cX6_number 2 (some .long) ∈ pm_tbl := List.mem_filter.mpr ⟨List.mem_of_getElem? (i := 321) (by decide +kernel), by decide +kernel⟩
theorem km_X6_number : Cond.instanceMethod yX6_number ∈ pm_tbl := List.mem_filter.mpr ⟨List.mem_of_getElem? (i := 319) (by decide +kernel), by decide +kernel⟩
theorem ks_X6_number : Cond.selects RX6 yX6_number yX6_number ∈ pm_tbl := List.mem_filter.mpr ⟨List.mem_of_getElem? (i := 320) (by decide +kernel), by decide +kernel⟩
theorem kc_X6_put : Cond.code yX6_put cX6_put 4 none ∈ pm_tbl := List.mem_filter.mpr ⟨List.mem_of_getElem? (i := 309) (by decide +kernel), by decide +kernel⟩
theorem km_X6_put : Cond.instanceMethod yX6_put ∈ pm_tbl := List.mem_filter.mpr ⟨List.mem_of_getElem? (i := 307) (by decide +kernel), by decide +kernel⟩
theorem ks_X6_put : Cond.selects RX6 yX6_put yX6_put ∈ pm_tbl := List.mem_filter.mpr ⟨List.mem_of_getElem? (i := 308) (by decide +kernel), by decide +kernel⟩
theorem kc_X6_cut : Cond.code yX6_cut cX6_cut 3 (some .long) ∈ pm_tbl := List.mem_filter.mpr ⟨List.mem_of_getElem? (i := 313) (by decide +kernel), by decide +kernel⟩
theorem km_X6_cut : Cond.instanceMethod yX6_cut ∈ pm_tbl := List.mem_filter.mpr ⟨List.mem_of_getElem? (i := 312) (by decide +kernel), by decide +kernel⟩
theorem ks_X6_cut : Cond.selects RX6 yX6_cut yX6_cut ∈ pm_tbl := List.mem_filter.mpr ⟨by decide +kernel, by decide +kernel⟩
theorem kc_X7_init : Cond.code yX7_init cX7_init 1 none ∈ pm_tbl := List.mem_filter.mpr ⟨List.mem_of_getElem? (i := 110) (by decide +kernel), by decide +kernel⟩
theorem km_X7_init : Cond.instanceMethod yX7_init ∈ pm_tbl := List.mem_filter.mpr ⟨List.mem_of_getElem? (i := 109) (by decide +kernel), by decide +kernel⟩
theorem kc_X7_forgetBreach : Cond.code yX7_forgetBreach cX7_forgetBreach 1 none ∈ pm_tbl := List.mem_filter.mpr ⟨List.mem_of_getElem? (i := 212) (by decide +kernel), by decide +kernel⟩
theorem km_X7_forgetBreach : Cond.instanceMethod yX7_forgetBreach ∈ pm_tbl := List.mem_filter.mpr ⟨List.mem_of_getElem? (i := 210) (by decide +kernel), by decide +kernel⟩
theorem ks_X7_forgetBreach : Cond.selects RX7 yX7_forgetBreach yX7_forgetBreach ∈ pm_tbl := List.mem_filter.mpr ⟨List.mem_of_getElem? (i := 211) (by decide +kernel), by decide +kernel⟩
theorem kc_X7_readSets : Cond.code yX7_readSets cX7_readSets 6 none ∈ pm_tbl := List.mem_filter.mpr ⟨List.mem_of_getElem? (i := 344) (by decide +kernel), by decide +kernel⟩
theorem km_X7_readSets : Cond.instanceMethod yX7_readSets ∈ pm_tbl := List.mem_filter.mpr ⟨List.mem_of_getElem? (i := 342) (by decide +kernel), by decide +kernel⟩
theorem ks_X7_readSets : Cond.selects RX7 yX7_readSets yX7_readSets ∈ pm_tbl := List.mem_filter.mpr ⟨List.mem_of_getElem? (i := 343) (by decide +kernel), by decide +kernel⟩
theorem kc_X7_fits : Cond.code yX7_fits cX7_fits 2 (some .boolean) ∈ pm_tbl := List.mem_filter.mpr ⟨List.mem_of_getElem? (i := 400) (by decide +kernel), by decide +kernel⟩
theorem km_X7_fits : Cond.instanceMethod yX7_fits ∈ pm_tbl := List.mem_filter.mpr ⟨List.mem_of_getElem? (i := 398) (by decide +kernel), by decide +kernel⟩
theorem ks_X7_fits : Cond.selects RX7 yX7_fits yX7_fits ∈ pm_tbl := List.mem_filter.mpr ⟨List.mem_of_getElem? (i := 399) (by decide +kernel), by decide +kernel⟩
theorem kc_X7_breaksLaw : Cond.code yX7_breaksLaw cX7_breaksLaw 2 (some .boolean) ∈ pm_tbl := List.mem_filter.mpr ⟨List.mem_of_getElem? (i := 392) (by decide +kernel), by decide +kernel⟩
theorem km_X7_breaksLaw : Cond.instanceMethod yX7_breaksLaw ∈ pm_tbl := List.mem_filter.mpr ⟨List.mem_of_getElem? (i := 390) (by decide +kernel), by decide +kernel⟩
theorem ks_X7_breaksLaw : Cond.selects RX7 yX7_breaksLaw yX7_breaksLaw ∈ pm_tbl := List.mem_filter.mpr ⟨List.mem_of_getElem? (i := 391) (by decide +kernel), by decide +kernel⟩
theorem kc_X7_noteBreach : Cond.code yX7_noteBreach cX7_noteBreach 4 none ∈ pm_tbl := List.mem_filter.mpr ⟨List.mem_of_getElem? (i := 216) (by decide +kernel), by decide +kernel⟩
theorem km_X7_noteBreach : Cond.instanceMethod yX7_noteBreach ∈ pm_tbl := List.mem_filter.mpr ⟨List.mem_of_getElem? (i := 215) (by decide +kernel), by decide +kernel⟩
theorem ks_X7_noteBreach : Cond.selects RX7 yX7_noteBreach yX7_noteBreach ∈ pm_tbl := List.mem_filter.mpr ⟨by decide +kernel, by decide +kernel⟩
theorem kc_X7_listSets : Cond.code yX7_listSets cX7_listSets 3 none ∈ pm_tbl := List.mem_filter.mpr ⟨List.mem_of_getElem? (i := 396) (by decide +kernel), by decide +kernel⟩
theorem km_X7_listSets : Cond.instanceMethod yX7_listSets ∈ pm_tbl := List.mem_filter.mpr ⟨List.mem_of_getElem? (i := 395) (by decide +kernel), by decide +kernel⟩
theorem ks_X7_listSets : Cond.selects RX7 yX7_listSets yX7_listSets ∈ pm_tbl := List.mem_filter.mpr ⟨by decide +kernel, by decide +kernel⟩
theorem kc_X7_lacksPart : Cond.code yX7_lacksPart cX7_lacksPart 3 (some .boolean) ∈ pm_tbl := List.mem_filter.mpr ⟨List.mem_of_getElem? (i := 404) (by decide +kernel), by decide +kernel⟩
theorem km_X7_lacksPart : Cond.instanceMethod yX7_lacksPart ∈ pm_tbl := List.mem_filter.mpr ⟨List.mem_of_getElem? (i := 403) (by decide +kernel), by decide +kernel⟩
theorem ks_X7_lacksPart : Cond.selects RX7 yX7_lacksPart yX7_lacksPart ∈ pm_tbl := List.mem_filter.mpr ⟨by decide +kernel, by decide +kernel⟩
theorem kc_X7_leastPartNotTold : Cond.code yX7_leastPartNotTold cX7_leastPartNotTold 4 (some .int) ∈ pm_tbl := List.mem_filter.mpr ⟨List.mem_of_getElem? (i := 408) (by decide +kernel), by decide +kernel⟩
theorem km_X7_leastPartNotTold : Cond.instanceMethod yX7_leastPartNotTold ∈ pm_tbl := List.mem_filter.mpr ⟨List.mem_of_getElem? (i := 407) (by decide +kernel), by decide +kernel⟩
theorem ks_X7_leastPartNotTold : Cond.selects RX7 yX7_leastPartNotTold yX7_leastPartNotTold ∈ pm_tbl := List.mem_filter.mpr ⟨by decide +kernel, by decide +kernel⟩
theorem kc_X7_lacksExchange : Cond.code yX7_lacksExchange cX7_lacksExchange 4 (some .boolean) ∈ pm_tbl := List.mem_filter.mpr ⟨List.mem_of_getElem? (i := 412) (by decide +kernel), by decide +kernel⟩
theorem km_X7_lacksExchange : Cond.instanceMethod yX7_lacksExchange ∈ pm_tbl := List.mem_filter.mpr ⟨List.mem_of_getElem? (i := 411) (by decide +kernel), by decide +kernel⟩
theorem ks_X7_lacksExchange : Cond.selects RX7 yX7_lacksExchange yX7_lacksExchange ∈ pm_tbl := List.mem_filter.mpr ⟨by decide +kernel, by decide +kernel⟩
theorem kc_X7_leastWithNoneToCome : Cond.code yX7_leastWithNoneToCome cX7_leastWithNoneToCome 6 (some .int) ∈ pm_tbl := List.mem_filter.mpr ⟨List.mem_of_getElem? (i := 416) (by decide +kernel), by decide +kernel⟩
theorem km_X7_leastWithNoneToCome : Cond.instanceMethod yX7_leastWithNoneToCome ∈ pm_tbl := List.mem_filter.mpr ⟨List.mem_of_getElem? (i := 415) (by decide +kernel), by decide +kernel⟩
theorem ks_X7_leastWithNoneToCome : Cond.selects RX7 yX7_leastWithNoneToCome yX7_leastWithNoneToCome ∈ pm_tbl := List.mem_filter.mpr ⟨by decide +kernel, by decide +kernel⟩
theorem kc_X7_thingsThatMayCome : Cond.code yX7_thingsThatMayCome cX7_thingsThatMayCome 5 (some .int) ∈ pm_tbl := List.mem_filter.mpr ⟨List.mem_of_getElem? (i := 420) (by decide +kernel), by decide +kernel⟩
theorem km_X7_thingsThatMayCome : Cond.instanceMethod yX7_thingsThatMayCome ∈ pm_tbl := List.mem_filter.mpr ⟨List.mem_of_getElem? (i := 419) (by decide +kernel), by decide +kernel⟩
theorem ks_X7_thingsThatMayCome : Cond.selects RX7 yX7_thingsThatMayCome yX7_thingsThatMayCome ∈ pm_tbl := List.mem_filter.mpr ⟨by decide +kernel, by decide +kernel⟩
theorem kc_X8_init : Cond.code yX8_init cX8_init 1 none ∈ pm_tbl := List.mem_filter.mpr ⟨List.mem_of_getElem? (i := 168) (by decide +kernel), by decide +kernel⟩
theorem km_X8_init : Cond.instanceMethod yX8_init ∈ pm_tbl := List.mem_filter.mpr ⟨List.mem_of_getElem? (i := 167) (by decide +kernel), by decide +kernel⟩
theorem kc_X8_readRows : Cond.code yX8_readRows cX8_readRows 5 none ∈ pm_tbl := List.mem_filter.mpr ⟨List.mem_of_getElem? (i := 375) (by decide +kernel), by decide +kernel⟩
theorem km_X8_readRows : Cond.instanceMethod yX8_readRows ∈ pm_tbl := List.mem_filter.mpr ⟨List.mem_of_getElem? (i := 373) (by decide +kernel), by decide +kernel⟩
theorem ks_X8_readRows : Cond.selects RX8 yX8_readRows yX8_readRows ∈ pm_tbl := List.mem_filter.mpr ⟨List.mem_of_getElem? (i := 374) (by decide +kernel), by decide +kernel⟩
theorem kc_X8_fits : Cond.code yX8_fits cX8_fits 4 (some .boolean) ∈ pm_tbl := List.mem_filter.mpr ⟨List.mem_of_getElem? (i := 503) (by decide +kernel), by decide +kernel⟩
theorem km_X8_fits : Cond.instanceMethod yX8_fits ∈ pm_tbl := List.mem_filter.mpr ⟨List.mem_of_getElem? (i := 501) (by decide +kernel), by decide +kernel⟩
theorem kc_X8_clearLead : Cond.code yX8_clearLead cX8_clearLead 7 none ∈ pm_tbl := List.mem_filter.mpr ⟨List.mem_of_getElem? (i := 508) (by decide +kernel), by decide +kernel⟩
theorem km_X8_clearLead : Cond.instanceMethod yX8_clearLead ∈ pm_tbl := List.mem_filter.mpr ⟨List.mem_of_getElem? (i := 507) (by decide +kernel), by decide +kernel⟩
theorem ks_X8_clearLead : Cond.selects RX8 yX8_clearLead yX8_clearLead ∈ pm_tbl := List.mem_filter.mpr ⟨by decide +kernel, by decide +kernel⟩
theorem kc_X8_modulo : Cond.code yX8_modulo cX8_modulo 2 (some .int) ∈ pm_tbl := List.mem_filter.mpr ⟨List.mem_of_getElem? (i := 512) (by decide +kernel), by decide +kernel⟩
theorem km_X8_modulo : Cond.instanceMethod yX8_modulo ∈ pm_tbl := List.mem_filter.mpr ⟨List.mem_of_getElem? (i := 511) (by decide +kernel), by decide +kernel⟩
theorem ks_X8_modulo : Cond.selects RX8 yX8_modulo yX8_modulo ∈ pm_tbl := List.mem_filter.mpr ⟨by decide +kernel, by decide +kernel⟩
theorem kc_X8_firstNotZero : Cond.code yX8_firstNotZero cX8_firstNotZero 3 (some .int) ∈ pm_tbl := List.mem_filter.mpr ⟨List.mem_of_getElem? (i := 516) (by decide +kernel), by decide +kernel⟩
theorem km_X8_firstNotZero : Cond.instanceMethod yX8_firstNotZero ∈ pm_tbl := List.mem_filter.mpr ⟨List.mem_of_getElem? (i := 515) (by decide +kernel), by decide +kernel⟩
theorem ks_X8_firstNotZero : Cond.selects RX8 yX8_firstNotZero yX8_firstNotZero ∈ pm_tbl := List.mem_filter.mpr ⟨by decide +kernel, by decide +kernel⟩
theorem kc_X9_init : Cond.code yX9_init cX9_init 2 none ∈ pm_tbl := List.mem_filter.mpr ⟨List.mem_of_getElem? (i := 80) (by decide +kernel), by decide +kernel⟩
theorem km_X9_init : Cond.instanceMethod yX9_init ∈ pm_tbl := List.mem_filter.mpr ⟨List.mem_of_getElem? (i := 79) (by decide +kernel), by decide +kernel⟩
theorem kc_X9_fresh : Cond.code yX9_fresh cX9_fresh 2 (some .boolean) ∈ pm_tbl := List.mem_filter.mpr ⟨List.mem_of_getElem? (i := 257) (by decide +kernel), by decide +kernel⟩
theorem km_X9_fresh : Cond.instanceMethod yX9_fresh ∈ pm_tbl := List.mem_filter.mpr ⟨List.mem_of_getElem? (i := 255) (by decide +kernel), by decide +kernel⟩
theorem ks_X9_fresh : Cond.selects RX9 yX9_fresh yX9_fresh ∈ pm_tbl := List.mem_filter.mpr ⟨List.mem_of_getElem? (i := 256) (by decide +kernel), by decide +kernel⟩
theorem kc_X9_weight : Cond.code yX9_weight cX9_weight 4 (some .int) ∈ pm_tbl := List.mem_filter.mpr ⟨List.mem_of_getElem? (i := 261) (by decide +kernel), by decide +kernel⟩
theorem km_X9_weight : Cond.instanceMethod yX9_weight ∈ pm_tbl := List.mem_filter.mpr ⟨List.mem_of_getElem? (i := 259) (by decide +kernel), by decide +kernel⟩
theorem ks_X9_weight : Cond.selects RX9 yX9_weight yX9_weight ∈ pm_tbl := List.mem_filter.mpr ⟨List.mem_of_getElem? (i := 260) (by decide +kernel), by decide +kernel⟩
theorem kc_X9_row : Cond.code yX9_row cX9_row 5 (some .int) ∈ pm_tbl := List.mem_filter.mpr ⟨List.mem_of_getElem? (i := 270) (by decide +kernel), by decide +kernel⟩
theorem km_X9_row : Cond.instanceMethod yX9_row ∈ pm_tbl := List.mem_filter.mpr ⟨List.mem_of_getElem? (i := 268) (by decide +kernel), by decide +kernel⟩
theorem ks_X9_row : Cond.selects RX9 yX9_row yX9_row ∈ pm_tbl := List.mem_filter.mpr ⟨List.mem_of_getElem? (i := 269) (by decide +kernel), by decide +kernel⟩
theorem kc_X9_tear : Cond.code yX9_tear cX9_tear 3 (some .boolean) ∈ pm_tbl := List.mem_filter.mpr ⟨List.mem_of_getElem? (i := 285) (by decide +kernel), by decide +kernel⟩
theorem km_X9_tear : Cond.instanceMethod yX9_tear ∈ pm_tbl := List.mem_filter.mpr ⟨List.mem_of_getElem? (i := 283) (by decide +kernel), by decide +kernel⟩
theorem ks_X9_tear : Cond.selects RX9 yX9_tear yX9_tear ∈ pm_tbl := List.mem_filter.mpr ⟨List.mem_of_getElem? (i := 284) (by decide +kernel), by decide +kernel⟩
theorem kc_X9_write : Cond.code yX9_write cX9_write 7 (some .int) ∈ pm_tbl := List.mem_filter.mpr ⟨List.mem_of_getElem? (i := 297) (by decide +kernel), by decide +kernel⟩
theorem km_X9_write : Cond.instanceMethod yX9_write ∈ pm_tbl := List.mem_filter.mpr ⟨List.mem_of_getElem? (i := 295) (by decide +kernel), by decide +kernel⟩
theorem ks_X9_write : Cond.selects RX9 yX9_write yX9_write ∈ pm_tbl := List.mem_filter.mpr ⟨List.mem_of_getElem? (i := 296) (by decide +kernel), by decide +kernel⟩
theorem kc_X9_read : Cond.code yX9_read cX9_read 4 (some .long) ∈ pm_tbl := List.mem_filter.mpr ⟨List.mem_of_getElem? (i := 317) (by decide +kernel), by decide +kernel⟩
theorem km_X9_read : Cond.instanceMethod yX9_read ∈ pm_tbl := List.mem_filter.mpr ⟨List.mem_of_getElem? (i := 315) (by decide +kernel), by decide +kernel⟩
theorem ks_X9_read : Cond.selects RX9 yX9_read yX9_read ∈ pm_tbl := List.mem_filter.mpr ⟨List.mem_of_getElem? (i := 316) (by decide +kernel), by decide +kernel⟩
theorem kc_X9_copy : Cond.code yX9_copy cX9_copy 8 (some .int) ∈ pm_tbl := List.mem_filter.mpr ⟨List.mem_of_getElem? (i := 325) (by decide +kernel), by decide +kernel⟩
theorem km_X9_copy : Cond.instanceMethod yX9_copy ∈ pm_tbl := List.mem_filter.mpr ⟨List.mem_of_getElem? (i := 323) (by decide +kernel), by decide +kernel⟩
theorem ks_X9_copy : Cond.selects RX9 yX9_copy yX9_copy ∈ pm_tbl := List.mem_filter.mpr ⟨List.mem_of_getElem? (i := 324) (by decide +kernel), by decide +kernel⟩
theorem kc_X9_rule : Cond.code yX9_rule cX9_rule 5 (some .int) ∈ pm_tbl := List.mem_filter.mpr ⟨List.mem_of_getElem? (i := 332) (by decide +kernel), by decide +kernel⟩
theorem km_X9_rule : Cond.instanceMethod yX9_rule ∈ pm_tbl := List.mem_filter.mpr ⟨List.mem_of_getElem? (i := 330) (by decide +kernel), by decide +kernel⟩
theorem ks_X9_rule : Cond.selects RX9 yX9_rule yX9_rule ∈ pm_tbl := List.mem_filter.mpr ⟨List.mem_of_getElem? (i := 331) (by decide +kernel), by decide +kernel⟩
theorem kc_X9_less : Cond.code yX9_less cX9_less 3 (some .int) ∈ pm_tbl := List.mem_filter.mpr ⟨List.mem_of_getElem? (i := 520) (by decide +kernel), by decide +kernel⟩
theorem km_X9_less : Cond.instanceMethod yX9_less ∈ pm_tbl := List.mem_filter.mpr ⟨List.mem_of_getElem? (i := 518) (by decide +kernel), by decide +kernel⟩
theorem ks_X9_less : Cond.selects RX9 yX9_less yX9_less ∈ pm_tbl := List.mem_filter.mpr ⟨List.mem_of_getElem? (i := 519) (by decide +kernel), by decide +kernel⟩
theorem kc_X9_take : Cond.code yX9_take cX9_take 3 (some .int) ∈ pm_tbl := List.mem_filter.mpr ⟨List.mem_of_getElem? (i := 559) (by decide +kernel), by decide +kernel⟩
theorem km_X9_take : Cond.instanceMethod yX9_take ∈ pm_tbl := List.mem_filter.mpr ⟨List.mem_of_getElem? (i := 557) (by decide +kernel), by decide +kernel⟩
theorem ks_X9_take : Cond.selects RX9 yX9_take yX9_take ∈ pm_tbl := List.mem_filter.mpr ⟨List.mem_of_getElem? (i := 558) (by decide +kernel), by decide +kernel⟩
theorem kc_X9_turn : Cond.code yX9_turn cX9_turn 2 (some .int) ∈ pm_tbl := List.mem_filter.mpr ⟨List.mem_of_getElem? (i := 563) (by decide +kernel), by decide +kernel⟩
theorem km_X9_turn : Cond.instanceMethod yX9_turn ∈ pm_tbl := List.mem_filter.mpr ⟨List.mem_of_getElem? (i := 561) (by decide +kernel), by decide +kernel⟩
theorem ks_X9_turn : Cond.selects RX9 yX9_turn yX9_turn ∈ pm_tbl := List.mem_filter.mpr ⟨List.mem_of_getElem? (i := 562) (by decide +kernel), by decide +kernel⟩
theorem kc_X9_join : Cond.code yX9_join cX9_join 3 (some .int) ∈ pm_tbl := List.mem_filter.mpr ⟨List.mem_of_getElem? (i := 567) (by decide +kernel), by decide +kernel⟩
theorem km_X9_join : Cond.instanceMethod yX9_join ∈ pm_tbl := List.mem_filter.mpr ⟨List.mem_of_getElem? (i := 565) (by decide +kernel), by decide +kernel⟩
theorem ks_X9_join : Cond.selects RX9 yX9_join yX9_join ∈ pm_tbl := List.mem_filter.mpr ⟨List.mem_of_getElem? (i := 566) (by decide +kernel), by decide +kernel⟩
theorem kc_X9_broken : Cond.code yX9_broken cX9_broken 2 (some .int) ∈ pm_tbl := List.mem_filter.mpr ⟨List.mem_of_getElem? (i := 571) (by decide +kernel), by decide +kernel⟩
theorem km_X9_broken : Cond.instanceMethod yX9_broken ∈ pm_tbl := List.mem_filter.mpr ⟨List.mem_of_getElem? (i := 569) (by decide +kernel), by decide +kernel⟩
theorem ks_X9_broken : Cond.selects RX9 yX9_broken yX9_broken ∈ pm_tbl := List.mem_filter.mpr ⟨List.mem_of_getElem? (i := 570) (by decide +kernel), by decide +kernel⟩
theorem kc_X9_look : Cond.code yX9_look cX9_look 4 (some .int) ∈ pm_tbl := List.mem_filter.mpr ⟨List.mem_of_getElem? (i := 575) (by decide +kernel), by decide +kernel⟩
theorem km_X9_look : Cond.instanceMethod yX9_look ∈ pm_tbl := List.mem_filter.mpr ⟨List.mem_of_getElem? (i := 573) (by decide +kernel), by decide +kernel⟩
theorem ks_X9_look : Cond.selects RX9 yX9_look yX9_look ∈ pm_tbl := List.mem_filter.mpr ⟨List.mem_of_getElem? (i := 574) (by decide +kernel), by decide +kernel⟩
theorem kc_X9_allows : Cond.code yX9_allows cX9_allows 4 (some .int) ∈ pm_tbl := List.mem_filter.mpr ⟨List.mem_of_getElem? (i := 588) (by decide +kernel), by decide +kernel⟩
theorem km_X9_allows : Cond.instanceMethod yX9_allows ∈ pm_tbl := List.mem_filter.mpr ⟨List.mem_of_getElem? (i := 586) (by decide +kernel), by decide +kernel⟩
theorem ks_X9_allows : Cond.selects RX9 yX9_allows yX9_allows ∈ pm_tbl := List.mem_filter.mpr ⟨List.mem_of_getElem? (i := 587) (by decide +kernel), by decide +kernel⟩
theorem kc_X9_rank : Cond.code yX9_rank cX9_rank 4 (some .int) ∈ pm_tbl := List.mem_filter.mpr ⟨List.mem_of_getElem? (i := 593) (by decide +kernel), by decide +kernel⟩
theorem km_X9_rank : Cond.instanceMethod yX9_rank ∈ pm_tbl := List.mem_filter.mpr ⟨List.mem_of_getElem? (i := 591) (by decide +kernel), by decide +kernel⟩
theorem ks_X9_rank : Cond.selects RX9 yX9_rank yX9_rank ∈ pm_tbl := List.mem_filter.mpr ⟨List.mem_of_getElem? (i := 592) (by decide +kernel), by decide +kernel⟩
theorem kc_X9_span : Cond.code yX9_span cX9_span 6 (some .int) ∈ pm_tbl := List.mem_filter.mpr ⟨List.mem_of_getElem? (i := 597) (by decide +kernel), by decide +kernel⟩
theorem km_X9_span : Cond.instanceMethod yX9_span ∈ pm_tbl := List.mem_filter.mpr ⟨List.mem_of_getElem? (i := 595) (by decide +kernel), by decide +kernel⟩
theorem ks_X9_span : Cond.selects RX9 yX9_span yX9_span ∈ pm_tbl := List.mem_filter.mpr ⟨List.mem_of_getElem? (i := 596) (by decide +kernel), by decide +kernel⟩
theorem kc_X9_ring : Cond.code yX9_ring cX9_ring 6 (some .int) ∈ pm_tbl := List.mem_filter.mpr ⟨List.mem_of_getElem? (i := 601) (by decide +kernel), by decide +kernel⟩
theorem km_X9_ring : Cond.instanceMethod yX9_ring ∈ pm_tbl := List.mem_filter.mpr ⟨List.mem_of_getElem? (i := 599) (by decide +kernel), by decide +kernel⟩
theorem ks_X9_ring : Cond.selects RX9 yX9_ring yX9_ring ∈ pm_tbl := List.mem_filter.mpr ⟨List.mem_of_getElem? (i := 600) (by decide +kernel), by decide +kernel⟩
theorem kc_X9_exchange : Cond.code yX9_exchange cX9_exchange 6 (some .int) ∈ pm_tbl := List.mem_filter.mpr ⟨List.mem_of_getElem? (i := 605) (by decide +kernel), by decide +kernel⟩
theorem km_X9_exchange : Cond.instanceMethod yX9_exchange ∈ pm_tbl := List.mem_filter.mpr ⟨List.mem_of_getElem? (i := 603) (by decide +kernel), by decide +kernel⟩
theorem ks_X9_exchange : Cond.selects RX9 yX9_exchange yX9_exchange ∈ pm_tbl := List.mem_filter.mpr ⟨List.mem_of_getElem? (i := 604) (by decide +kernel), by decide +kernel⟩
theorem kc_X9_full : Cond.code yX9_full cX9_full 8 (some .int) ∈ pm_tbl := List.mem_filter.mpr ⟨List.mem_of_getElem? (i := 613) (by decide +kernel), by decide +kernel⟩
theorem km_X9_full : Cond.instanceMethod yX9_full ∈ pm_tbl := List.mem_filter.mpr ⟨List.mem_of_getElem? (i := 611) (by decide +kernel), by decide +kernel⟩
theorem ks_X9_full : Cond.selects RX9 yX9_full yX9_full ∈ pm_tbl := List.mem_filter.mpr ⟨List.mem_of_getElem? (i := 612) (by decide +kernel), by decide +kernel⟩
theorem kc_X9_both : Cond.code yX9_both cX9_both 5 (some .int) ∈ pm_tbl := List.mem_filter.mpr ⟨List.mem_of_getElem? (i := 625) (by decide +kernel), by decide +kernel⟩
theorem km_X9_both : Cond.instanceMethod yX9_both ∈ pm_tbl := List.mem_filter.mpr ⟨List.mem_of_getElem? (i := 623) (by decide +kernel), by decide +kernel⟩
theorem ks_X9_both : Cond.selects RX9 yX9_both yX9_both ∈ pm_tbl := List.mem_filter.mpr ⟨List.mem_of_getElem? (i := 624) (by decide +kernel), by decide +kernel⟩
theorem kc_X9_split : Cond.code yX9_split cX9_split 7 (some .int) ∈ pm_tbl := List.mem_filter.mpr ⟨List.mem_of_getElem? (i := 634) (by decide +kernel), by decide +kernel⟩
theorem km_X9_split : Cond.instanceMethod yX9_split ∈ pm_tbl := List.mem_filter.mpr ⟨List.mem_of_getElem? (i := 632) (by decide +kernel), by decide +kernel⟩
theorem ks_X9_split : Cond.selects RX9 yX9_split yX9_split ∈ pm_tbl := List.mem_filter.mpr ⟨List.mem_of_getElem? (i := 633) (by decide +kernel), by decide +kernel⟩
theorem kc_X9_most : Cond.code yX9_most cX9_most 8 (some .int) ∈ pm_tbl := List.mem_filter.mpr ⟨List.mem_of_getElem? (i := 638) (by decide +kernel), by decide +kernel⟩
theorem km_X9_most : Cond.instanceMethod yX9_most ∈ pm_tbl := List.mem_filter.mpr ⟨List.mem_of_getElem? (i := 636) (by decide +kernel), by decide +kernel⟩
theorem ks_X9_most : Cond.selects RX9 yX9_most yX9_most ∈ pm_tbl := List.mem_filter.mpr ⟨List.mem_of_getElem? (i := 637) (by decide +kernel), by decide +kernel⟩
theorem kc_X9_three : Cond.code yX9_three cX9_three 7 (some .int) ∈ pm_tbl := List.mem_filter.mpr ⟨List.mem_of_getElem? (i := 646) (by decide +kernel), by decide +kernel⟩
theorem km_X9_three : Cond.instanceMethod yX9_three ∈ pm_tbl := List.mem_filter.mpr ⟨List.mem_of_getElem? (i := 644) (by decide +kernel), by decide +kernel⟩
theorem ks_X9_three : Cond.selects RX9 yX9_three yX9_three ∈ pm_tbl := List.mem_filter.mpr ⟨List.mem_of_getElem? (i := 645) (by decide +kernel), by decide +kernel⟩
theorem kc_X9_fewest : Cond.code yX9_fewest cX9_fewest 3 (some .int) ∈ pm_tbl := List.mem_filter.mpr ⟨List.mem_of_getElem? (i := 650) (by decide +kernel), by decide +kernel⟩
theorem km_X9_fewest : Cond.instanceMethod yX9_fewest ∈ pm_tbl := List.mem_filter.mpr ⟨List.mem_of_getElem? (i := 648) (by decide +kernel), by decide +kernel⟩
theorem ks_X9_fewest : Cond.selects RX9 yX9_fewest yX9_fewest ∈ pm_tbl := List.mem_filter.mpr ⟨List.mem_of_getElem? (i := 649) (by decide +kernel), by decide +kernel⟩
theorem kc_X9_dealt : Cond.code yX9_dealt cX9_dealt 4 (some .int) ∈ pm_tbl := List.mem_filter.mpr ⟨List.mem_of_getElem? (i := 666) (by decide +kernel), by decide +kernel⟩
theorem km_X9_dealt : Cond.instanceMethod yX9_dealt ∈ pm_tbl := List.mem_filter.mpr ⟨List.mem_of_getElem? (i := 664) (by decide +kernel), by decide +kernel⟩
theorem ks_X9_dealt : Cond.selects RX9 yX9_dealt yX9_dealt ∈ pm_tbl := List.mem_filter.mpr ⟨List.mem_of_getElem? (i := 665) (by decide +kernel), by decide +kernel⟩
theorem kc_X9_crowd : Cond.code yX9_crowd cX9_crowd 3 (some .int) ∈ pm_tbl := List.mem_filter.mpr ⟨List.mem_of_getElem? (i := 686) (by decide +kernel), by decide +kernel⟩
theorem km_X9_crowd : Cond.instanceMethod yX9_crowd ∈ pm_tbl := List.mem_filter.mpr ⟨List.mem_of_getElem? (i := 684) (by decide +kernel), by decide +kernel⟩
theorem ks_X9_crowd : Cond.selects RX9 yX9_crowd yX9_crowd ∈ pm_tbl := List.mem_filter.mpr ⟨List.mem_of_getElem? (i := 685) (by decide +kernel), by decide +kernel⟩
theorem kc_X9_pack : Cond.code yX9_pack cX9_pack 7 (some .int) ∈ pm_tbl := List.mem_filter.mpr ⟨List.mem_of_getElem? (i := 690) (by decide +kernel), by decide +kernel⟩
theorem km_X9_pack : Cond.instanceMethod yX9_pack ∈ pm_tbl := List.mem_filter.mpr ⟨List.mem_of_getElem? (i := 688) (by decide +kernel), by decide +kernel⟩
theorem ks_X9_pack : Cond.selects RX9 yX9_pack yX9_pack ∈ pm_tbl := List.mem_filter.mpr ⟨List.mem_of_getElem? (i := 689) (by decide +kernel), by decide +kernel⟩
theorem kc_X9_same : Cond.code yX9_same cX9_same 6 (some .int) ∈ pm_tbl := List.mem_filter.mpr ⟨List.mem_of_getElem? (i := 695) (by decide +kernel), by decide +kernel⟩
theorem km_X9_same : Cond.instanceMethod yX9_same ∈ pm_tbl := List.mem_filter.mpr ⟨List.mem_of_getElem? (i := 693) (by decide +kernel), by decide +kernel⟩
theorem ks_X9_same : Cond.selects RX9 yX9_same yX9_same ∈ pm_tbl := List.mem_filter.mpr ⟨List.mem_of_getElem? (i := 694) (by decide +kernel), by decide +kernel⟩
theorem kc_X9_count : Cond.code yX9_count cX9_count 2 (some .int) ∈ pm_tbl := List.mem_filter.mpr ⟨List.mem_of_getElem? (i := 699) (by decide +kernel), by decide +kernel⟩
theorem km_X9_count : Cond.instanceMethod yX9_count ∈ pm_tbl := List.mem_filter.mpr ⟨List.mem_of_getElem? (i := 697) (by decide +kernel), by decide +kernel⟩
theorem ks_X9_count : Cond.selects RX9 yX9_count yX9_count ∈ pm_tbl := List.mem_filter.mpr ⟨List.mem_of_getElem? (i := 698) (by decide +kernel), by decide +kernel⟩
theorem kc_X9_startAnew : Cond.code yX9_startAnew cX9_startAnew 3 none ∈ pm_tbl := List.mem_filter.mpr ⟨List.mem_of_getElem? (i := 208) (by decide +kernel), by decide +kernel⟩
theorem km_X9_startAnew : Cond.instanceMethod yX9_startAnew ∈ pm_tbl := List.mem_filter.mpr ⟨List.mem_of_getElem? (i := 207) (by decide +kernel), by decide +kernel⟩
theorem ks_X9_startAnew : Cond.selects RX9 yX9_startAnew yX9_startAnew ∈ pm_tbl := List.mem_filter.mpr ⟨by decide +kernel, by decide +kernel⟩
theorem kc_X9_isThing : Cond.code yX9_isThing cX9_isThing 2 (some .boolean) ∈ pm_tbl := List.mem_filter.mpr ⟨List.mem_of_getElem? (i := 265) (by decide +kernel), by decide +kernel⟩
theorem km_X9_isThing : Cond.instanceMethod yX9_isThing ∈ pm_tbl := List.mem_filter.mpr ⟨List.mem_of_getElem? (i := 264) (by decide +kernel), by decide +kernel⟩
theorem ks_X9_isThing : Cond.selects RX9 yX9_isThing yX9_isThing ∈ pm_tbl := List.mem_filter.mpr ⟨by decide +kernel, by decide +kernel⟩
theorem kc_X9_isSet : Cond.code yX9_isSet cX9_isSet 2 (some .boolean) ∈ pm_tbl := List.mem_filter.mpr ⟨List.mem_of_getElem? (i := 532) (by decide +kernel), by decide +kernel⟩
theorem km_X9_isSet : Cond.instanceMethod yX9_isSet ∈ pm_tbl := List.mem_filter.mpr ⟨List.mem_of_getElem? (i := 531) (by decide +kernel), by decide +kernel⟩
theorem ks_X9_isSet : Cond.selects RX9 yX9_isSet yX9_isSet ∈ pm_tbl := List.mem_filter.mpr ⟨by decide +kernel, by decide +kernel⟩
theorem kc_X9_slotAt : Cond.code yX9_slotAt cX9_slotAt 2 (some (.object "IndependenceDesk$Slot")) ∈ pm_tbl := List.mem_filter.mpr ⟨List.mem_of_getElem? (i := 274) (by decide +kernel), by decide +kernel⟩
theorem km_X9_slotAt : Cond.instanceMethod yX9_slotAt ∈ pm_tbl := List.mem_filter.mpr ⟨List.mem_of_getElem? (i := 273) (by decide +kernel), by decide +kernel⟩
theorem ks_X9_slotAt : Cond.selects RX9 yX9_slotAt yX9_slotAt ∈ pm_tbl := List.mem_filter.mpr ⟨by decide +kernel, by decide +kernel⟩
theorem kc_X9_ruleAt : Cond.code yX9_ruleAt cX9_ruleAt 2 (some (.object "IndependenceDesk$Rule")) ∈ pm_tbl := List.mem_filter.mpr ⟨List.mem_of_getElem? (i := 528) (by decide +kernel), by decide +kernel⟩
theorem km_X9_ruleAt : Cond.instanceMethod yX9_ruleAt ∈ pm_tbl := List.mem_filter.mpr ⟨List.mem_of_getElem? (i := 527) (by decide +kernel), by decide +kernel⟩
theorem ks_X9_ruleAt : Cond.selects RX9 yX9_ruleAt yX9_ruleAt ∈ pm_tbl := List.mem_filter.mpr ⟨by decide +kernel, by decide +kernel⟩
theorem kc_X9_slotsWithRow : Cond.code yX9_slotsWithRow cX9_slotsWithRow 4 (some .int) ∈ pm_tbl := List.mem_filter.mpr ⟨List.mem_of_getElem? (i := 703) (by decide +kernel), by decide +kernel⟩
theorem km_X9_slotsWithRow : Cond.instanceMethod yX9_slotsWithRow ∈ pm_tbl := List.mem_filter.mpr ⟨List.mem_of_getElem? (i := 702) (by decide +kernel), by decide +kernel⟩
theorem ks_X9_slotsWithRow : Cond.selects RX9 yX9_slotsWithRow yX9_slotsWithRow ∈ pm_tbl := List.mem_filter.mpr ⟨by decide +kernel, by decide +kernel⟩
theorem kc_X9_numberRefusal : Cond.code yX9_numberRefusal cX9_numberRefusal 4 (some .int) ∈ pm_tbl := List.mem_filter.mpr ⟨List.mem_of_getElem? (i := 301) (by decide +kernel), by decide +kernel⟩
theorem km_X9_numberRefusal : Cond.instanceMethod yX9_numberRefusal ∈ pm_tbl := List.mem_filter.mpr ⟨List.mem_of_getElem? (i := 300) (by decide +kernel), by decide +kernel⟩
theorem ks_X9_numberRefusal : Cond.selects RX9 yX9_numberRefusal yX9_numberRefusal ∈ pm_tbl := List.mem_filter.mpr ⟨by decide +kernel, by decide +kernel⟩
theorem kc_X9_weightOf : Cond.code yX9_weightOf cX9_weightOf 4 (some .int) ∈ pm_tbl := List.mem_filter.mpr ⟨List.mem_of_getElem? (i := 642) (by decide +kernel), by decide +kernel⟩
theorem km_X9_weightOf : Cond.instanceMethod yX9_weightOf ∈ pm_tbl := List.mem_filter.mpr ⟨List.mem_of_getElem? (i := 641) (by decide +kernel), by decide +kernel⟩
theorem ks_X9_weightOf : Cond.selects RX9 yX9_weightOf yX9_weightOf ∈ pm_tbl := List.mem_filter.mpr ⟨by decide +kernel, by decide +kernel⟩
theorem kc_X9_checkFromNumbers : Cond.code yX9_checkFromNumbers cX9_checkFromNumbers 2 (some (.object "IndependenceDesk$Check")) ∈ pm_tbl := List.mem_filter.mpr ⟨List.mem_of_getElem? (i := 340) (by decide +kernel), by decide +kernel⟩
theorem km_X9_checkFromNumbers : Cond.instanceMethod yX9_checkFromNumbers ∈ pm_tbl := List.mem_filter.mpr ⟨List.mem_of_getElem? (i := 339) (by decide +kernel), by decide +kernel⟩
theorem ks_X9_checkFromNumbers : Cond.selects RX9 yX9_checkFromNumbers yX9_checkFromNumbers ∈ pm_tbl := List.mem_filter.mpr ⟨by decide +kernel, by decide +kernel⟩
theorem kc_X9_addDerived : Cond.code yX9_addDerived cX9_addDerived 9 (some .int) ∈ pm_tbl := List.mem_filter.mpr ⟨List.mem_of_getElem? (i := 524) (by decide +kernel), by decide +kernel⟩
theorem km_X9_addDerived : Cond.instanceMethod yX9_addDerived ∈ pm_tbl := List.mem_filter.mpr ⟨List.mem_of_getElem? (i := 523) (by decide +kernel), by decide +kernel⟩
theorem ks_X9_addDerived : Cond.selects RX9 yX9_addDerived yX9_addDerived ∈ pm_tbl := List.mem_filter.mpr ⟨by decide +kernel, by decide +kernel⟩
theorem kc_X9_addRule : Cond.code yX9_addRule cX9_addRule 7 (some .int) ∈ pm_tbl := List.mem_filter.mpr ⟨List.mem_of_getElem? (i := 430) (by decide +kernel), by decide +kernel⟩
theorem km_X9_addRule : Cond.instanceMethod yX9_addRule ∈ pm_tbl := List.mem_filter.mpr ⟨List.mem_of_getElem? (i := 429) (by decide +kernel), by decide +kernel⟩
theorem ks_X9_addRule : Cond.selects RX9 yX9_addRule yX9_addRule ∈ pm_tbl := List.mem_filter.mpr ⟨by decide +kernel, by decide +kernel⟩
theorem kc_X9_thingsThatMayGo : Cond.code yX9_thingsThatMayGo cX9_thingsThatMayGo 7 (some .int) ∈ pm_tbl := List.mem_filter.mpr ⟨List.mem_of_getElem? (i := 609) (by decide +kernel), by decide +kernel⟩
theorem km_X9_thingsThatMayGo : Cond.instanceMethod yX9_thingsThatMayGo ∈ pm_tbl := List.mem_filter.mpr ⟨List.mem_of_getElem? (i := 608) (by decide +kernel), by decide +kernel⟩
theorem ks_X9_thingsThatMayGo : Cond.selects RX9 yX9_thingsThatMayGo yX9_thingsThatMayGo ∈ pm_tbl := List.mem_filter.mpr ⟨by decide +kernel, by decide +kernel⟩
theorem kc_X9_nextByWeight : Cond.code yX9_nextByWeight cX9_nextByWeight 5 (some .int) ∈ pm_tbl := List.mem_filter.mpr ⟨List.mem_of_getElem? (i := 617) (by decide +kernel), by decide +kernel⟩
theorem km_X9_nextByWeight : Cond.instanceMethod yX9_nextByWeight ∈ pm_tbl := List.mem_filter.mpr ⟨List.mem_of_getElem? (i := 616) (by decide +kernel), by decide +kernel⟩
theorem ks_X9_nextByWeight : Cond.selects RX9 yX9_nextByWeight yX9_nextByWeight ∈ pm_tbl := List.mem_filter.mpr ⟨by decide +kernel, by decide +kernel⟩
theorem kc_X9_goesAhead : Cond.code yX9_goesAhead cX9_goesAhead 4 (some .boolean) ∈ pm_tbl := List.mem_filter.mpr ⟨List.mem_of_getElem? (i := 621) (by decide +kernel), by decide +kernel⟩
theorem km_X9_goesAhead : Cond.instanceMethod yX9_goesAhead ∈ pm_tbl := List.mem_filter.mpr ⟨List.mem_of_getElem? (i := 620) (by decide +kernel), by decide +kernel⟩
theorem ks_X9_goesAhead : Cond.selects RX9 yX9_goesAhead yX9_goesAhead ∈ pm_tbl := List.mem_filter.mpr ⟨by decide +kernel, by decide +kernel⟩
theorem kc_X9_mostCommon : Cond.code yX9_mostCommon cX9_mostCommon 6 (some .int) ∈ pm_tbl := List.mem_filter.mpr ⟨List.mem_of_getElem? (i := 629) (by decide +kernel), by decide +kernel⟩
theorem km_X9_mostCommon : Cond.instanceMethod yX9_mostCommon ∈ pm_tbl := List.mem_filter.mpr ⟨List.mem_of_getElem? (i := 628) (by decide +kernel), by decide +kernel⟩
theorem ks_X9_mostCommon : Cond.selects RX9 yX9_mostCommon yX9_mostCommon ∈ pm_tbl := List.mem_filter.mpr ⟨by decide +kernel, by decide +kernel⟩
theorem kc_X9_heapsNeeded : Cond.code yX9_heapsNeeded cX9_heapsNeeded 4 (some .int) ∈ pm_tbl := List.mem_filter.mpr ⟨List.mem_of_getElem? (i := 662) (by decide +kernel), by decide +kernel⟩
theorem km_X9_heapsNeeded : Cond.instanceMethod yX9_heapsNeeded ∈ pm_tbl := List.mem_filter.mpr ⟨List.mem_of_getElem? (i := 661) (by decide +kernel), by decide +kernel⟩
theorem ks_X9_heapsNeeded : Cond.selects RX9 yX9_heapsNeeded yX9_heapsNeeded ∈ pm_tbl := List.mem_filter.mpr ⟨by decide +kernel, by decide +kernel⟩
theorem kc_X9_mostCrowded : Cond.code yX9_mostCrowded cX9_mostCrowded 6 (some .int) ∈ pm_tbl := List.mem_filter.mpr ⟨List.mem_of_getElem? (i := 658) (by decide +kernel), by decide +kernel⟩
theorem km_X9_mostCrowded : Cond.instanceMethod yX9_mostCrowded ∈ pm_tbl := List.mem_filter.mpr ⟨List.mem_of_getElem? (i := 657) (by decide +kernel), by decide +kernel⟩
theorem ks_X9_mostCrowded : Cond.selects RX9 yX9_mostCrowded yX9_mostCrowded ∈ pm_tbl := List.mem_filter.mpr ⟨by decide +kernel, by decide +kernel⟩
theorem kc_X9_numberInDeal : Cond.code yX9_numberInDeal cX9_numberInDeal 7 (some .int) ∈ pm_tbl := List.mem_filter.mpr ⟨List.mem_of_getElem? (i := 670) (by decide +kernel), by decide +kernel⟩
theorem km_X9_numberInDeal : Cond.instanceMethod yX9_numberInDeal ∈ pm_tbl := List.mem_filter.mpr ⟨List.mem_of_getElem? (i := 669) (by decide +kernel), by decide +kernel⟩
theorem ks_X9_numberInDeal : Cond.selects RX9 yX9_numberInDeal yX9_numberInDeal ∈ pm_tbl := List.mem_filter.mpr ⟨by decide +kernel, by decide +kernel⟩
theorem kc_X9_heapThatMayTake : Cond.code yX9_heapThatMayTake cX9_heapThatMayTake 7 (some .int) ∈ pm_tbl := List.mem_filter.mpr ⟨List.mem_of_getElem? (i := 674) (by decide +kernel), by decide +kernel⟩
theorem km_X9_heapThatMayTake : Cond.instanceMethod yX9_heapThatMayTake ∈ pm_tbl := List.mem_filter.mpr ⟨List.mem_of_getElem? (i := 673) (by decide +kernel), by decide +kernel⟩
theorem ks_X9_heapThatMayTake : Cond.selects RX9 yX9_heapThatMayTake yX9_heapThatMayTake ∈ pm_tbl := List.mem_filter.mpr ⟨by decide +kernel, by decide +kernel⟩
theorem kc_X9_restCanBeDealt : Cond.code yX9_restCanBeDealt cX9_restCanBeDealt 7 (some .boolean) ∈ pm_tbl := List.mem_filter.mpr ⟨List.mem_of_getElem? (i := 678) (by decide +kernel), by decide +kernel⟩
theorem km_X9_restCanBeDealt : Cond.instanceMethod yX9_restCanBeDealt ∈ pm_tbl := List.mem_filter.mpr ⟨List.mem_of_getElem? (i := 677) (by decide +kernel), by decide +kernel⟩
theorem ks_X9_restCanBeDealt : Cond.selects RX9 yX9_restCanBeDealt yX9_restCanBeDealt ∈ pm_tbl := List.mem_filter.mpr ⟨by decide +kernel, by decide +kernel⟩
theorem kc_X9_roomFor : Cond.code yX9_roomFor cX9_roomFor 7 (some .int) ∈ pm_tbl := List.mem_filter.mpr ⟨List.mem_of_getElem? (i := 682) (by decide +kernel), by decide +kernel⟩
theorem km_X9_roomFor : Cond.instanceMethod yX9_roomFor ∈ pm_tbl := List.mem_filter.mpr ⟨List.mem_of_getElem? (i := 681) (by decide +kernel), by decide +kernel⟩
theorem ks_X9_roomFor : Cond.selects RX9 yX9_roomFor yX9_roomFor ∈ pm_tbl := List.mem_filter.mpr ⟨by decide +kernel, by decide +kernel⟩
theorem kc_X10_init : Cond.code yX10_init cX10_init 1 none ∈ pm_tbl := List.mem_filter.mpr ⟨List.mem_of_getElem? (i := 708) (by decide +kernel), by decide +kernel⟩
theorem km_X10_init : Cond.instanceMethod yX10_init ∈ pm_tbl := List.mem_filter.mpr ⟨List.mem_of_getElem? (i := 707) (by decide +kernel), by decide +kernel⟩
theorem kc_X10_anew : Cond.code yX10_anew cX10_anew 3 none ∈ pm_tbl := List.mem_filter.mpr ⟨List.mem_of_getElem? (i := 714) (by decide +kernel), by decide +kernel⟩
theorem km_X10_anew : Cond.instanceMethod yX10_anew ∈ pm_tbl := List.mem_filter.mpr ⟨List.mem_of_getElem? (i := 713) (by decide +kernel), by decide +kernel⟩
theorem ks_X10_anew : Cond.selects RX10 yX10_anew yX10_anew ∈ pm_tbl := List.mem_filter.mpr ⟨by decide +kernel, by decide +kernel⟩
theorem kc_X10_fresh : Cond.code yX10_fresh cX10_fresh 2 (some .boolean) ∈ pm_tbl := List.mem_filter.mpr ⟨List.mem_of_getElem? (i := 798) (by decide +kernel), by decide +kernel⟩
theorem km_X10_fresh : Cond.instanceMethod yX10_fresh ∈ pm_tbl := List.mem_filter.mpr ⟨List.mem_of_getElem? (i := 796) (by decide +kernel), by decide +kernel⟩
theorem ks_X10_fresh : Cond.selects RX10 yX10_fresh yX10_fresh ∈ pm_tbl := List.mem_filter.mpr ⟨List.mem_of_getElem? (i := 797) (by decide +kernel), by decide +kernel⟩
theorem kc_X10_isThing : Cond.code yX10_isThing cX10_isThing 2 (some .boolean) ∈ pm_tbl := List.mem_filter.mpr ⟨List.mem_of_getElem? (i := 806) (by decide +kernel), by decide +kernel⟩
theorem km_X10_isThing : Cond.instanceMethod yX10_isThing ∈ pm_tbl := List.mem_filter.mpr ⟨List.mem_of_getElem? (i := 805) (by decide +kernel), by decide +kernel⟩
theorem ks_X10_isThing : Cond.selects RX10 yX10_isThing yX10_isThing ∈ pm_tbl := List.mem_filter.mpr ⟨by decide +kernel, by decide +kernel⟩
theorem kc_X10_isSet : Cond.code yX10_isSet cX10_isSet 2 (some .boolean) ∈ pm_tbl := List.mem_filter.mpr ⟨List.mem_of_getElem? (i := 934) (by decide +kernel), by decide +kernel⟩
theorem km_X10_isSet : Cond.instanceMethod yX10_isSet ∈ pm_tbl := List.mem_filter.mpr ⟨List.mem_of_getElem? (i := 933) (by decide +kernel), by decide +kernel⟩
theorem ks_X10_isSet : Cond.selects RX10 yX10_isSet yX10_isSet ∈ pm_tbl := List.mem_filter.mpr ⟨by decide +kernel, by decide +kernel⟩
theorem kc_X10_isRule : Cond.code yX10_isRule cX10_isRule 2 (some .boolean) ∈ pm_tbl := List.mem_filter.mpr ⟨List.mem_of_getElem? (i := 930) (by decide +kernel), by decide +kernel⟩
theorem km_X10_isRule : Cond.instanceMethod yX10_isRule ∈ pm_tbl := List.mem_filter.mpr ⟨List.mem_of_getElem? (i := 929) (by decide +kernel), by decide +kernel⟩
theorem ks_X10_isRule : Cond.selects RX10 yX10_isRule yX10_isRule ∈ pm_tbl := List.mem_filter.mpr ⟨by decide +kernel, by decide +kernel⟩
theorem kc_X10_weight : Cond.code yX10_weight cX10_weight 4 (some .int) ∈ pm_tbl := List.mem_filter.mpr ⟨List.mem_of_getElem? (i := 802) (by decide +kernel), by decide +kernel⟩
theorem km_X10_weight : Cond.instanceMethod yX10_weight ∈ pm_tbl := List.mem_filter.mpr ⟨List.mem_of_getElem? (i := 800) (by decide +kernel), by decide +kernel⟩
theorem ks_X10_weight : Cond.selects RX10 yX10_weight yX10_weight ∈ pm_tbl := List.mem_filter.mpr ⟨List.mem_of_getElem? (i := 801) (by decide +kernel), by decide +kernel⟩
theorem kc_X10_isSlot : Cond.code yX10_isSlot cX10_isSlot 1 (some .boolean) ∈ pm_tbl := List.mem_filter.mpr ⟨List.mem_of_getElem? (i := 814) (by decide +kernel), by decide +kernel⟩
theorem kt_X10_isSlot : Cond.static yX10_isSlot ∈ pm_tbl := List.mem_filter.mpr ⟨List.mem_of_getElem? (i := 813) (by decide +kernel), by decide +kernel⟩
theorem kc_X10_row : Cond.code yX10_row cX10_row 5 (some .int) ∈ pm_tbl := List.mem_filter.mpr ⟨List.mem_of_getElem? (i := 811) (by decide +kernel), by decide +kernel⟩
theorem km_X10_row : Cond.instanceMethod yX10_row ∈ pm_tbl := List.mem_filter.mpr ⟨List.mem_of_getElem? (i := 809) (by decide +kernel), by decide +kernel⟩
theorem ks_X10_row : Cond.selects RX10 yX10_row yX10_row ∈ pm_tbl := List.mem_filter.mpr ⟨List.mem_of_getElem? (i := 810) (by decide +kernel), by decide +kernel⟩
theorem kc_X10_tear : Cond.code yX10_tear cX10_tear 2 (some .boolean) ∈ pm_tbl := List.mem_filter.mpr ⟨List.mem_of_getElem? (i := 818) (by decide +kernel), by decide +kernel⟩
theorem km_X10_tear : Cond.instanceMethod yX10_tear ∈ pm_tbl := List.mem_filter.mpr ⟨List.mem_of_getElem? (i := 816) (by decide +kernel), by decide +kernel⟩
theorem ks_X10_tear : Cond.selects RX10 yX10_tear yX10_tear ∈ pm_tbl := List.mem_filter.mpr ⟨List.mem_of_getElem? (i := 817) (by decide +kernel), by decide +kernel⟩
theorem kc_X10_wrong : Cond.code yX10_wrong cX10_wrong 3 (some .int) ∈ pm_tbl := List.mem_filter.mpr ⟨List.mem_of_getElem? (i := 826) (by decide +kernel), by decide +kernel⟩
theorem km_X10_wrong : Cond.instanceMethod yX10_wrong ∈ pm_tbl := List.mem_filter.mpr ⟨List.mem_of_getElem? (i := 825) (by decide +kernel), by decide +kernel⟩
theorem ks_X10_wrong : Cond.selects RX10 yX10_wrong yX10_wrong ∈ pm_tbl := List.mem_filter.mpr ⟨by decide +kernel, by decide +kernel⟩
theorem kc_X10_write : Cond.code yX10_write cX10_write 7 (some .int) ∈ pm_tbl := List.mem_filter.mpr ⟨List.mem_of_getElem? (i := 822) (by decide +kernel), by decide +kernel⟩
theorem km_X10_write : Cond.instanceMethod yX10_write ∈ pm_tbl := List.mem_filter.mpr ⟨List.mem_of_getElem? (i := 820) (by decide +kernel), by decide +kernel⟩
theorem ks_X10_write : Cond.selects RX10 yX10_write yX10_write ∈ pm_tbl := List.mem_filter.mpr ⟨List.mem_of_getElem? (i := 821) (by decide +kernel), by decide +kernel⟩
theorem kc_X10_read : Cond.code yX10_read cX10_read 3 (some .long) ∈ pm_tbl := List.mem_filter.mpr ⟨List.mem_of_getElem? (i := 830) (by decide +kernel), by decide +kernel⟩
theorem km_X10_read : Cond.instanceMethod yX10_read ∈ pm_tbl := List.mem_filter.mpr ⟨List.mem_of_getElem? (i := 828) (by decide +kernel), by decide +kernel⟩
theorem ks_X10_read : Cond.selects RX10 yX10_read yX10_read ∈ pm_tbl := List.mem_filter.mpr ⟨List.mem_of_getElem? (i := 829) (by decide +kernel), by decide +kernel⟩
theorem kc_X10_copy : Cond.code yX10_copy cX10_copy 7 (some .int) ∈ pm_tbl := List.mem_filter.mpr ⟨List.mem_of_getElem? (i := 834) (by decide +kernel), by decide +kernel⟩
theorem km_X10_copy : Cond.instanceMethod yX10_copy ∈ pm_tbl := List.mem_filter.mpr ⟨List.mem_of_getElem? (i := 832) (by decide +kernel), by decide +kernel⟩
theorem ks_X10_copy : Cond.selects RX10 yX10_copy yX10_copy ∈ pm_tbl := List.mem_filter.mpr ⟨List.mem_of_getElem? (i := 833) (by decide +kernel), by decide +kernel⟩
theorem kc_X10_bitsOf : Cond.code yX10_bitsOf cX10_bitsOf 3 (some .int) ∈ pm_tbl := List.mem_filter.mpr ⟨List.mem_of_getElem? (i := 866) (by decide +kernel), by decide +kernel⟩
theorem kt_X10_bitsOf : Cond.static yX10_bitsOf ∈ pm_tbl := List.mem_filter.mpr ⟨List.mem_of_getElem? (i := 865) (by decide +kernel), by decide +kernel⟩
theorem kc_X10_isAllowed : Cond.code yX10_isAllowed cX10_isAllowed 3 (some .boolean) ∈ pm_tbl := List.mem_filter.mpr ⟨List.mem_of_getElem? (i := 859) (by decide +kernel), by decide +kernel⟩
theorem km_X10_isAllowed : Cond.instanceMethod yX10_isAllowed ∈ pm_tbl := List.mem_filter.mpr ⟨List.mem_of_getElem? (i := 858) (by decide +kernel), by decide +kernel⟩
theorem ks_X10_isAllowed : Cond.selects RX10 yX10_isAllowed yX10_isAllowed ∈ pm_tbl := List.mem_filter.mpr ⟨by decide +kernel, by decide +kernel⟩
theorem kc_X10_rankOf : Cond.code yX10_rankOf cX10_rankOf 3 (some .int) ∈ pm_tbl := List.mem_filter.mpr ⟨List.mem_of_getElem? (i := 918) (by decide +kernel), by decide +kernel⟩
theorem km_X10_rankOf : Cond.instanceMethod yX10_rankOf ∈ pm_tbl := List.mem_filter.mpr ⟨List.mem_of_getElem? (i := 917) (by decide +kernel), by decide +kernel⟩
theorem ks_X10_rankOf : Cond.selects RX10 yX10_rankOf yX10_rankOf ∈ pm_tbl := List.mem_filter.mpr ⟨by decide +kernel, by decide +kernel⟩
theorem kc_X10_made : Cond.code yX10_made cX10_made 9 (some .int) ∈ pm_tbl := List.mem_filter.mpr ⟨List.mem_of_getElem? (i := 914) (by decide +kernel), by decide +kernel⟩
theorem km_X10_made : Cond.instanceMethod yX10_made ∈ pm_tbl := List.mem_filter.mpr ⟨List.mem_of_getElem? (i := 913) (by decide +kernel), by decide +kernel⟩
theorem ks_X10_made : Cond.selects RX10 yX10_made yX10_made ∈ pm_tbl := List.mem_filter.mpr ⟨by decide +kernel, by decide +kernel⟩
theorem kc_X10_next : Cond.code yX10_next cX10_next 7 (some .int) ∈ pm_tbl := List.mem_filter.mpr ⟨List.mem_of_getElem? (i := 847) (by decide +kernel), by decide +kernel⟩
theorem km_X10_next : Cond.instanceMethod yX10_next ∈ pm_tbl := List.mem_filter.mpr ⟨List.mem_of_getElem? (i := 846) (by decide +kernel), by decide +kernel⟩
theorem ks_X10_next : Cond.selects RX10 yX10_next yX10_next ∈ pm_tbl := List.mem_filter.mpr ⟨by decide +kernel, by decide +kernel⟩
theorem kc_X10_rule : Cond.code yX10_rule cX10_rule 4 (some .int) ∈ pm_tbl := List.mem_filter.mpr ⟨List.mem_of_getElem? (i := 838) (by decide +kernel), by decide +kernel⟩
theorem km_X10_rule : Cond.instanceMethod yX10_rule ∈ pm_tbl := List.mem_filter.mpr ⟨List.mem_of_getElem? (i := 836) (by decide +kernel), by decide +kernel⟩
theorem ks_X10_rule : Cond.selects RX10 yX10_rule yX10_rule ∈ pm_tbl := List.mem_filter.mpr ⟨List.mem_of_getElem? (i := 837) (by decide +kernel), by decide +kernel⟩
theorem kc_X10_allow : Cond.code yX10_allow cX10_allow 2 none ∈ pm_tbl := List.mem_filter.mpr ⟨List.mem_of_getElem? (i := 851) (by decide +kernel), by decide +kernel⟩
theorem km_X10_allow : Cond.instanceMethod yX10_allow ∈ pm_tbl := List.mem_filter.mpr ⟨List.mem_of_getElem? (i := 850) (by decide +kernel), by decide +kernel⟩
theorem ks_X10_allow : Cond.selects RX10 yX10_allow yX10_allow ∈ pm_tbl := List.mem_filter.mpr ⟨by decide +kernel, by decide +kernel⟩
theorem kc_X10_readsTold : Cond.code yX10_readsTold cX10_readsTold 4 none ∈ pm_tbl := List.mem_filter.mpr ⟨List.mem_of_getElem? (i := 842) (by decide +kernel), by decide +kernel⟩
theorem km_X10_readsTold : Cond.instanceMethod yX10_readsTold ∈ pm_tbl := List.mem_filter.mpr ⟨List.mem_of_getElem? (i := 841) (by decide +kernel), by decide +kernel⟩
theorem ks_X10_readsTold : Cond.selects RX10 yX10_readsTold yX10_readsTold ∈ pm_tbl := List.mem_filter.mpr ⟨by decide +kernel, by decide +kernel⟩
theorem kc_X10_breaks : Cond.code yX10_breaks cX10_breaks 4 (some .boolean) ∈ pm_tbl := List.mem_filter.mpr ⟨List.mem_of_getElem? (i := 863) (by decide +kernel), by decide +kernel⟩
theorem km_X10_breaks : Cond.instanceMethod yX10_breaks ∈ pm_tbl := List.mem_filter.mpr ⟨List.mem_of_getElem? (i := 862) (by decide +kernel), by decide +kernel⟩
theorem ks_X10_breaks : Cond.selects RX10 yX10_breaks yX10_breaks ∈ pm_tbl := List.mem_filter.mpr ⟨by decide +kernel, by decide +kernel⟩
theorem kc_X10_breaks_ : Cond.code yX10_breaks_ cX10_breaks_ 6 (some .boolean) ∈ pm_tbl := List.mem_filter.mpr ⟨List.mem_of_getElem? (i := 855) (by decide +kernel), by decide +kernel⟩
theorem km_X10_breaks_ : Cond.instanceMethod yX10_breaks_ ∈ pm_tbl := List.mem_filter.mpr ⟨List.mem_of_getElem? (i := 854) (by decide +kernel), by decide +kernel⟩
theorem ks_X10_breaks_ : Cond.selects RX10 yX10_breaks_ yX10_breaks_ ∈ pm_tbl := List.mem_filter.mpr ⟨by decide +kernel, by decide +kernel⟩
theorem kc_X10_readsEven : Cond.code yX10_readsEven cX10_readsEven 3 none ∈ pm_tbl := List.mem_filter.mpr ⟨List.mem_of_getElem? (i := 870) (by decide +kernel), by decide +kernel⟩
theorem km_X10_readsEven : Cond.instanceMethod yX10_readsEven ∈ pm_tbl := List.mem_filter.mpr ⟨List.mem_of_getElem? (i := 869) (by decide +kernel), by decide +kernel⟩
theorem ks_X10_readsEven : Cond.selects RX10 yX10_readsEven yX10_readsEven ∈ pm_tbl := List.mem_filter.mpr ⟨by decide +kernel, by decide +kernel⟩
theorem kc_X10_readsParts : Cond.code yX10_readsParts cX10_readsParts 7 none ∈ pm_tbl := List.mem_filter.mpr ⟨List.mem_of_getElem? (i := 875) (by decide +kernel), by decide +kernel⟩
theorem km_X10_readsParts : Cond.instanceMethod yX10_readsParts ∈ pm_tbl := List.mem_filter.mpr ⟨List.mem_of_getElem? (i := 874) (by decide +kernel), by decide +kernel⟩
theorem ks_X10_readsParts : Cond.selects RX10 yX10_readsParts yX10_readsParts ∈ pm_tbl := List.mem_filter.mpr ⟨by decide +kernel, by decide +kernel⟩
theorem kc_X10_readsNested : Cond.code yX10_readsNested cX10_readsNested 5 none ∈ pm_tbl := List.mem_filter.mpr ⟨List.mem_of_getElem? (i := 881) (by decide +kernel), by decide +kernel⟩
theorem km_X10_readsNested : Cond.instanceMethod yX10_readsNested ∈ pm_tbl := List.mem_filter.mpr ⟨List.mem_of_getElem? (i := 880) (by decide +kernel), by decide +kernel⟩
theorem ks_X10_readsNested : Cond.selects RX10 yX10_readsNested yX10_readsNested ∈ pm_tbl := List.mem_filter.mpr ⟨by decide +kernel, by decide +kernel⟩
theorem kc_X10_readsEdges : Cond.code yX10_readsEdges cX10_readsEdges 7 none ∈ pm_tbl := List.mem_filter.mpr ⟨List.mem_of_getElem? (i := 886) (by decide +kernel), by decide +kernel⟩
theorem km_X10_readsEdges : Cond.instanceMethod yX10_readsEdges ∈ pm_tbl := List.mem_filter.mpr ⟨List.mem_of_getElem? (i := 885) (by decide +kernel), by decide +kernel⟩
theorem ks_X10_readsEdges : Cond.selects RX10 yX10_readsEdges yX10_readsEdges ∈ pm_tbl := List.mem_filter.mpr ⟨by decide +kernel, by decide +kernel⟩
theorem kc_X10_readsRows : Cond.code yX10_readsRows cX10_readsRows 5 none ∈ pm_tbl := List.mem_filter.mpr ⟨List.mem_of_getElem? (i := 891) (by decide +kernel), by decide +kernel⟩
theorem km_X10_readsRows : Cond.instanceMethod yX10_readsRows ∈ pm_tbl := List.mem_filter.mpr ⟨List.mem_of_getElem? (i := 890) (by decide +kernel), by decide +kernel⟩
theorem ks_X10_readsRows : Cond.selects RX10 yX10_readsRows yX10_readsRows ∈ pm_tbl := List.mem_filter.mpr ⟨by decide +kernel, by decide +kernel⟩
theorem kc_X10_isFree : Cond.code yX10_isFree cX10_isFree 10 (some .boolean) ∈ pm_tbl := List.mem_filter.mpr ⟨List.mem_of_getElem? (i := 898) (by decide +kernel), by decide +kernel⟩
theorem km_X10_isFree : Cond.instanceMethod yX10_isFree ∈ pm_tbl := List.mem_filter.mpr ⟨List.mem_of_getElem? (i := 897) (by decide +kernel), by decide +kernel⟩
theorem ks_X10_isFree : Cond.selects RX10 yX10_isFree yX10_isFree ∈ pm_tbl := List.mem_filter.mpr ⟨by decide +kernel, by decide +kernel⟩
theorem kc_X10_lead : Cond.code yX10_lead cX10_lead 4 (some .int) ∈ pm_tbl := List.mem_filter.mpr ⟨List.mem_of_getElem? (i := 902) (by decide +kernel), by decide +kernel⟩
theorem km_X10_lead : Cond.instanceMethod yX10_lead ∈ pm_tbl := List.mem_filter.mpr ⟨List.mem_of_getElem? (i := 901) (by decide +kernel), by decide +kernel⟩
theorem ks_X10_lead : Cond.selects RX10 yX10_lead yX10_lead ∈ pm_tbl := List.mem_filter.mpr ⟨by decide +kernel, by decide +kernel⟩
end
section
theorem kc_X10_readsPlaces : Cond.code yX10_readsPlaces cX10_readsPlaces 6 none ∈ pm_tbl := List.mem_filter.mpr ⟨List.mem_of_getElem? (i := 909) (by decide +kernel), by decide +kernel⟩
theorem km_X10_readsPlaces : Cond.instanceMethod yX10_readsPlaces ∈ pm_tbl := List.mem_filter.mpr ⟨List.mem_of_getElem? (i := 908) (by decide +kernel), by decide +kernel⟩
theorem ks_X10_readsPlaces : Cond.selects RX10 yX10_readsPlaces yX10_readsPlaces ∈ pm_tbl := List.mem_filter.mpr ⟨by decide +kernel, by decide +kernel⟩
theorem kc_X10_refused : Cond.code yX10_refused cX10_refused 3 (some .int) ∈ pm_tbl := List.mem_filter.mpr ⟨List.mem_of_getElem? (i := 926) (by decide +kernel), by decide +kernel⟩
theorem km_X10_refused : Cond.instanceMethod yX10_refused ∈ pm_tbl := List.mem_filter.mpr ⟨List.mem_of_getElem? (i := 925) (by decide +kernel), by decide +kernel⟩
theorem ks_X10_refused : Cond.selects RX10 yX10_refused yX10_refused ∈ pm_tbl := List.mem_filter.mpr ⟨by decide +kernel, by decide +kernel⟩
theorem kc_X10_table : Cond.code yX10_table cX10_table 3 none ∈ pm_tbl := List.mem_filter.mpr ⟨List.mem_of_getElem? (i := 938) (by decide +kernel), by decide +kernel⟩
theorem km_X10_table : Cond.instanceMethod yX10_table ∈ pm_tbl := List.mem_filter.mpr ⟨List.mem_of_getElem? (i := 937) (by decide +kernel), by decide +kernel⟩
theorem ks_X10_table : Cond.selects RX10 yX10_table yX10_table ∈ pm_tbl := List.mem_filter.mpr ⟨by decide +kernel, by decide +kernel⟩
theorem kc_X10_less : Cond.code yX10_less cX10_less 5 (some .int) ∈ pm_tbl := List.mem_filter.mpr ⟨List.mem_of_getElem? (i := 922) (by decide +kernel), by decide +kernel⟩
theorem km_X10_less : Cond.instanceMethod yX10_less ∈ pm_tbl := List.mem_filter.mpr ⟨List.mem_of_getElem? (i := 920) (by decide +kernel), by decide +kernel⟩
theorem ks_X10_less : Cond.selects RX10 yX10_less yX10_less ∈ pm_tbl := List.mem_filter.mpr ⟨List.mem_of_getElem? (i := 921) (by decide +kernel), by decide +kernel⟩
theorem kc_X10_take : Cond.code yX10_take cX10_take 5 (some .int) ∈ pm_tbl := List.mem_filter.mpr ⟨List.mem_of_getElem? (i := 942) (by decide +kernel), by decide +kernel⟩
theorem km_X10_take : Cond.instanceMethod yX10_take ∈ pm_tbl := List.mem_filter.mpr ⟨List.mem_of_getElem? (i := 940) (by decide +kernel), by decide +kernel⟩
theorem ks_X10_take : Cond.selects RX10 yX10_take yX10_take ∈ pm_tbl := List.mem_filter.mpr ⟨List.mem_of_getElem? (i := 941) (by decide +kernel), by decide +kernel⟩
theorem kc_X10_turn : Cond.code yX10_turn cX10_turn 4 (some .int) ∈ pm_tbl := List.mem_filter.mpr ⟨List.mem_of_getElem? (i := 946) (by decide +kernel), by decide +kernel⟩
theorem km_X10_turn : Cond.instanceMethod yX10_turn ∈ pm_tbl := List.mem_filter.mpr ⟨List.mem_of_getElem? (i := 944) (by decide +kernel), by decide +kernel⟩
theorem ks_X10_turn : Cond.selects RX10 yX10_turn yX10_turn ∈ pm_tbl := List.mem_filter.mpr ⟨List.mem_of_getElem? (i := 945) (by decide +kernel), by decide +kernel⟩
theorem kc_X10_join : Cond.code yX10_join cX10_join 6 (some .int) ∈ pm_tbl := List.mem_filter.mpr ⟨List.mem_of_getElem? (i := 950) (by decide +kernel), by decide +kernel⟩
theorem km_X10_join : Cond.instanceMethod yX10_join ∈ pm_tbl := List.mem_filter.mpr ⟨List.mem_of_getElem? (i := 948) (by decide +kernel), by decide +kernel⟩
theorem ks_X10_join : Cond.selects RX10 yX10_join yX10_join ∈ pm_tbl := List.mem_filter.mpr ⟨List.mem_of_getElem? (i := 949) (by decide +kernel), by decide +kernel⟩
theorem kc_X10_broken : Cond.code yX10_broken cX10_broken 2 (some .int) ∈ pm_tbl := List.mem_filter.mpr ⟨List.mem_of_getElem? (i := 954) (by decide +kernel), by decide +kernel⟩
theorem km_X10_broken : Cond.instanceMethod yX10_broken ∈ pm_tbl := List.mem_filter.mpr ⟨List.mem_of_getElem? (i := 952) (by decide +kernel), by decide +kernel⟩
theorem ks_X10_broken : Cond.selects RX10 yX10_broken yX10_broken ∈ pm_tbl := List.mem_filter.mpr ⟨List.mem_of_getElem? (i := 953) (by decide +kernel), by decide +kernel⟩
theorem kc_X10_look : Cond.code yX10_look cX10_look 5 (some .int) ∈ pm_tbl := List.mem_filter.mpr ⟨List.mem_of_getElem? (i := 958) (by decide +kernel), by decide +kernel⟩
theorem km_X10_look : Cond.instanceMethod yX10_look ∈ pm_tbl := List.mem_filter.mpr ⟨List.mem_of_getElem? (i := 956) (by decide +kernel), by decide +kernel⟩
theorem ks_X10_look : Cond.selects RX10 yX10_look yX10_look ∈ pm_tbl := List.mem_filter.mpr ⟨List.mem_of_getElem? (i := 957) (by decide +kernel), by decide +kernel⟩
theorem kc_X10_allows : Cond.code yX10_allows cX10_allows 3 (some .int) ∈ pm_tbl := List.mem_filter.mpr ⟨List.mem_of_getElem? (i := 962) (by decide +kernel), by decide +kernel⟩
theorem km_X10_allows : Cond.instanceMethod yX10_allows ∈ pm_tbl := List.mem_filter.mpr ⟨List.mem_of_getElem? (i := 960) (by decide +kernel), by decide +kernel⟩
theorem ks_X10_allows : Cond.selects RX10 yX10_allows yX10_allows ∈ pm_tbl := List.mem_filter.mpr ⟨List.mem_of_getElem? (i := 961) (by decide +kernel), by decide +kernel⟩
theorem kc_X10_rank : Cond.code yX10_rank cX10_rank 3 (some .int) ∈ pm_tbl := List.mem_filter.mpr ⟨List.mem_of_getElem? (i := 966) (by decide +kernel), by decide +kernel⟩
theorem km_X10_rank : Cond.instanceMethod yX10_rank ∈ pm_tbl := List.mem_filter.mpr ⟨List.mem_of_getElem? (i := 964) (by decide +kernel), by decide +kernel⟩
theorem ks_X10_rank : Cond.selects RX10 yX10_rank yX10_rank ∈ pm_tbl := List.mem_filter.mpr ⟨List.mem_of_getElem? (i := 965) (by decide +kernel), by decide +kernel⟩
theorem kc_X10_span : Cond.code yX10_span cX10_span 5 (some .int) ∈ pm_tbl := List.mem_filter.mpr ⟨List.mem_of_getElem? (i := 970) (by decide +kernel), by decide +kernel⟩
theorem km_X10_span : Cond.instanceMethod yX10_span ∈ pm_tbl := List.mem_filter.mpr ⟨List.mem_of_getElem? (i := 968) (by decide +kernel), by decide +kernel⟩
theorem ks_X10_span : Cond.selects RX10 yX10_span yX10_span ∈ pm_tbl := List.mem_filter.mpr ⟨List.mem_of_getElem? (i := 969) (by decide +kernel), by decide +kernel⟩
theorem kc_X10_ring : Cond.code yX10_ring cX10_ring 4 (some .int) ∈ pm_tbl := List.mem_filter.mpr ⟨List.mem_of_getElem? (i := 974) (by decide +kernel), by decide +kernel⟩
theorem km_X10_ring : Cond.instanceMethod yX10_ring ∈ pm_tbl := List.mem_filter.mpr ⟨List.mem_of_getElem? (i := 972) (by decide +kernel), by decide +kernel⟩
theorem ks_X10_ring : Cond.selects RX10 yX10_ring yX10_ring ∈ pm_tbl := List.mem_filter.mpr ⟨List.mem_of_getElem? (i := 973) (by decide +kernel), by decide +kernel⟩
theorem kc_X10_exchange : Cond.code yX10_exchange cX10_exchange 7 (some .int) ∈ pm_tbl := List.mem_filter.mpr ⟨List.mem_of_getElem? (i := 978) (by decide +kernel), by decide +kernel⟩
theorem km_X10_exchange : Cond.instanceMethod yX10_exchange ∈ pm_tbl := List.mem_filter.mpr ⟨List.mem_of_getElem? (i := 976) (by decide +kernel), by decide +kernel⟩
theorem ks_X10_exchange : Cond.selects RX10 yX10_exchange yX10_exchange ∈ pm_tbl := List.mem_filter.mpr ⟨List.mem_of_getElem? (i := 977) (by decide +kernel), by decide +kernel⟩
theorem kc_X10_weightOf : Cond.code yX10_weightOf cX10_weightOf 4 (some .int) ∈ pm_tbl := List.mem_filter.mpr ⟨List.mem_of_getElem? (i := 994) (by decide +kernel), by decide +kernel⟩
theorem km_X10_weightOf : Cond.instanceMethod yX10_weightOf ∈ pm_tbl := List.mem_filter.mpr ⟨List.mem_of_getElem? (i := 993) (by decide +kernel), by decide +kernel⟩
theorem ks_X10_weightOf : Cond.selects RX10 yX10_weightOf yX10_weightOf ∈ pm_tbl := List.mem_filter.mpr ⟨by decide +kernel, by decide +kernel⟩
theorem kc_X10_isBetter : Cond.code yX10_isBetter cX10_isBetter 9 (some .boolean) ∈ pm_tbl := List.mem_filter.mpr ⟨List.mem_of_getElem? (i := 990) (by decide +kernel), by decide +kernel⟩
theorem km_X10_isBetter : Cond.instanceMethod yX10_isBetter ∈ pm_tbl := List.mem_filter.mpr ⟨List.mem_of_getElem? (i := 989) (by decide +kernel), by decide +kernel⟩
theorem ks_X10_isBetter : Cond.selects RX10 yX10_isBetter yX10_isBetter ∈ pm_tbl := List.mem_filter.mpr ⟨by decide +kernel, by decide +kernel⟩
theorem kc_X10_isFull : Cond.code yX10_isFull cX10_isFull 3 (some .boolean) ∈ pm_tbl := List.mem_filter.mpr ⟨List.mem_of_getElem? (i := 986) (by decide +kernel), by decide +kernel⟩
theorem km_X10_isFull : Cond.instanceMethod yX10_isFull ∈ pm_tbl := List.mem_filter.mpr ⟨List.mem_of_getElem? (i := 985) (by decide +kernel), by decide +kernel⟩
theorem ks_X10_isFull : Cond.selects RX10 yX10_isFull yX10_isFull ∈ pm_tbl := List.mem_filter.mpr ⟨by decide +kernel, by decide +kernel⟩
theorem kc_X10_full : Cond.code yX10_full cX10_full 5 (some .int) ∈ pm_tbl := List.mem_filter.mpr ⟨List.mem_of_getElem? (i := 982) (by decide +kernel), by decide +kernel⟩
theorem km_X10_full : Cond.instanceMethod yX10_full ∈ pm_tbl := List.mem_filter.mpr ⟨List.mem_of_getElem? (i := 980) (by decide +kernel), by decide +kernel⟩
theorem ks_X10_full : Cond.selects RX10 yX10_full yX10_full ∈ pm_tbl := List.mem_filter.mpr ⟨List.mem_of_getElem? (i := 981) (by decide +kernel), by decide +kernel⟩
theorem kc_X10_both : Cond.code yX10_both cX10_both 5 (some .int) ∈ pm_tbl := List.mem_filter.mpr ⟨List.mem_of_getElem? (i := 998) (by decide +kernel), by decide +kernel⟩
theorem km_X10_both : Cond.instanceMethod yX10_both ∈ pm_tbl := List.mem_filter.mpr ⟨List.mem_of_getElem? (i := 996) (by decide +kernel), by decide +kernel⟩
theorem ks_X10_both : Cond.selects RX10 yX10_both yX10_both ∈ pm_tbl := List.mem_filter.mpr ⟨List.mem_of_getElem? (i := 997) (by decide +kernel), by decide +kernel⟩
theorem kc_X10_split : Cond.code yX10_split cX10_split 5 (some .int) ∈ pm_tbl := List.mem_filter.mpr ⟨List.mem_of_getElem? (i := 1002) (by decide +kernel), by decide +kernel⟩
theorem km_X10_split : Cond.instanceMethod yX10_split ∈ pm_tbl := List.mem_filter.mpr ⟨List.mem_of_getElem? (i := 1000) (by decide +kernel), by decide +kernel⟩
theorem ks_X10_split : Cond.selects RX10 yX10_split yX10_split ∈ pm_tbl := List.mem_filter.mpr ⟨List.mem_of_getElem? (i := 1001) (by decide +kernel), by decide +kernel⟩
theorem kc_X10_most : Cond.code yX10_most cX10_most 6 (some .int) ∈ pm_tbl := List.mem_filter.mpr ⟨List.mem_of_getElem? (i := 1007) (by decide +kernel), by decide +kernel⟩
theorem km_X10_most : Cond.instanceMethod yX10_most ∈ pm_tbl := List.mem_filter.mpr ⟨List.mem_of_getElem? (i := 1005) (by decide +kernel), by decide +kernel⟩
theorem ks_X10_most : Cond.selects RX10 yX10_most yX10_most ∈ pm_tbl := List.mem_filter.mpr ⟨List.mem_of_getElem? (i := 1006) (by decide +kernel), by decide +kernel⟩
theorem kc_X10_three : Cond.code yX10_three cX10_three 6 (some .int) ∈ pm_tbl := List.mem_filter.mpr ⟨List.mem_of_getElem? (i := 1011) (by decide +kernel), by decide +kernel⟩
theorem km_X10_three : Cond.instanceMethod yX10_three ∈ pm_tbl := List.mem_filter.mpr ⟨List.mem_of_getElem? (i := 1009) (by decide +kernel), by decide +kernel⟩
theorem ks_X10_three : Cond.selects RX10 yX10_three yX10_three ∈ pm_tbl := List.mem_filter.mpr ⟨List.mem_of_getElem? (i := 1010) (by decide +kernel), by decide +kernel⟩
theorem kc_X10_undealt : Cond.code yX10_undealt cX10_undealt 3 (some .int) ∈ pm_tbl := List.mem_filter.mpr ⟨List.mem_of_getElem? (i := 1019) (by decide +kernel), by decide +kernel⟩
theorem km_X10_undealt : Cond.instanceMethod yX10_undealt ∈ pm_tbl := List.mem_filter.mpr ⟨List.mem_of_getElem? (i := 1018) (by decide +kernel), by decide +kernel⟩
theorem ks_X10_undealt : Cond.selects RX10 yX10_undealt yX10_undealt ∈ pm_tbl := List.mem_filter.mpr ⟨by decide +kernel, by decide +kernel⟩
theorem kc_X10_fewestOf : Cond.code yX10_fewestOf cX10_fewestOf 7 (some .int) ∈ pm_tbl := List.mem_filter.mpr ⟨List.mem_of_getElem? (i := 1023) (by decide +kernel), by decide +kernel⟩
theorem km_X10_fewestOf : Cond.instanceMethod yX10_fewestOf ∈ pm_tbl := List.mem_filter.mpr ⟨List.mem_of_getElem? (i := 1022) (by decide +kernel), by decide +kernel⟩
theorem ks_X10_fewestOf : Cond.selects RX10 yX10_fewestOf yX10_fewestOf ∈ pm_tbl := List.mem_filter.mpr ⟨by decide +kernel, by decide +kernel⟩
theorem kc_X10_fewest : Cond.code yX10_fewest cX10_fewest 3 (some .int) ∈ pm_tbl := List.mem_filter.mpr ⟨List.mem_of_getElem? (i := 1015) (by decide +kernel), by decide +kernel⟩
theorem km_X10_fewest : Cond.instanceMethod yX10_fewest ∈ pm_tbl := List.mem_filter.mpr ⟨List.mem_of_getElem? (i := 1013) (by decide +kernel), by decide +kernel⟩
theorem ks_X10_fewest : Cond.selects RX10 yX10_fewest yX10_fewest ∈ pm_tbl := List.mem_filter.mpr ⟨List.mem_of_getElem? (i := 1014) (by decide +kernel), by decide +kernel⟩
theorem kc_X10_deals : Cond.code yX10_deals cX10_deals 6 (some .boolean) ∈ pm_tbl := List.mem_filter.mpr ⟨List.mem_of_getElem? (i := 1032) (by decide +kernel), by decide +kernel⟩
theorem km_X10_deals : Cond.instanceMethod yX10_deals ∈ pm_tbl := List.mem_filter.mpr ⟨List.mem_of_getElem? (i := 1031) (by decide +kernel), by decide +kernel⟩
theorem ks_X10_deals : Cond.selects RX10 yX10_deals yX10_deals ∈ pm_tbl := List.mem_filter.mpr ⟨by decide +kernel, by decide +kernel⟩
theorem kc_X10_dealt : Cond.code yX10_dealt cX10_dealt 6 (some .int) ∈ pm_tbl := List.mem_filter.mpr ⟨List.mem_of_getElem? (i := 1028) (by decide +kernel), by decide +kernel⟩
theorem km_X10_dealt : Cond.instanceMethod yX10_dealt ∈ pm_tbl := List.mem_filter.mpr ⟨List.mem_of_getElem? (i := 1026) (by decide +kernel), by decide +kernel⟩
theorem ks_X10_dealt : Cond.selects RX10 yX10_dealt yX10_dealt ∈ pm_tbl := List.mem_filter.mpr ⟨List.mem_of_getElem? (i := 1027) (by decide +kernel), by decide +kernel⟩
theorem kc_X10_crowd : Cond.code yX10_crowd cX10_crowd 6 (some .int) ∈ pm_tbl := List.mem_filter.mpr ⟨List.mem_of_getElem? (i := 1036) (by decide +kernel), by decide +kernel⟩
theorem km_X10_crowd : Cond.instanceMethod yX10_crowd ∈ pm_tbl := List.mem_filter.mpr ⟨List.mem_of_getElem? (i := 1034) (by decide +kernel), by decide +kernel⟩
theorem ks_X10_crowd : Cond.selects RX10 yX10_crowd yX10_crowd ∈ pm_tbl := List.mem_filter.mpr ⟨List.mem_of_getElem? (i := 1035) (by decide +kernel), by decide +kernel⟩
theorem kc_X10_pack : Cond.code yX10_pack cX10_pack 7 (some .int) ∈ pm_tbl := List.mem_filter.mpr ⟨List.mem_of_getElem? (i := 1040) (by decide +kernel), by decide +kernel⟩
theorem km_X10_pack : Cond.instanceMethod yX10_pack ∈ pm_tbl := List.mem_filter.mpr ⟨List.mem_of_getElem? (i := 1038) (by decide +kernel), by decide +kernel⟩
theorem ks_X10_pack : Cond.selects RX10 yX10_pack yX10_pack ∈ pm_tbl := List.mem_filter.mpr ⟨List.mem_of_getElem? (i := 1039) (by decide +kernel), by decide +kernel⟩
theorem kc_X10_same : Cond.code yX10_same cX10_same 4 (some .int) ∈ pm_tbl := List.mem_filter.mpr ⟨List.mem_of_getElem? (i := 1044) (by decide +kernel), by decide +kernel⟩
theorem km_X10_same : Cond.instanceMethod yX10_same ∈ pm_tbl := List.mem_filter.mpr ⟨List.mem_of_getElem? (i := 1042) (by decide +kernel), by decide +kernel⟩
theorem ks_X10_same : Cond.selects RX10 yX10_same yX10_same ∈ pm_tbl := List.mem_filter.mpr ⟨List.mem_of_getElem? (i := 1043) (by decide +kernel), by decide +kernel⟩
theorem kc_X10_count : Cond.code yX10_count cX10_count 4 (some .int) ∈ pm_tbl := List.mem_filter.mpr ⟨List.mem_of_getElem? (i := 1048) (by decide +kernel), by decide +kernel⟩
theorem km_X10_count : Cond.instanceMethod yX10_count ∈ pm_tbl := List.mem_filter.mpr ⟨List.mem_of_getElem? (i := 1046) (by decide +kernel), by decide +kernel⟩
theorem ks_X10_count : Cond.selects RX10 yX10_count yX10_count ∈ pm_tbl := List.mem_filter.mpr ⟨List.mem_of_getElem? (i := 1047) (by decide +kernel), by decide +kernel⟩
theorem kc_J6_bitCount_0f7a4 : Cond.code yJ6_bitCount_0f7a4 cJ6_bitCount_0f7a4 1 (some .int) ∈ pm_tbl := List.mem_filter.mpr ⟨List.mem_of_getElem? (i := 423) (by decide +kernel), by decide +kernel⟩
theorem kt_J6_bitCount_0f7a4 : Cond.static yJ6_bitCount_0f7a4 ∈ pm_tbl := List.mem_filter.mpr ⟨List.mem_of_getElem? (i := 422) (by decide +kernel), by decide +kernel⟩
theorem kc_J9_floorMod_7cf53 : Cond.code yJ9_floorMod_7cf53 cJ9_floorMod_7cf53 3 (some .int) ∈ pm_tbl := List.mem_filter.mpr ⟨List.mem_of_getElem? (i := 905) (by decide +kernel), by decide +kernel⟩
theorem kt_J9_floorMod_7cf53 : Cond.static yJ9_floorMod_7cf53 ∈ pm_tbl := List.mem_filter.mpr ⟨List.mem_of_getElem? (i := 904) (by decide +kernel), by decide +kernel⟩
theorem kc_J9_max_7cf53 : Cond.code yJ9_max_7cf53 cJ9_max_7cf53 2 (some .int) ∈ pm_tbl := List.mem_filter.mpr ⟨List.mem_of_getElem? (i := 362) (by decide +kernel), by decide +kernel⟩
theorem kt_J9_max_7cf53 : Cond.static yJ9_max_7cf53 ∈ pm_tbl := List.mem_filter.mpr ⟨List.mem_of_getElem? (i := 361) (by decide +kernel), by decide +kernel⟩
theorem kc_J9_min_7cf53 : Cond.code yJ9_min_7cf53 cJ9_min_7cf53 2 (some .int) ∈ pm_tbl := List.mem_filter.mpr ⟨List.mem_of_getElem? (i := 281) (by decide +kernel), by decide +kernel⟩
theorem kt_J9_min_7cf53 : Cond.static yJ9_min_7cf53 ∈ pm_tbl := List.mem_filter.mpr ⟨List.mem_of_getElem? (i := 280) (by decide +kernel), by decide +kernel⟩
theorem kl_L_7 : Cond.classLink RL 7 "IndependenceDesk" ∈ pm_tbl := List.mem_filter.mpr ⟨List.mem_of_getElem? (i := 76) (by decide +kernel), by decide +kernel⟩
theorem kl_L_9 : Cond.methodLink RL 9 yX9_init ∈ pm_tbl := List.mem_filter.mpr ⟨List.mem_of_getElem? (i := 78) (by decide +kernel), by decide +kernel⟩
theorem kl_X9_1 : Cond.methodLink RX9 1 Lib.objectInit ∈ pm_tbl := List.mem_filter.mpr ⟨List.mem_of_getElem? (i := 81) (by decide +kernel), by decide +kernel⟩
theorem kl_X9_9 : Cond.classLink RX9 9 "IndependenceDesk$Slot" ∈ pm_tbl := List.mem_filter.mpr ⟨List.mem_of_getElem? (i := 84) (by decide +kernel), by decide +kernel⟩
theorem kl_X9_15 : Cond.classLink RX9 15 "IndependenceDesk$Rule" ∈ pm_tbl := List.mem_filter.mpr ⟨List.mem_of_getElem? (i := 86) (by decide +kernel), by decide +kernel⟩
theorem kl_X9_28 : Cond.classLink RX9 28 "IndependenceDesk$Reading" ∈ pm_tbl := List.mem_filter.mpr ⟨List.mem_of_getElem? (i := 88) (by decide +kernel), by decide +kernel⟩
theorem kl_X9_30 : Cond.methodLinkNest RX9 30 yX4_init "IndependenceDesk" ∈ lw_tbl := List.mem_of_getElem? (i := 90) (by decide +kernel)
theorem kl_X4_3 : Cond.methodLink RX4 3 Lib.objectInit ∈ pm_tbl := List.mem_filter.mpr ⟨List.mem_of_getElem? (i := 93) (by decide +kernel), by decide +kernel⟩
theorem kl_X4_9 : Cond.fieldLink RX4 9 "IndependenceDesk$Reading" "source" "LIndependenceDesk$Slot;" ∈ pm_tbl := List.mem_filter.mpr ⟨List.mem_of_getElem? (i := 94) (by decide +kernel), by decide +kernel⟩
theorem kl_X4_15 : Cond.fieldLink RX4 15 "IndependenceDesk$Reading" "at" "I" ∈ pm_tbl := List.mem_filter.mpr ⟨List.mem_of_getElem? (i := 95) (by decide +kernel), by decide +kernel⟩
theorem kl_X4_19 : Cond.fieldLink RX4 19 "IndependenceDesk$Reading" "refusal" "I" ∈ pm_tbl := List.mem_filter.mpr ⟨List.mem_of_getElem? (i := 96) (by decide +kernel), by decide +kernel⟩
theorem kl_X9_129 : Cond.fieldLinkNest RX9 129 "IndependenceDesk$Reading" "refusal" "I" "IndependenceDesk" ∈ lw_tbl := List.mem_of_getElem? (i := 97) (by decide +kernel)
theorem kl_X9_35 : Cond.classLink RX9 35 "IndependenceDesk$Told" ∈ pm_tbl := List.mem_filter.mpr ⟨List.mem_of_getElem? (i := 106) (by decide +kernel), by decide +kernel⟩
theorem kl_X9_37 : Cond.methodLinkNest RX9 37 yX7_init "IndependenceDesk" ∈ lw_tbl := List.mem_of_getElem? (i := 108) (by decide +kernel)
theorem kl_X7_3 : Cond.methodLink RX7 3 Lib.objectInit ∈ pm_tbl := List.mem_filter.mpr ⟨List.mem_of_getElem? (i := 111) (by decide +kernel), by decide +kernel⟩
theorem kl_X7_11 : Cond.fieldLink RX7 11 "IndependenceDesk$Told" "marks" "[J" ∈ pm_tbl := List.mem_filter.mpr ⟨List.mem_of_getElem? (i := 112) (by decide +kernel), by decide +kernel⟩
theorem kl_X7_15 : Cond.fieldLink RX7 15 "IndependenceDesk$Told" "sets" "[I" ∈ pm_tbl := List.mem_filter.mpr ⟨List.mem_of_getElem? (i := 113) (by decide +kernel), by decide +kernel⟩
theorem kl_X7_54 : Cond.fieldLink RX7 54 "IndependenceDesk$Told" "size" "I" ∈ pm_tbl := List.mem_filter.mpr ⟨List.mem_of_getElem? (i := 114) (by decide +kernel), by decide +kernel⟩
theorem kl_X7_44 : Cond.fieldLink RX7 44 "IndependenceDesk$Told" "brokenPart" "I" ∈ pm_tbl := List.mem_filter.mpr ⟨List.mem_of_getElem? (i := 115) (by decide +kernel), by decide +kernel⟩
theorem kl_X9_149 : Cond.fieldLinkNest RX9 149 "IndependenceDesk$Told" "brokenPart" "I" "IndependenceDesk" ∈ lw_tbl := List.mem_of_getElem? (i := 116) (by decide +kernel)
theorem kl_X7_48 : Cond.fieldLink RX7 48 "IndependenceDesk$Told" "brokenFirst" "I" ∈ pm_tbl := List.mem_filter.mpr ⟨List.mem_of_getElem? (i := 117) (by decide +kernel), by decide +kernel⟩
theorem kl_X9_152 : Cond.fieldLinkNest RX9 152 "IndependenceDesk$Told" "brokenFirst" "I" "IndependenceDesk" ∈ lw_tbl := List.mem_of_getElem? (i := 118) (by decide +kernel)
theorem kl_X7_51 : Cond.fieldLink RX7 51 "IndependenceDesk$Told" "brokenSecond" "I" ∈ pm_tbl := List.mem_filter.mpr ⟨List.mem_of_getElem? (i := 119) (by decide +kernel), by decide +kernel⟩
theorem kl_X9_155 : Cond.fieldLinkNest RX9 155 "IndependenceDesk$Told" "brokenSecond" "I" "IndependenceDesk" ∈ lw_tbl := List.mem_of_getElem? (i := 120) (by decide +kernel)
theorem kl_X9_42 : Cond.classLink RX9 42 "IndependenceDesk$Bounds" ∈ pm_tbl := List.mem_filter.mpr ⟨List.mem_of_getElem? (i := 135) (by decide +kernel), by decide +kernel⟩
theorem kl_X9_44 : Cond.methodLinkNest RX9 44 yX0_init "IndependenceDesk" ∈ lw_tbl := List.mem_of_getElem? (i := 137) (by decide +kernel)
theorem kl_X0_3 : Cond.methodLink RX0 3 Lib.objectInit ∈ pm_tbl := List.mem_filter.mpr ⟨List.mem_of_getElem? (i := 140) (by decide +kernel), by decide +kernel⟩
theorem kl_X0_9 : Cond.fieldLink RX0 9 "IndependenceDesk$Bounds" "sets" "[I" ∈ pm_tbl := List.mem_filter.mpr ⟨List.mem_of_getElem? (i := 141) (by decide +kernel), by decide +kernel⟩
theorem kl_X0_15 : Cond.fieldLink RX0 15 "IndependenceDesk$Bounds" "limits" "[I" ∈ pm_tbl := List.mem_filter.mpr ⟨List.mem_of_getElem? (i := 142) (by decide +kernel), by decide +kernel⟩
theorem kl_X0_18 : Cond.fieldLink RX0 18 "IndependenceDesk$Bounds" "size" "I" ∈ pm_tbl := List.mem_filter.mpr ⟨List.mem_of_getElem? (i := 143) (by decide +kernel), by decide +kernel⟩
theorem kl_X9_49 : Cond.classLink RX9 49 "IndependenceDesk$Reaches" ∈ pm_tbl := List.mem_filter.mpr ⟨List.mem_of_getElem? (i := 151) (by decide +kernel), by decide +kernel⟩
theorem kl_X9_51 : Cond.methodLinkNest RX9 51 yX3_init "IndependenceDesk" ∈ lw_tbl := List.mem_of_getElem? (i := 153) (by decide +kernel)
theorem kl_X3_3 : Cond.methodLink RX3 3 Lib.objectInit ∈ pm_tbl := List.mem_filter.mpr ⟨List.mem_of_getElem? (i := 156) (by decide +kernel), by decide +kernel⟩
theorem kl_X3_9 : Cond.fieldLink RX3 9 "IndependenceDesk$Reaches" "reached" "[I" ∈ pm_tbl := List.mem_filter.mpr ⟨List.mem_of_getElem? (i := 157) (by decide +kernel), by decide +kernel⟩
theorem kl_X3_15 : Cond.fieldLink RX3 15 "IndependenceDesk$Reaches" "spare" "I" ∈ pm_tbl := List.mem_filter.mpr ⟨List.mem_of_getElem? (i := 158) (by decide +kernel), by decide +kernel⟩
theorem kl_X9_56 : Cond.classLink RX9 56 "IndependenceDesk$Vectors" ∈ pm_tbl := List.mem_filter.mpr ⟨List.mem_of_getElem? (i := 164) (by decide +kernel), by decide +kernel⟩
theorem kl_X9_58 : Cond.methodLinkNest RX9 58 yX8_init "IndependenceDesk" ∈ lw_tbl := List.mem_of_getElem? (i := 166) (by decide +kernel)
theorem kl_X8_3 : Cond.methodLink RX8 3 Lib.objectInit ∈ pm_tbl := List.mem_filter.mpr ⟨List.mem_of_getElem? (i := 169) (by decide +kernel), by decide +kernel⟩
theorem kl_X8_9 : Cond.classLink RX8 9 "[[I" ∈ pm_tbl := List.mem_filter.mpr ⟨List.mem_of_getElem? (i := 170) (by decide +kernel), by decide +kernel⟩
theorem kl_X8_11 : Cond.fieldLink RX8 11 "IndependenceDesk$Vectors" "rows" "[[I" ∈ pm_tbl := List.mem_filter.mpr ⟨List.mem_of_getElem? (i := 172) (by decide +kernel), by decide +kernel⟩
theorem kl_X8_16 : Cond.fieldLink RX8 16 "IndependenceDesk$Vectors" "reduced" "[[I" ∈ pm_tbl := List.mem_filter.mpr ⟨List.mem_of_getElem? (i := 173) (by decide +kernel), by decide +kernel⟩
theorem kl_X8_19 : Cond.fieldLink RX8 19 "IndependenceDesk$Vectors" "leads" "[I" ∈ pm_tbl := List.mem_filter.mpr ⟨List.mem_of_getElem? (i := 174) (by decide +kernel), by decide +kernel⟩
theorem kl_X8_23 : Cond.fieldLink RX8 23 "IndependenceDesk$Vectors" "prime" "I" ∈ pm_tbl := List.mem_filter.mpr ⟨List.mem_of_getElem? (i := 175) (by decide +kernel), by decide +kernel⟩
theorem kl_X8_27 : Cond.fieldLink RX8 27 "IndependenceDesk$Vectors" "columns" "I" ∈ pm_tbl := List.mem_filter.mpr ⟨List.mem_of_getElem? (i := 176) (by decide +kernel), by decide +kernel⟩
theorem kl_X9_63 : Cond.methodLinkNest RX9 63 yX6_init "IndependenceDesk" ∈ lw_tbl := List.mem_of_getElem? (i := 189) (by decide +kernel)
theorem kl_X6_3 : Cond.methodLink RX6 3 Lib.objectInit ∈ pm_tbl := List.mem_filter.mpr ⟨List.mem_of_getElem? (i := 192) (by decide +kernel), by decide +kernel⟩
theorem kl_X6_9 : Cond.fieldLink RX6 9 "IndependenceDesk$Slot" "numbers" "[J" ∈ pm_tbl := List.mem_filter.mpr ⟨List.mem_of_getElem? (i := 193) (by decide +kernel), by decide +kernel⟩
theorem kl_X9_108 : Cond.fieldLinkNest RX9 108 "IndependenceDesk$Slot" "numbers" "[J" "IndependenceDesk" ∈ lw_tbl := List.mem_of_getElem? (i := 194) (by decide +kernel)
theorem kl_X6_15 : Cond.fieldLink RX6 15 "IndependenceDesk$Slot" "width" "I" ∈ pm_tbl := List.mem_filter.mpr ⟨List.mem_of_getElem? (i := 195) (by decide +kernel), by decide +kernel⟩
theorem kl_X9_100 : Cond.fieldLinkNest RX9 100 "IndependenceDesk$Slot" "width" "I" "IndependenceDesk" ∈ lw_tbl := List.mem_of_getElem? (i := 196) (by decide +kernel)
theorem kl_X6_25 : Cond.fieldLink RX6 25 "IndependenceDesk$Slot" "size" "I" ∈ pm_tbl := List.mem_filter.mpr ⟨List.mem_of_getElem? (i := 197) (by decide +kernel), by decide +kernel⟩
theorem kl_X9_64 : Cond.methodLink RX9 64 yX9_startAnew ∈ pm_tbl := List.mem_filter.mpr ⟨List.mem_of_getElem? (i := 205) (by decide +kernel), by decide +kernel⟩
theorem kl_X9_236 : Cond.methodLink RX9 236 yX7_forgetBreach ∈ pm_tbl := List.mem_filter.mpr ⟨List.mem_of_getElem? (i := 209) (by decide +kernel), by decide +kernel⟩
theorem kl_X7_19 : Cond.methodLink RX7 19 yX7_noteBreach ∈ pm_tbl := List.mem_filter.mpr ⟨List.mem_of_getElem? (i := 213) (by decide +kernel), by decide +kernel⟩
theorem kl_X9_11 : Cond.fieldLink RX9 11 "IndependenceDesk" "slots" "[LIndependenceDesk$Slot;" ∈ pm_tbl := List.mem_filter.mpr ⟨List.mem_of_getElem? (i := 217) (by decide +kernel), by decide +kernel⟩
theorem kl_X9_17 : Cond.fieldLink RX9 17 "IndependenceDesk" "rules" "[LIndependenceDesk$Rule;" ∈ pm_tbl := List.mem_filter.mpr ⟨List.mem_of_getElem? (i := 218) (by decide +kernel), by decide +kernel⟩
theorem kl_X9_21 : Cond.fieldLink RX9 21 "IndependenceDesk" "weights" "[I" ∈ pm_tbl := List.mem_filter.mpr ⟨List.mem_of_getElem? (i := 219) (by decide +kernel), by decide +kernel⟩
theorem kl_X9_25 : Cond.fieldLink RX9 25 "IndependenceDesk" "heaps" "[I" ∈ pm_tbl := List.mem_filter.mpr ⟨List.mem_of_getElem? (i := 220) (by decide +kernel), by decide +kernel⟩
theorem kl_X9_31 : Cond.fieldLink RX9 31 "IndependenceDesk" "reading" "LIndependenceDesk$Reading;" ∈ pm_tbl := List.mem_filter.mpr ⟨List.mem_of_getElem? (i := 221) (by decide +kernel), by decide +kernel⟩
theorem kl_X9_38 : Cond.fieldLink RX9 38 "IndependenceDesk" "told" "LIndependenceDesk$Told;" ∈ pm_tbl := List.mem_filter.mpr ⟨List.mem_of_getElem? (i := 222) (by decide +kernel), by decide +kernel⟩
theorem kl_X9_45 : Cond.fieldLink RX9 45 "IndependenceDesk" "bounds" "LIndependenceDesk$Bounds;" ∈ pm_tbl := List.mem_filter.mpr ⟨List.mem_of_getElem? (i := 223) (by decide +kernel), by decide +kernel⟩
theorem kl_X9_52 : Cond.fieldLink RX9 52 "IndependenceDesk" "reaches" "LIndependenceDesk$Reaches;" ∈ pm_tbl := List.mem_filter.mpr ⟨List.mem_of_getElem? (i := 224) (by decide +kernel), by decide +kernel⟩
theorem kl_X9_59 : Cond.fieldLink RX9 59 "IndependenceDesk" "vectors" "LIndependenceDesk$Vectors;" ∈ pm_tbl := List.mem_filter.mpr ⟨List.mem_of_getElem? (i := 225) (by decide +kernel), by decide +kernel⟩
theorem kl_X9_187 : Cond.fieldLink RX9 187 "IndependenceDesk" "things" "I" ∈ pm_tbl := List.mem_filter.mpr ⟨List.mem_of_getElem? (i := 226) (by decide +kernel), by decide +kernel⟩
theorem kl_X9_135 : Cond.fieldLink RX9 135 "IndependenceDesk" "all" "I" ∈ pm_tbl := List.mem_filter.mpr ⟨List.mem_of_getElem? (i := 227) (by decide +kernel), by decide +kernel⟩
theorem kl_X9_118 : Cond.fieldLink RX9 118 "IndependenceDesk" "made" "I" ∈ pm_tbl := List.mem_filter.mpr ⟨List.mem_of_getElem? (i := 228) (by decide +kernel), by decide +kernel⟩
theorem kl_L_13 : Cond.methodLink RL 13 yX9_fresh ∈ pm_tbl := List.mem_filter.mpr ⟨List.mem_of_getElem? (i := 254) (by decide +kernel), by decide +kernel⟩
theorem kl_L_18 : Cond.methodLink RL 18 yX9_weight ∈ pm_tbl := List.mem_filter.mpr ⟨List.mem_of_getElem? (i := 258) (by decide +kernel), by decide +kernel⟩
theorem kl_X9_68 : Cond.methodLink RX9 68 yX9_isThing ∈ pm_tbl := List.mem_filter.mpr ⟨List.mem_of_getElem? (i := 262) (by decide +kernel), by decide +kernel⟩
theorem kl_X9_72 : Cond.constant RX9 72 (1000000) ∈ pm_tbl := List.mem_filter.mpr ⟨List.mem_of_getElem? (i := 266) (by decide +kernel), by decide +kernel⟩
theorem kl_L_23 : Cond.methodLink RL 23 yX9_row ∈ pm_tbl := List.mem_filter.mpr ⟨List.mem_of_getElem? (i := 267) (by decide +kernel), by decide +kernel⟩
theorem kl_X9_73 : Cond.methodLink RX9 73 yX9_slotAt ∈ pm_tbl := List.mem_filter.mpr ⟨List.mem_of_getElem? (i := 271) (by decide +kernel), by decide +kernel⟩
theorem kl_X9_77 : Cond.methodLink RX9 77 yX6_lay ∈ pm_tbl := List.mem_filter.mpr ⟨List.mem_of_getElem? (i := 275) (by decide +kernel), by decide +kernel⟩
theorem kl_X6_19 : Cond.methodLink RX6 19 yJ9_min_7cf53 ∈ pm_tbl := List.mem_filter.mpr ⟨List.mem_of_getElem? (i := 279) (by decide +kernel), by decide +kernel⟩
theorem kl_L_28 : Cond.methodLink RL 28 yX9_tear ∈ pm_tbl := List.mem_filter.mpr ⟨List.mem_of_getElem? (i := 282) (by decide +kernel), by decide +kernel⟩
theorem kl_X9_81 : Cond.methodLink RX9 81 yX6_hasRow ∈ pm_tbl := List.mem_filter.mpr ⟨List.mem_of_getElem? (i := 286) (by decide +kernel), by decide +kernel⟩
theorem kl_X9_85 : Cond.methodLink RX9 85 yX6_clear ∈ pm_tbl := List.mem_filter.mpr ⟨List.mem_of_getElem? (i := 290) (by decide +kernel), by decide +kernel⟩
theorem kl_L_34 : Cond.methodLink RL 34 yX9_write ∈ pm_tbl := List.mem_filter.mpr ⟨List.mem_of_getElem? (i := 294) (by decide +kernel), by decide +kernel⟩
theorem kl_X9_88 : Cond.methodLink RX9 88 yX9_numberRefusal ∈ pm_tbl := List.mem_filter.mpr ⟨List.mem_of_getElem? (i := 298) (by decide +kernel), by decide +kernel⟩
theorem kl_X9_104 : Cond.methodLink RX9 104 yX6_hasStretch ∈ pm_tbl := List.mem_filter.mpr ⟨List.mem_of_getElem? (i := 302) (by decide +kernel), by decide +kernel⟩
theorem kl_X9_92 : Cond.methodLink RX9 92 yX6_put ∈ pm_tbl := List.mem_filter.mpr ⟨List.mem_of_getElem? (i := 306) (by decide +kernel), by decide +kernel⟩
theorem kl_X6_28 : Cond.methodLink RX6 28 yX6_cut ∈ pm_tbl := List.mem_filter.mpr ⟨List.mem_of_getElem? (i := 310) (by decide +kernel), by decide +kernel⟩
theorem kl_L_39 : Cond.methodLink RL 39 yX9_read ∈ pm_tbl := List.mem_filter.mpr ⟨List.mem_of_getElem? (i := 314) (by decide +kernel), by decide +kernel⟩
theorem kl_X9_96 : Cond.methodLink RX9 96 yX6_number ∈ pm_tbl := List.mem_filter.mpr ⟨List.mem_of_getElem? (i := 318) (by decide +kernel), by decide +kernel⟩
theorem kl_L_44 : Cond.methodLink RL 44 yX9_copy ∈ pm_tbl := List.mem_filter.mpr ⟨List.mem_of_getElem? (i := 322) (by decide +kernel), by decide +kernel⟩
theorem kl_X9_112 : Cond.methodLink RX9 112 arraycopyName ∈ pm_tbl := List.mem_filter.mpr ⟨List.mem_of_getElem? (i := 326) (by decide +kernel), by decide +kernel⟩
theorem kl_L_49 : Cond.methodLink RL 49 yX9_rule ∈ pm_tbl := List.mem_filter.mpr ⟨List.mem_of_getElem? (i := 329) (by decide +kernel), by decide +kernel⟩
theorem kl_X9_121 : Cond.methodLink RX9 121 yX4_start ∈ pm_tbl := List.mem_filter.mpr ⟨List.mem_of_getElem? (i := 333) (by decide +kernel), by decide +kernel⟩
theorem kl_X9_125 : Cond.methodLink RX9 125 yX9_checkFromNumbers ∈ pm_tbl := List.mem_filter.mpr ⟨List.mem_of_getElem? (i := 337) (by decide +kernel), by decide +kernel⟩
theorem kl_X9_239 : Cond.methodLink RX9 239 yX7_readSets ∈ pm_tbl := List.mem_filter.mpr ⟨List.mem_of_getElem? (i := 341) (by decide +kernel), by decide +kernel⟩
theorem kl_X7_23 : Cond.methodLink RX7 23 yX4_next ∈ pm_tbl := List.mem_filter.mpr ⟨List.mem_of_getElem? (i := 345) (by decide +kernel), by decide +kernel⟩
theorem kl_X4_22 : Cond.methodLink RX4 22 yX6_hasStretch ∈ pm_tbl := List.mem_filter.mpr ⟨List.mem_of_getElem? (i := 349) (by decide +kernel), by decide +kernel⟩
theorem kl_X4_28 : Cond.methodLink RX4 28 yX6_number ∈ pm_tbl := List.mem_filter.mpr ⟨List.mem_of_getElem? (i := 350) (by decide +kernel), by decide +kernel⟩
theorem kl_X9_243 : Cond.methodLink RX9 243 yX0_readEven ∈ pm_tbl := List.mem_filter.mpr ⟨List.mem_of_getElem? (i := 351) (by decide +kernel), by decide +kernel⟩
theorem kl_X0_22 : Cond.methodLink RX0 22 yX4_next ∈ pm_tbl := List.mem_filter.mpr ⟨List.mem_of_getElem? (i := 355) (by decide +kernel), by decide +kernel⟩
theorem kl_X9_246 : Cond.methodLink RX9 246 yX0_readParts ∈ pm_tbl := List.mem_filter.mpr ⟨List.mem_of_getElem? (i := 356) (by decide +kernel), by decide +kernel⟩
theorem kl_X0_28 : Cond.methodLink RX0 28 yJ9_max_7cf53 ∈ pm_tbl := List.mem_filter.mpr ⟨List.mem_of_getElem? (i := 360) (by decide +kernel), by decide +kernel⟩
theorem kl_X9_249 : Cond.methodLink RX9 249 yX0_readNested ∈ pm_tbl := List.mem_filter.mpr ⟨List.mem_of_getElem? (i := 363) (by decide +kernel), by decide +kernel⟩
theorem kl_X9_252 : Cond.methodLink RX9 252 yX3_readEdges ∈ pm_tbl := List.mem_filter.mpr ⟨List.mem_of_getElem? (i := 367) (by decide +kernel), by decide +kernel⟩
theorem kl_X3_19 : Cond.methodLink RX3 19 yX4_next ∈ pm_tbl := List.mem_filter.mpr ⟨List.mem_of_getElem? (i := 371) (by decide +kernel), by decide +kernel⟩
theorem kl_X9_255 : Cond.methodLink RX9 255 yX8_readRows ∈ pm_tbl := List.mem_filter.mpr ⟨List.mem_of_getElem? (i := 372) (by decide +kernel), by decide +kernel⟩
theorem kl_X8_30 : Cond.methodLink RX8 30 yX4_next ∈ pm_tbl := List.mem_filter.mpr ⟨List.mem_of_getElem? (i := 376) (by decide +kernel), by decide +kernel⟩
theorem kl_X8_36 : Cond.methodLink RX8 36 yX4_refuseLast ∈ pm_tbl := List.mem_filter.mpr ⟨List.mem_of_getElem? (i := 377) (by decide +kernel), by decide +kernel⟩
theorem kl_X9_258 : Cond.methodLink RX9 258 yX3_readPlaces ∈ pm_tbl := List.mem_filter.mpr ⟨List.mem_of_getElem? (i := 381) (by decide +kernel), by decide +kernel⟩
theorem kl_X9_132 : Cond.methodLink RX9 132 yX0_lieNested ∈ pm_tbl := List.mem_filter.mpr ⟨List.mem_of_getElem? (i := 385) (by decide +kernel), by decide +kernel⟩
theorem kl_X9_138 : Cond.methodLink RX9 138 yX7_breaksLaw ∈ pm_tbl := List.mem_filter.mpr ⟨List.mem_of_getElem? (i := 389) (by decide +kernel), by decide +kernel⟩
theorem kl_X7_29 : Cond.methodLink RX7 29 yX7_listSets ∈ pm_tbl := List.mem_filter.mpr ⟨List.mem_of_getElem? (i := 393) (by decide +kernel), by decide +kernel⟩
theorem kl_X7_33 : Cond.methodLink RX7 33 yX7_fits ∈ pm_tbl := List.mem_filter.mpr ⟨List.mem_of_getElem? (i := 397) (by decide +kernel), by decide +kernel⟩
theorem kl_X7_37 : Cond.methodLink RX7 37 yX7_lacksPart ∈ pm_tbl := List.mem_filter.mpr ⟨List.mem_of_getElem? (i := 401) (by decide +kernel), by decide +kernel⟩
theorem kl_X7_57 : Cond.methodLink RX7 57 yX7_leastPartNotTold ∈ pm_tbl := List.mem_filter.mpr ⟨List.mem_of_getElem? (i := 405) (by decide +kernel), by decide +kernel⟩
theorem kl_X7_41 : Cond.methodLink RX7 41 yX7_lacksExchange ∈ pm_tbl := List.mem_filter.mpr ⟨List.mem_of_getElem? (i := 409) (by decide +kernel), by decide +kernel⟩
theorem kl_X7_61 : Cond.methodLink RX7 61 yX7_leastWithNoneToCome ∈ pm_tbl := List.mem_filter.mpr ⟨List.mem_of_getElem? (i := 413) (by decide +kernel), by decide +kernel⟩
theorem kl_X7_64 : Cond.methodLink RX7 64 yX7_thingsThatMayCome ∈ pm_tbl := List.mem_filter.mpr ⟨List.mem_of_getElem? (i := 417) (by decide +kernel), by decide +kernel⟩
theorem kl_X7_67 : Cond.methodLink RX7 67 yJ6_bitCount_0f7a4 ∈ pm_tbl := List.mem_filter.mpr ⟨List.mem_of_getElem? (i := 421) (by decide +kernel), by decide +kernel⟩
theorem kl_J6_265 : Cond.constant RJ6 265 (1431655765) ∈ pm_tbl := List.mem_filter.mpr ⟨List.mem_of_getElem? (i := 424) (by decide +kernel), by decide +kernel⟩
theorem kl_J6_266 : Cond.constant RJ6 266 (858993459) ∈ pm_tbl := List.mem_filter.mpr ⟨List.mem_of_getElem? (i := 425) (by decide +kernel), by decide +kernel⟩
theorem kl_J6_267 : Cond.constant RJ6 267 (252645135) ∈ pm_tbl := List.mem_filter.mpr ⟨List.mem_of_getElem? (i := 426) (by decide +kernel), by decide +kernel⟩
theorem kl_X9_141 : Cond.methodLink RX9 141 yX9_addRule ∈ pm_tbl := List.mem_filter.mpr ⟨List.mem_of_getElem? (i := 427) (by decide +kernel), by decide +kernel⟩
theorem kl_X9_266 : Cond.methodLinkNest RX9 266 yX5_init "IndependenceDesk" ∈ lw_tbl := List.mem_of_getElem? (i := 432) (by decide +kernel)
theorem kl_X5_1 : Cond.methodLink RX5 1 Lib.objectInit ∈ pm_tbl := List.mem_filter.mpr ⟨List.mem_of_getElem? (i := 435) (by decide +kernel), by decide +kernel⟩
theorem kl_X9_162 : Cond.fieldLinkNest RX9 162 "IndependenceDesk$Rule" "kind" "I" "IndependenceDesk" ∈ lw_tbl := List.mem_of_getElem? (i := 436) (by decide +kernel)
theorem kl_X9_172 : Cond.fieldLinkNest RX9 172 "IndependenceDesk$Rule" "first" "I" "IndependenceDesk" ∈ lw_tbl := List.mem_of_getElem? (i := 437) (by decide +kernel)
theorem kl_X9_175 : Cond.fieldLinkNest RX9 175 "IndependenceDesk$Rule" "second" "I" "IndependenceDesk" ∈ lw_tbl := List.mem_of_getElem? (i := 438) (by decide +kernel)
theorem kl_X9_178 : Cond.fieldLinkNest RX9 178 "IndependenceDesk$Rule" "depth" "I" "IndependenceDesk" ∈ lw_tbl := List.mem_of_getElem? (i := 439) (by decide +kernel)
theorem kl_X5_7 : Cond.fieldLink RX5 7 "IndependenceDesk$Rule" "ranks" "[B" ∈ pm_tbl := List.mem_filter.mpr ⟨List.mem_of_getElem? (i := 440) (by decide +kernel), by decide +kernel⟩
theorem kl_X9_267 : Cond.methodLink RX9 267 yX5_fill ∈ pm_tbl := List.mem_filter.mpr ⟨List.mem_of_getElem? (i := 453) (by decide +kernel), by decide +kernel⟩
theorem kl_X5_13 : Cond.methodLink RX5 13 yX5_rankByParts ∈ pm_tbl := List.mem_filter.mpr ⟨List.mem_of_getElem? (i := 457) (by decide +kernel), by decide +kernel⟩
theorem kl_X5_17 : Cond.methodLink RX5 17 yJ6_bitCount_0f7a4 ∈ pm_tbl := List.mem_filter.mpr ⟨List.mem_of_getElem? (i := 461) (by decide +kernel), by decide +kernel⟩
theorem kl_X5_23 : Cond.methodLink RX5 23 yX5_rankOf ∈ pm_tbl := List.mem_filter.mpr ⟨List.mem_of_getElem? (i := 462) (by decide +kernel), by decide +kernel⟩
theorem kl_X5_26 : Cond.methodLink RX5 26 yJ9_max_7cf53 ∈ pm_tbl := List.mem_filter.mpr ⟨List.mem_of_getElem? (i := 466) (by decide +kernel), by decide +kernel⟩
theorem kl_X5_32 : Cond.methodLink RX5 32 yJ9_min_7cf53 ∈ pm_tbl := List.mem_filter.mpr ⟨List.mem_of_getElem? (i := 467) (by decide +kernel), by decide +kernel⟩
theorem kl_X5_35 : Cond.methodLink RX5 35 yX1_fits ∈ pm_tbl := List.mem_filter.mpr ⟨List.mem_of_getElem? (i := 469) (by decide +kernel), by decide +kernel⟩
theorem kl_X0_33 : Cond.methodLink RX0 33 yJ6_bitCount_0f7a4 ∈ pm_tbl := List.mem_filter.mpr ⟨List.mem_of_getElem? (i := 478) (by decide +kernel), by decide +kernel⟩
theorem kl_X2_28 : Cond.methodLink RX2 28 yJ6_bitCount_0f7a4 ∈ pm_tbl := List.mem_filter.mpr ⟨List.mem_of_getElem? (i := 485) (by decide +kernel), by decide +kernel⟩
theorem kl_X2_34 : Cond.methodLink RX2 34 yX5_rankOf ∈ pm_tbl := List.mem_filter.mpr ⟨List.mem_of_getElem? (i := 486) (by decide +kernel), by decide +kernel⟩
theorem kl_X3_25 : Cond.methodLink RX3 25 yJ6_bitCount_0f7a4 ∈ pm_tbl := List.mem_filter.mpr ⟨List.mem_of_getElem? (i := 493) (by decide +kernel), by decide +kernel⟩
theorem kl_X8_39 : Cond.methodLink RX8 39 yJ6_bitCount_0f7a4 ∈ pm_tbl := List.mem_filter.mpr ⟨List.mem_of_getElem? (i := 504) (by decide +kernel), by decide +kernel⟩
theorem kl_X8_45 : Cond.methodLink RX8 45 yX8_clearLead ∈ pm_tbl := List.mem_filter.mpr ⟨List.mem_of_getElem? (i := 505) (by decide +kernel), by decide +kernel⟩
theorem kl_X8_53 : Cond.methodLink RX8 53 yX8_modulo ∈ pm_tbl := List.mem_filter.mpr ⟨List.mem_of_getElem? (i := 509) (by decide +kernel), by decide +kernel⟩
theorem kl_X8_49 : Cond.methodLink RX8 49 yX8_firstNotZero ∈ pm_tbl := List.mem_filter.mpr ⟨List.mem_of_getElem? (i := 513) (by decide +kernel), by decide +kernel⟩
theorem kl_L_53 : Cond.methodLink RL 53 yX9_less ∈ pm_tbl := List.mem_filter.mpr ⟨List.mem_of_getElem? (i := 517) (by decide +kernel), by decide +kernel⟩
theorem kl_X9_145 : Cond.methodLink RX9 145 yX9_addDerived ∈ pm_tbl := List.mem_filter.mpr ⟨List.mem_of_getElem? (i := 521) (by decide +kernel), by decide +kernel⟩
theorem kl_X9_158 : Cond.methodLink RX9 158 yX9_ruleAt ∈ pm_tbl := List.mem_filter.mpr ⟨List.mem_of_getElem? (i := 525) (by decide +kernel), by decide +kernel⟩
theorem kl_X9_181 : Cond.methodLink RX9 181 yX9_isSet ∈ pm_tbl := List.mem_filter.mpr ⟨List.mem_of_getElem? (i := 529) (by decide +kernel), by decide +kernel⟩
theorem kl_X9_210 : Cond.methodLink RX9 210 yJ9_max_7cf53 ∈ pm_tbl := List.mem_filter.mpr ⟨List.mem_of_getElem? (i := 533) (by decide +kernel), by decide +kernel⟩
theorem kl_X9_261 : Cond.classLink RX9 261 "IndependenceDesk$Derived" ∈ pm_tbl := List.mem_filter.mpr ⟨List.mem_of_getElem? (i := 534) (by decide +kernel), by decide +kernel⟩
theorem kl_X9_263 : Cond.methodLink RX9 263 yX2_init ∈ pm_tbl := List.mem_filter.mpr ⟨List.mem_of_getElem? (i := 536) (by decide +kernel), by decide +kernel⟩
theorem kl_X2_3 : Cond.methodLink RX2 3 Lib.objectInit ∈ pm_tbl := List.mem_filter.mpr ⟨List.mem_of_getElem? (i := 539) (by decide +kernel), by decide +kernel⟩
theorem kl_X2_9 : Cond.fieldLink RX2 9 "IndependenceDesk$Derived" "kind" "I" ∈ pm_tbl := List.mem_filter.mpr ⟨List.mem_of_getElem? (i := 540) (by decide +kernel), by decide +kernel⟩
theorem kl_X2_15 : Cond.fieldLink RX2 15 "IndependenceDesk$Derived" "first" "LIndependenceDesk$Rule;" ∈ pm_tbl := List.mem_filter.mpr ⟨List.mem_of_getElem? (i := 541) (by decide +kernel), by decide +kernel⟩
theorem kl_X2_19 : Cond.fieldLink RX2 19 "IndependenceDesk$Derived" "second" "LIndependenceDesk$Rule;" ∈ pm_tbl := List.mem_filter.mpr ⟨List.mem_of_getElem? (i := 542) (by decide +kernel), by decide +kernel⟩
theorem kl_X2_22 : Cond.fieldLink RX2 22 "IndependenceDesk$Derived" "t" "I" ∈ pm_tbl := List.mem_filter.mpr ⟨List.mem_of_getElem? (i := 543) (by decide +kernel), by decide +kernel⟩
theorem kl_X2_25 : Cond.fieldLink RX2 25 "IndependenceDesk$Derived" "all" "I" ∈ pm_tbl := List.mem_filter.mpr ⟨List.mem_of_getElem? (i := 544) (by decide +kernel), by decide +kernel⟩
theorem kl_L_57 : Cond.methodLink RL 57 yX9_take ∈ pm_tbl := List.mem_filter.mpr ⟨List.mem_of_getElem? (i := 556) (by decide +kernel), by decide +kernel⟩
theorem kl_L_61 : Cond.methodLink RL 61 yX9_turn ∈ pm_tbl := List.mem_filter.mpr ⟨List.mem_of_getElem? (i := 560) (by decide +kernel), by decide +kernel⟩
theorem kl_L_66 : Cond.methodLink RL 66 yX9_join ∈ pm_tbl := List.mem_filter.mpr ⟨List.mem_of_getElem? (i := 564) (by decide +kernel), by decide +kernel⟩
theorem kl_L_70 : Cond.methodLink RL 70 yX9_broken ∈ pm_tbl := List.mem_filter.mpr ⟨List.mem_of_getElem? (i := 568) (by decide +kernel), by decide +kernel⟩
theorem kl_L_74 : Cond.methodLink RL 74 yX9_look ∈ pm_tbl := List.mem_filter.mpr ⟨List.mem_of_getElem? (i := 572) (by decide +kernel), by decide +kernel⟩
theorem kl_X9_165 : Cond.methodLink RX9 165 yX5_rankOf ∈ pm_tbl := List.mem_filter.mpr ⟨List.mem_of_getElem? (i := 576) (by decide +kernel), by decide +kernel⟩
theorem kl_X9_169 : Cond.methodLink RX9 169 yX5_allowedSets ∈ pm_tbl := List.mem_filter.mpr ⟨List.mem_of_getElem? (i := 577) (by decide +kernel), by decide +kernel⟩
theorem kl_X5_41 : Cond.methodLink RX5 41 yX5_permits ∈ pm_tbl := List.mem_filter.mpr ⟨List.mem_of_getElem? (i := 581) (by decide +kernel), by decide +kernel⟩
theorem kl_L_78 : Cond.methodLink RL 78 yX9_allows ∈ pm_tbl := List.mem_filter.mpr ⟨List.mem_of_getElem? (i := 585) (by decide +kernel), by decide +kernel⟩
theorem kl_X9_184 : Cond.methodLink RX9 184 yX5_permits ∈ pm_tbl := List.mem_filter.mpr ⟨List.mem_of_getElem? (i := 589) (by decide +kernel), by decide +kernel⟩
theorem kl_L_82 : Cond.methodLink RL 82 yX9_rank ∈ pm_tbl := List.mem_filter.mpr ⟨List.mem_of_getElem? (i := 590) (by decide +kernel), by decide +kernel⟩
theorem kl_L_86 : Cond.methodLink RL 86 yX9_span ∈ pm_tbl := List.mem_filter.mpr ⟨List.mem_of_getElem? (i := 594) (by decide +kernel), by decide +kernel⟩
theorem kl_L_90 : Cond.methodLink RL 90 yX9_ring ∈ pm_tbl := List.mem_filter.mpr ⟨List.mem_of_getElem? (i := 598) (by decide +kernel), by decide +kernel⟩
theorem kl_L_94 : Cond.methodLink RL 94 yX9_exchange ∈ pm_tbl := List.mem_filter.mpr ⟨List.mem_of_getElem? (i := 602) (by decide +kernel), by decide +kernel⟩
theorem kl_X9_190 : Cond.methodLink RX9 190 yX9_thingsThatMayGo ∈ pm_tbl := List.mem_filter.mpr ⟨List.mem_of_getElem? (i := 606) (by decide +kernel), by decide +kernel⟩
theorem kl_L_98 : Cond.methodLink RL 98 yX9_full ∈ pm_tbl := List.mem_filter.mpr ⟨List.mem_of_getElem? (i := 610) (by decide +kernel), by decide +kernel⟩
theorem kl_X9_194 : Cond.methodLink RX9 194 yX9_nextByWeight ∈ pm_tbl := List.mem_filter.mpr ⟨List.mem_of_getElem? (i := 614) (by decide +kernel), by decide +kernel⟩
theorem kl_X9_271 : Cond.methodLink RX9 271 yX9_goesAhead ∈ pm_tbl := List.mem_filter.mpr ⟨List.mem_of_getElem? (i := 618) (by decide +kernel), by decide +kernel⟩
theorem kl_L_103 : Cond.methodLink RL 103 yX9_both ∈ pm_tbl := List.mem_filter.mpr ⟨List.mem_of_getElem? (i := 622) (by decide +kernel), by decide +kernel⟩
theorem kl_X9_198 : Cond.methodLink RX9 198 yX9_mostCommon ∈ pm_tbl := List.mem_filter.mpr ⟨List.mem_of_getElem? (i := 626) (by decide +kernel), by decide +kernel⟩
theorem kl_X9_202 : Cond.methodLink RX9 202 yJ6_bitCount_0f7a4 ∈ pm_tbl := List.mem_filter.mpr ⟨List.mem_of_getElem? (i := 630) (by decide +kernel), by decide +kernel⟩
theorem kl_L_107 : Cond.methodLink RL 107 yX9_split ∈ pm_tbl := List.mem_filter.mpr ⟨List.mem_of_getElem? (i := 631) (by decide +kernel), by decide +kernel⟩
theorem kl_L_111 : Cond.methodLink RL 111 yX9_most ∈ pm_tbl := List.mem_filter.mpr ⟨List.mem_of_getElem? (i := 635) (by decide +kernel), by decide +kernel⟩
theorem kl_X9_207 : Cond.methodLink RX9 207 yX9_weightOf ∈ pm_tbl := List.mem_filter.mpr ⟨List.mem_of_getElem? (i := 639) (by decide +kernel), by decide +kernel⟩
theorem kl_L_115 : Cond.methodLink RL 115 yX9_three ∈ pm_tbl := List.mem_filter.mpr ⟨List.mem_of_getElem? (i := 643) (by decide +kernel), by decide +kernel⟩
theorem kl_L_119 : Cond.methodLink RL 119 yX9_fewest ∈ pm_tbl := List.mem_filter.mpr ⟨List.mem_of_getElem? (i := 647) (by decide +kernel), by decide +kernel⟩
theorem kl_X9_215 : Cond.methodLink RX9 215 yX5_permitsEachAlone ∈ pm_tbl := List.mem_filter.mpr ⟨List.mem_of_getElem? (i := 651) (by decide +kernel), by decide +kernel⟩
theorem kl_X9_218 : Cond.methodLink RX9 218 yX9_mostCrowded ∈ pm_tbl := List.mem_filter.mpr ⟨List.mem_of_getElem? (i := 655) (by decide +kernel), by decide +kernel⟩
theorem kl_X9_222 : Cond.methodLink RX9 222 yX9_heapsNeeded ∈ pm_tbl := List.mem_filter.mpr ⟨List.mem_of_getElem? (i := 659) (by decide +kernel), by decide +kernel⟩
theorem kl_L_123 : Cond.methodLink RL 123 yX9_dealt ∈ pm_tbl := List.mem_filter.mpr ⟨List.mem_of_getElem? (i := 663) (by decide +kernel), by decide +kernel⟩
theorem kl_X9_226 : Cond.methodLink RX9 226 yX9_numberInDeal ∈ pm_tbl := List.mem_filter.mpr ⟨List.mem_of_getElem? (i := 667) (by decide +kernel), by decide +kernel⟩
theorem kl_X9_275 : Cond.methodLink RX9 275 yX9_heapThatMayTake ∈ pm_tbl := List.mem_filter.mpr ⟨List.mem_of_getElem? (i := 671) (by decide +kernel), by decide +kernel⟩
theorem kl_X9_279 : Cond.methodLink RX9 279 yX9_restCanBeDealt ∈ pm_tbl := List.mem_filter.mpr ⟨List.mem_of_getElem? (i := 675) (by decide +kernel), by decide +kernel⟩
theorem kl_X9_283 : Cond.methodLink RX9 283 yX9_roomFor ∈ pm_tbl := List.mem_filter.mpr ⟨List.mem_of_getElem? (i := 679) (by decide +kernel), by decide +kernel⟩
theorem kl_L_127 : Cond.methodLink RL 127 yX9_crowd ∈ pm_tbl := List.mem_filter.mpr ⟨List.mem_of_getElem? (i := 683) (by decide +kernel), by decide +kernel⟩
theorem kl_L_131 : Cond.methodLink RL 131 yX9_pack ∈ pm_tbl := List.mem_filter.mpr ⟨List.mem_of_getElem? (i := 687) (by decide +kernel), by decide +kernel⟩
theorem kl_X9_229 : Cond.methodLink RX9 229 yJ9_min_7cf53 ∈ pm_tbl := List.mem_filter.mpr ⟨List.mem_of_getElem? (i := 691) (by decide +kernel), by decide +kernel⟩
theorem kl_L_135 : Cond.methodLink RL 135 yX9_same ∈ pm_tbl := List.mem_filter.mpr ⟨List.mem_of_getElem? (i := 692) (by decide +kernel), by decide +kernel⟩
theorem kl_L_139 : Cond.methodLink RL 139 yX9_count ∈ pm_tbl := List.mem_filter.mpr ⟨List.mem_of_getElem? (i := 696) (by decide +kernel), by decide +kernel⟩
theorem kl_X9_232 : Cond.methodLink RX9 232 yX9_slotsWithRow ∈ pm_tbl := List.mem_filter.mpr ⟨List.mem_of_getElem? (i := 700) (by decide +kernel), by decide +kernel⟩
theorem kl_L_10 : Cond.classLink RL 10 "IndependenceDeskModel" ∈ pm_tbl := List.mem_filter.mpr ⟨List.mem_of_getElem? (i := 704) (by decide +kernel), by decide +kernel⟩
theorem kl_L_12 : Cond.methodLink RL 12 yX10_init ∈ pm_tbl := List.mem_filter.mpr ⟨List.mem_of_getElem? (i := 706) (by decide +kernel), by decide +kernel⟩
theorem kl_X10_1 : Cond.methodLink RX10 1 Lib.objectInit ∈ pm_tbl := List.mem_filter.mpr ⟨List.mem_of_getElem? (i := 709) (by decide +kernel), by decide +kernel⟩
theorem kl_X10_20 : Cond.constant RX10 20 (98304) ∈ pm_tbl := List.mem_filter.mpr ⟨List.mem_of_getElem? (i := 710) (by decide +kernel), by decide +kernel⟩
theorem kl_X10_81 : Cond.methodLink RX10 81 yX10_anew ∈ pm_tbl := List.mem_filter.mpr ⟨List.mem_of_getElem? (i := 711) (by decide +kernel), by decide +kernel⟩
theorem kl_X10_7 : Cond.fieldLink RX10 7 "IndependenceDeskModel" "n" "I" ∈ pm_tbl := List.mem_filter.mpr ⟨List.mem_of_getElem? (i := 715) (by decide +kernel), by decide +kernel⟩
theorem kl_X10_13 : Cond.fieldLink RX10 13 "IndependenceDeskModel" "all" "I" ∈ pm_tbl := List.mem_filter.mpr ⟨List.mem_of_getElem? (i := 716) (by decide +kernel), by decide +kernel⟩
theorem kl_X10_16 : Cond.fieldLink RX10 16 "IndependenceDeskModel" "weights" "[I" ∈ pm_tbl := List.mem_filter.mpr ⟨List.mem_of_getElem? (i := 717) (by decide +kernel), by decide +kernel⟩
theorem kl_X10_85 : Cond.fieldLink RX10 85 "IndependenceDeskModel" "rules" "I" ∈ pm_tbl := List.mem_filter.mpr ⟨List.mem_of_getElem? (i := 718) (by decide +kernel), by decide +kernel⟩
theorem kl_X10_21 : Cond.fieldLink RX10 21 "IndependenceDeskModel" "allowed" "[Z" ∈ pm_tbl := List.mem_filter.mpr ⟨List.mem_of_getElem? (i := 719) (by decide +kernel), by decide +kernel⟩
theorem kl_X10_25 : Cond.fieldLink RX10 25 "IndependenceDeskModel" "ranks" "[B" ∈ pm_tbl := List.mem_filter.mpr ⟨List.mem_of_getElem? (i := 720) (by decide +kernel), by decide +kernel⟩
theorem kl_X10_29 : Cond.fieldLink RX10 29 "IndependenceDeskModel" "kinds" "[I" ∈ pm_tbl := List.mem_filter.mpr ⟨List.mem_of_getElem? (i := 721) (by decide +kernel), by decide +kernel⟩
theorem kl_X10_32 : Cond.fieldLink RX10 32 "IndependenceDeskModel" "firstOf" "[I" ∈ pm_tbl := List.mem_filter.mpr ⟨List.mem_of_getElem? (i := 722) (by decide +kernel), by decide +kernel⟩
theorem kl_X10_35 : Cond.fieldLink RX10 35 "IndependenceDeskModel" "secondOf" "[I" ∈ pm_tbl := List.mem_filter.mpr ⟨List.mem_of_getElem? (i := 723) (by decide +kernel), by decide +kernel⟩
theorem kl_X10_38 : Cond.fieldLink RX10 38 "IndependenceDeskModel" "deep" "[I" ∈ pm_tbl := List.mem_filter.mpr ⟨List.mem_of_getElem? (i := 724) (by decide +kernel), by decide +kernel⟩
theorem kl_X10_41 : Cond.fieldLink RX10 41 "IndependenceDeskModel" "broken" "[I" ∈ pm_tbl := List.mem_filter.mpr ⟨List.mem_of_getElem? (i := 725) (by decide +kernel), by decide +kernel⟩
theorem kl_X10_44 : Cond.fieldLink RX10 44 "IndependenceDeskModel" "ends" "[I" ∈ pm_tbl := List.mem_filter.mpr ⟨List.mem_of_getElem? (i := 726) (by decide +kernel), by decide +kernel⟩
theorem kl_X10_47 : Cond.fieldLink RX10 47 "IndependenceDeskModel" "widths" "[I" ∈ pm_tbl := List.mem_filter.mpr ⟨List.mem_of_getElem? (i := 727) (by decide +kernel), by decide +kernel⟩
theorem kl_X10_50 : Cond.fieldLink RX10 50 "IndependenceDeskModel" "numbers" "[J" ∈ pm_tbl := List.mem_filter.mpr ⟨List.mem_of_getElem? (i := 728) (by decide +kernel), by decide +kernel⟩
theorem kl_X10_54 : Cond.fieldLink RX10 54 "IndependenceDeskModel" "taken" "[J" ∈ pm_tbl := List.mem_filter.mpr ⟨List.mem_of_getElem? (i := 729) (by decide +kernel), by decide +kernel⟩
theorem kl_X10_122 : Cond.fieldLink RX10 122 "IndependenceDeskModel" "slot" "I" ∈ pm_tbl := List.mem_filter.mpr ⟨List.mem_of_getElem? (i := 730) (by decide +kernel), by decide +kernel⟩
theorem kl_X10_119 : Cond.fieldLink RX10 119 "IndependenceDeskModel" "read" "I" ∈ pm_tbl := List.mem_filter.mpr ⟨List.mem_of_getElem? (i := 731) (by decide +kernel), by decide +kernel⟩
theorem kl_X10_116 : Cond.fieldLink RX10 116 "IndependenceDeskModel" "status" "I" ∈ pm_tbl := List.mem_filter.mpr ⟨List.mem_of_getElem? (i := 732) (by decide +kernel), by decide +kernel⟩
theorem kl_X10_57 : Cond.fieldLink RX10 57 "IndependenceDeskModel" "told" "[I" ∈ pm_tbl := List.mem_filter.mpr ⟨List.mem_of_getElem? (i := 733) (by decide +kernel), by decide +kernel⟩
theorem kl_X10_60 : Cond.fieldLink RX10 60 "IndependenceDeskModel" "bounds" "[I" ∈ pm_tbl := List.mem_filter.mpr ⟨List.mem_of_getElem? (i := 734) (by decide +kernel), by decide +kernel⟩
theorem kl_X10_63 : Cond.fieldLink RX10 63 "IndependenceDeskModel" "group" "[I" ∈ pm_tbl := List.mem_filter.mpr ⟨List.mem_of_getElem? (i := 735) (by decide +kernel), by decide +kernel⟩
theorem kl_X10_66 : Cond.fieldLink RX10 66 "IndependenceDeskModel" "cells" "[I" ∈ pm_tbl := List.mem_filter.mpr ⟨List.mem_of_getElem? (i := 736) (by decide +kernel), by decide +kernel⟩
theorem kl_X10_69 : Cond.fieldLink RX10 69 "IndependenceDeskModel" "work" "[I" ∈ pm_tbl := List.mem_filter.mpr ⟨List.mem_of_getElem? (i := 737) (by decide +kernel), by decide +kernel⟩
theorem kl_X10_72 : Cond.fieldLink RX10 72 "IndependenceDeskModel" "few" "[B" ∈ pm_tbl := List.mem_filter.mpr ⟨List.mem_of_getElem? (i := 738) (by decide +kernel), by decide +kernel⟩
theorem kl_X10_75 : Cond.fieldLink RX10 75 "IndependenceDeskModel" "deal" "[I" ∈ pm_tbl := List.mem_filter.mpr ⟨List.mem_of_getElem? (i := 739) (by decide +kernel), by decide +kernel⟩
theorem kl_X10_78 : Cond.fieldLink RX10 78 "IndependenceDeskModel" "heap" "[I" ∈ pm_tbl := List.mem_filter.mpr ⟨List.mem_of_getElem? (i := 740) (by decide +kernel), by decide +kernel⟩
theorem kl_L_17 : Cond.methodLink RL 17 yX10_fresh ∈ pm_tbl := List.mem_filter.mpr ⟨List.mem_of_getElem? (i := 795) (by decide +kernel), by decide +kernel⟩
theorem kl_L_22 : Cond.methodLink RL 22 yX10_weight ∈ pm_tbl := List.mem_filter.mpr ⟨List.mem_of_getElem? (i := 799) (by decide +kernel), by decide +kernel⟩
theorem kl_X10_88 : Cond.methodLink RX10 88 yX10_isThing ∈ pm_tbl := List.mem_filter.mpr ⟨List.mem_of_getElem? (i := 803) (by decide +kernel), by decide +kernel⟩
theorem kl_X10_92 : Cond.constant RX10 92 (1000000) ∈ pm_tbl := List.mem_filter.mpr ⟨List.mem_of_getElem? (i := 807) (by decide +kernel), by decide +kernel⟩
theorem kl_L_27 : Cond.methodLink RL 27 yX10_row ∈ pm_tbl := List.mem_filter.mpr ⟨List.mem_of_getElem? (i := 808) (by decide +kernel), by decide +kernel⟩
theorem kl_X10_93 : Cond.methodLink RX10 93 yX10_isSlot ∈ pm_tbl := List.mem_filter.mpr ⟨List.mem_of_getElem? (i := 812) (by decide +kernel), by decide +kernel⟩
theorem kl_L_31 : Cond.methodLink RL 31 yX10_tear ∈ pm_tbl := List.mem_filter.mpr ⟨List.mem_of_getElem? (i := 815) (by decide +kernel), by decide +kernel⟩
theorem kl_L_38 : Cond.methodLink RL 38 yX10_write ∈ pm_tbl := List.mem_filter.mpr ⟨List.mem_of_getElem? (i := 819) (by decide +kernel), by decide +kernel⟩
theorem kl_X10_96 : Cond.methodLink RX10 96 yX10_wrong ∈ pm_tbl := List.mem_filter.mpr ⟨List.mem_of_getElem? (i := 823) (by decide +kernel), by decide +kernel⟩
theorem kl_L_43 : Cond.methodLink RL 43 yX10_read ∈ pm_tbl := List.mem_filter.mpr ⟨List.mem_of_getElem? (i := 827) (by decide +kernel), by decide +kernel⟩
theorem kl_L_48 : Cond.methodLink RL 48 yX10_copy ∈ pm_tbl := List.mem_filter.mpr ⟨List.mem_of_getElem? (i := 831) (by decide +kernel), by decide +kernel⟩
theorem kl_L_52 : Cond.methodLink RL 52 yX10_rule ∈ pm_tbl := List.mem_filter.mpr ⟨List.mem_of_getElem? (i := 835) (by decide +kernel), by decide +kernel⟩
theorem kl_X10_125 : Cond.methodLink RX10 125 yX10_readsTold ∈ pm_tbl := List.mem_filter.mpr ⟨List.mem_of_getElem? (i := 839) (by decide +kernel), by decide +kernel⟩
theorem kl_X10_150 : Cond.constantLong RX10 150 (150) ∈ pm_tbl := List.mem_filter.mpr ⟨List.mem_of_getElem? (i := 843) (by decide +kernel), by decide +kernel⟩
theorem kl_X10_152 : Cond.methodLink RX10 152 yX10_next ∈ pm_tbl := List.mem_filter.mpr ⟨List.mem_of_getElem? (i := 844) (by decide +kernel), by decide +kernel⟩
theorem kl_X10_156 : Cond.methodLink RX10 156 yX10_allow ∈ pm_tbl := List.mem_filter.mpr ⟨List.mem_of_getElem? (i := 848) (by decide +kernel), by decide +kernel⟩
theorem kl_X10_159 : Cond.methodLink RX10 159 yX10_breaks_ ∈ pm_tbl := List.mem_filter.mpr ⟨List.mem_of_getElem? (i := 852) (by decide +kernel), by decide +kernel⟩
theorem kl_X10_100 : Cond.methodLink RX10 100 yX10_isAllowed ∈ pm_tbl := List.mem_filter.mpr ⟨List.mem_of_getElem? (i := 856) (by decide +kernel), by decide +kernel⟩
theorem kl_X10_163 : Cond.methodLink RX10 163 yX10_breaks ∈ pm_tbl := List.mem_filter.mpr ⟨List.mem_of_getElem? (i := 860) (by decide +kernel), by decide +kernel⟩
theorem kl_X10_104 : Cond.methodLink RX10 104 yX10_bitsOf ∈ pm_tbl := List.mem_filter.mpr ⟨List.mem_of_getElem? (i := 864) (by decide +kernel), by decide +kernel⟩
theorem kl_X10_128 : Cond.methodLink RX10 128 yX10_readsEven ∈ pm_tbl := List.mem_filter.mpr ⟨List.mem_of_getElem? (i := 867) (by decide +kernel), by decide +kernel⟩
theorem kl_X10_166 : Cond.constantLong RX10 166 (12) ∈ pm_tbl := List.mem_filter.mpr ⟨List.mem_of_getElem? (i := 871) (by decide +kernel), by decide +kernel⟩
theorem kl_X10_131 : Cond.methodLink RX10 131 yX10_readsParts ∈ pm_tbl := List.mem_filter.mpr ⟨List.mem_of_getElem? (i := 872) (by decide +kernel), by decide +kernel⟩
theorem kl_X10_168 : Cond.constantLong RX10 168 (11) ∈ pm_tbl := List.mem_filter.mpr ⟨List.mem_of_getElem? (i := 876) (by decide +kernel), by decide +kernel⟩
theorem kl_X10_111 : Cond.methodLink RX10 111 yJ9_max_7cf53 ∈ pm_tbl := List.mem_filter.mpr ⟨List.mem_of_getElem? (i := 877) (by decide +kernel), by decide +kernel⟩
theorem kl_X10_134 : Cond.methodLink RX10 134 yX10_readsNested ∈ pm_tbl := List.mem_filter.mpr ⟨List.mem_of_getElem? (i := 878) (by decide +kernel), by decide +kernel⟩
theorem kl_X10_170 : Cond.constantLong RX10 170 (40) ∈ pm_tbl := List.mem_filter.mpr ⟨List.mem_of_getElem? (i := 882) (by decide +kernel), by decide +kernel⟩
theorem kl_X10_137 : Cond.methodLink RX10 137 yX10_readsEdges ∈ pm_tbl := List.mem_filter.mpr ⟨List.mem_of_getElem? (i := 883) (by decide +kernel), by decide +kernel⟩
theorem kl_X10_172 : Cond.constantLong RX10 172 (15) ∈ pm_tbl := List.mem_filter.mpr ⟨List.mem_of_getElem? (i := 887) (by decide +kernel), by decide +kernel⟩
theorem kl_X10_140 : Cond.methodLink RX10 140 yX10_readsRows ∈ pm_tbl := List.mem_filter.mpr ⟨List.mem_of_getElem? (i := 888) (by decide +kernel), by decide +kernel⟩
theorem kl_X10_174 : Cond.constantLong RX10 174 (2) ∈ pm_tbl := List.mem_filter.mpr ⟨List.mem_of_getElem? (i := 892) (by decide +kernel), by decide +kernel⟩
theorem kl_X10_176 : Cond.constantLong RX10 176 (7) ∈ pm_tbl := List.mem_filter.mpr ⟨List.mem_of_getElem? (i := 893) (by decide +kernel), by decide +kernel⟩
theorem kl_X10_178 : Cond.constantLong RX10 178 (6) ∈ pm_tbl := List.mem_filter.mpr ⟨List.mem_of_getElem? (i := 894) (by decide +kernel), by decide +kernel⟩
theorem kl_X10_180 : Cond.methodLink RX10 180 yX10_isFree ∈ pm_tbl := List.mem_filter.mpr ⟨List.mem_of_getElem? (i := 895) (by decide +kernel), by decide +kernel⟩
theorem kl_X10_183 : Cond.methodLink RX10 183 yX10_lead ∈ pm_tbl := List.mem_filter.mpr ⟨List.mem_of_getElem? (i := 899) (by decide +kernel), by decide +kernel⟩
theorem kl_X10_186 : Cond.methodLink RX10 186 yJ9_floorMod_7cf53 ∈ pm_tbl := List.mem_filter.mpr ⟨List.mem_of_getElem? (i := 903) (by decide +kernel), by decide +kernel⟩
theorem kl_X10_143 : Cond.methodLink RX10 143 yX10_readsPlaces ∈ pm_tbl := List.mem_filter.mpr ⟨List.mem_of_getElem? (i := 906) (by decide +kernel), by decide +kernel⟩
theorem kl_X10_189 : Cond.constantLong RX10 189 (4095) ∈ pm_tbl := List.mem_filter.mpr ⟨List.mem_of_getElem? (i := 910) (by decide +kernel), by decide +kernel⟩
theorem kl_X10_146 : Cond.methodLink RX10 146 yX10_made ∈ pm_tbl := List.mem_filter.mpr ⟨List.mem_of_getElem? (i := 911) (by decide +kernel), by decide +kernel⟩
theorem kl_X10_108 : Cond.methodLink RX10 108 yX10_rankOf ∈ pm_tbl := List.mem_filter.mpr ⟨List.mem_of_getElem? (i := 915) (by decide +kernel), by decide +kernel⟩
theorem kl_L_56 : Cond.methodLink RL 56 yX10_less ∈ pm_tbl := List.mem_filter.mpr ⟨List.mem_of_getElem? (i := 919) (by decide +kernel), by decide +kernel⟩
theorem kl_X10_197 : Cond.methodLink RX10 197 yX10_refused ∈ pm_tbl := List.mem_filter.mpr ⟨List.mem_of_getElem? (i := 923) (by decide +kernel), by decide +kernel⟩
theorem kl_X10_191 : Cond.methodLink RX10 191 yX10_isRule ∈ pm_tbl := List.mem_filter.mpr ⟨List.mem_of_getElem? (i := 927) (by decide +kernel), by decide +kernel⟩
theorem kl_X10_194 : Cond.methodLink RX10 194 yX10_isSet ∈ pm_tbl := List.mem_filter.mpr ⟨List.mem_of_getElem? (i := 931) (by decide +kernel), by decide +kernel⟩
theorem kl_X10_200 : Cond.methodLink RX10 200 yX10_table ∈ pm_tbl := List.mem_filter.mpr ⟨List.mem_of_getElem? (i := 935) (by decide +kernel), by decide +kernel⟩
theorem kl_L_60 : Cond.methodLink RL 60 yX10_take ∈ pm_tbl := List.mem_filter.mpr ⟨List.mem_of_getElem? (i := 939) (by decide +kernel), by decide +kernel⟩
theorem kl_L_65 : Cond.methodLink RL 65 yX10_turn ∈ pm_tbl := List.mem_filter.mpr ⟨List.mem_of_getElem? (i := 943) (by decide +kernel), by decide +kernel⟩
theorem kl_L_69 : Cond.methodLink RL 69 yX10_join ∈ pm_tbl := List.mem_filter.mpr ⟨List.mem_of_getElem? (i := 947) (by decide +kernel), by decide +kernel⟩
theorem kl_L_73 : Cond.methodLink RL 73 yX10_broken ∈ pm_tbl := List.mem_filter.mpr ⟨List.mem_of_getElem? (i := 951) (by decide +kernel), by decide +kernel⟩
theorem kl_L_77 : Cond.methodLink RL 77 yX10_look ∈ pm_tbl := List.mem_filter.mpr ⟨List.mem_of_getElem? (i := 955) (by decide +kernel), by decide +kernel⟩
theorem kl_L_81 : Cond.methodLink RL 81 yX10_allows ∈ pm_tbl := List.mem_filter.mpr ⟨List.mem_of_getElem? (i := 959) (by decide +kernel), by decide +kernel⟩
theorem kl_L_85 : Cond.methodLink RL 85 yX10_rank ∈ pm_tbl := List.mem_filter.mpr ⟨List.mem_of_getElem? (i := 963) (by decide +kernel), by decide +kernel⟩
theorem kl_L_89 : Cond.methodLink RL 89 yX10_span ∈ pm_tbl := List.mem_filter.mpr ⟨List.mem_of_getElem? (i := 967) (by decide +kernel), by decide +kernel⟩
theorem kl_L_93 : Cond.methodLink RL 93 yX10_ring ∈ pm_tbl := List.mem_filter.mpr ⟨List.mem_of_getElem? (i := 971) (by decide +kernel), by decide +kernel⟩
theorem kl_L_97 : Cond.methodLink RL 97 yX10_exchange ∈ pm_tbl := List.mem_filter.mpr ⟨List.mem_of_getElem? (i := 975) (by decide +kernel), by decide +kernel⟩
theorem kl_L_102 : Cond.methodLink RL 102 yX10_full ∈ pm_tbl := List.mem_filter.mpr ⟨List.mem_of_getElem? (i := 979) (by decide +kernel), by decide +kernel⟩
theorem kl_X10_207 : Cond.methodLink RX10 207 yX10_isFull ∈ pm_tbl := List.mem_filter.mpr ⟨List.mem_of_getElem? (i := 983) (by decide +kernel), by decide +kernel⟩
theorem kl_X10_210 : Cond.methodLink RX10 210 yX10_isBetter ∈ pm_tbl := List.mem_filter.mpr ⟨List.mem_of_getElem? (i := 987) (by decide +kernel), by decide +kernel⟩
theorem kl_X10_204 : Cond.methodLink RX10 204 yX10_weightOf ∈ pm_tbl := List.mem_filter.mpr ⟨List.mem_of_getElem? (i := 991) (by decide +kernel), by decide +kernel⟩
theorem kl_L_106 : Cond.methodLink RL 106 yX10_both ∈ pm_tbl := List.mem_filter.mpr ⟨List.mem_of_getElem? (i := 995) (by decide +kernel), by decide +kernel⟩
theorem kl_L_110 : Cond.methodLink RL 110 yX10_split ∈ pm_tbl := List.mem_filter.mpr ⟨List.mem_of_getElem? (i := 999) (by decide +kernel), by decide +kernel⟩
theorem kl_X10_214 : Cond.methodLink RX10 214 yX10_both ∈ pm_tbl := List.mem_filter.mpr ⟨List.mem_of_getElem? (i := 1003) (by decide +kernel), by decide +kernel⟩
theorem kl_L_114 : Cond.methodLink RL 114 yX10_most ∈ pm_tbl := List.mem_filter.mpr ⟨List.mem_of_getElem? (i := 1004) (by decide +kernel), by decide +kernel⟩
theorem kl_L_118 : Cond.methodLink RL 118 yX10_three ∈ pm_tbl := List.mem_filter.mpr ⟨List.mem_of_getElem? (i := 1008) (by decide +kernel), by decide +kernel⟩
theorem kl_L_122 : Cond.methodLink RL 122 yX10_fewest ∈ pm_tbl := List.mem_filter.mpr ⟨List.mem_of_getElem? (i := 1012) (by decide +kernel), by decide +kernel⟩
theorem kl_X10_220 : Cond.methodLink RX10 220 yX10_undealt ∈ pm_tbl := List.mem_filter.mpr ⟨List.mem_of_getElem? (i := 1016) (by decide +kernel), by decide +kernel⟩
theorem kl_X10_223 : Cond.methodLink RX10 223 yX10_fewestOf ∈ pm_tbl := List.mem_filter.mpr ⟨List.mem_of_getElem? (i := 1020) (by decide +kernel), by decide +kernel⟩
theorem kl_X10_217 : Cond.methodLink RX10 217 yJ9_min_7cf53 ∈ pm_tbl := List.mem_filter.mpr ⟨List.mem_of_getElem? (i := 1024) (by decide +kernel), by decide +kernel⟩
theorem kl_L_126 : Cond.methodLink RL 126 yX10_dealt ∈ pm_tbl := List.mem_filter.mpr ⟨List.mem_of_getElem? (i := 1025) (by decide +kernel), by decide +kernel⟩
theorem kl_X10_226 : Cond.methodLink RX10 226 yX10_deals ∈ pm_tbl := List.mem_filter.mpr ⟨List.mem_of_getElem? (i := 1029) (by decide +kernel), by decide +kernel⟩
theorem kl_L_130 : Cond.methodLink RL 130 yX10_crowd ∈ pm_tbl := List.mem_filter.mpr ⟨List.mem_of_getElem? (i := 1033) (by decide +kernel), by decide +kernel⟩
theorem kl_L_134 : Cond.methodLink RL 134 yX10_pack ∈ pm_tbl := List.mem_filter.mpr ⟨List.mem_of_getElem? (i := 1037) (by decide +kernel), by decide +kernel⟩
theorem kl_L_138 : Cond.methodLink RL 138 yX10_same ∈ pm_tbl := List.mem_filter.mpr ⟨List.mem_of_getElem? (i := 1041) (by decide +kernel), by decide +kernel⟩
theorem kl_L_142 : Cond.methodLink RL 142 yX10_count ∈ pm_tbl := List.mem_filter.mpr ⟨List.mem_of_getElem? (i := 1045) (by decide +kernel), by decide +kernel⟩
theorem kl_L_32 : Cond.constantLong RL 32 (4294967295) ∈ pm_tbl := List.mem_filter.mpr ⟨List.mem_of_getElem? (i := 1049) (by decide +kernel), by decide +kernel⟩
theorem ko_init : Cond.instanceMethod Lib.objectInit ∈ pm_tbl := List.mem_filter.mpr ⟨by decide +kernel, by decide +kernel⟩
theorem ko_code : Cond.code Lib.objectInit ⟨#[0xb1]⟩ 1 none ∈ pm_tbl := List.mem_filter.mpr ⟨by decide +kernel, by decide +kernel⟩
theorem ka_nat : Cond.native arraycopyName ∈ pm_tbl := List.mem_filter.mpr ⟨by decide +kernel, by decide +kernel⟩
theorem ka_st : Cond.static arraycopyName ∈ pm_tbl := List.mem_filter.mpr ⟨by decide +kernel, by decide +kernel⟩
theorem ka_ini : Cond.initialized "java/lang/System" ∈ pm_tbl := List.mem_filter.mpr ⟨by decide +kernel, by decide +kernel⟩
theorem kA_byte : Cond.arrayClass .byte ∈ pm_tbl := List.mem_filter.mpr ⟨by decide +kernel, by decide +kernel⟩
theorem kA_int : Cond.arrayClass .int ∈ pm_tbl := List.mem_filter.mpr ⟨by decide +kernel, by decide +kernel⟩
theorem kA_long : Cond.arrayClass .long ∈ pm_tbl := List.mem_filter.mpr ⟨by decide +kernel, by decide +kernel⟩
theorem kA_boolean : Cond.arrayClass .boolean ∈ pm_tbl := List.mem_filter.mpr ⟨by decide +kernel, by decide +kernel⟩
theorem kf_X0 : Cond.selects RX0 yX1_fits yX0_fits ∈ pm_tbl := List.mem_filter.mpr ⟨by decide +kernel, by decide +kernel⟩
theorem kf_X2 : Cond.selects RX2 yX1_fits yX2_fits ∈ pm_tbl := List.mem_filter.mpr ⟨by decide +kernel, by decide +kernel⟩
theorem kf_X3 : Cond.selects RX3 yX1_fits yX3_fits ∈ pm_tbl := List.mem_filter.mpr ⟨by decide +kernel, by decide +kernel⟩
theorem kf_X7 : Cond.selects RX7 yX1_fits yX7_fits ∈ pm_tbl := List.mem_filter.mpr ⟨by decide +kernel, by decide +kernel⟩
theorem kf_X8 : Cond.selects RX8 yX1_fits yX8_fits ∈ pm_tbl := List.mem_filter.mpr ⟨by decide +kernel, by decide +kernel⟩
end
section
section PMF
variable {p : Program} {l : Launch} {e : Env} {R : Room} {s : State} {m : MethodId} {args : Array Value} {below : List Frame} {meth : Method} {c : Code} {H : Heap} {locs : List Loc} {cells slots : Nat} {Q : State → Prop}
variable {cc : ByteArray} {pc nL : Nat} {ls : Array Slot} {rest : List Value} {G : pm_G} {H0 : Heap} {M : pm_M} {a b : Nat} {i x v : Int32}
theorem pm_bytes {N k : Nat} (h : N ≤ 100000) (hk : k ≤ 8) : N * k ≤ 536870912 := Nat.le_trans (Nat.mul_le_mul h hk) (by decide)
variable {own : String}
theorem pm_Xi {M : pm_M} {a k : Nat} {v : Int32} : pm_X M (sI M a k v) := ⟨Nat.le_refl _, fun _ _ => ⟨rfl, rfl⟩⟩
theorem pm_Xl {M : pm_M} {a k : Nat} {v : Int64} : pm_X M (sL M a k v) := ⟨Nat.le_refl _, fun _ _ => ⟨rfl, rfl⟩⟩
theorem pm_Xr {M : pm_M} {a k : Nat} {v : Option Nat} : pm_X M (sR M a k v) := ⟨Nat.le_refl _, fun _ _ => ⟨rfl, rfl⟩⟩
theorem pm_Xc {M : pm_M} {a i b j n : Nat} : pm_X M (sC M a i b j n) := ⟨Nat.le_refl _, fun _ _ => ⟨rfl, rfl⟩⟩
theorem gf_X0_9 (E : pm_E G p s m args meth c cc nL RX0) (hI : pm_I G H0 M H locs) (ha : pm_is M a 0) (hdg : decode cc pc = .ok (.getfield 9, 3)) (hq : mR M a 0 = some b) (kk : pm_is M b 11 → W p l e R s m args below meth c H locs cells slots Q (F0 m (pc + 3) ls (.ref (H0.size + b) :: rest))) : W p l e R s m args below meth c H locs cells slots Q (F0 m pc ls (.ref (H0.size + a) :: rest)) := pm_getR (k := 0) E hI ha rfl (by decide) (by decide) rfl (by decide) iX0 kl_X0_9 hdg hq kk
theorem pf_X0_9 (E : pm_E G p s m args meth c cc nL RX0) (hI : pm_I G H0 M H locs) (ha : pm_is M a 0) (hdg : decode cc pc = .ok (.putfield 9, 3)) (hnm : meth.name = "<init>") (hb : pm_is M b 11) (kk : ∀ (H1 : Heap) (locs1 : List Loc) (M1 : pm_M), M1 = sR M a 0 (some b) → pm_X M M1 → pm_I G H0 M1 H1 locs1 → W p l e R s m args below meth c H1 locs1 cells slots Q (F0 m (pc + 3) ls rest)) : W p l e R s m args below meth c H locs cells slots Q (F0 m pc ls (.ref (H0.size + b) :: .ref (H0.size + a) :: rest)) := pm_putR (ty := tyX0 0) (k := 0) E hI ha rfl (by decide) (by decide) rfl (by decide) iX0 tyX0_ok nmX0 kl_X0_9 (by decide +kernel) rfl rfl (Or.inr ⟨rfl, rfl, hnm⟩) hb hdg (fun H1 locs1 h => kk H1 locs1 _ rfl pm_Xr h)
theorem gf_X0_15 (E : pm_E G p s m args meth c cc nL RX0) (hI : pm_I G H0 M H locs) (ha : pm_is M a 0) (hdg : decode cc pc = .ok (.getfield 15, 3)) (hq : mR M a 1 = some b) (kk : pm_is M b 11 → W p l e R s m args below meth c H locs cells slots Q (F0 m (pc + 3) ls (.ref (H0.size + b) :: rest))) : W p l e R s m args below meth c H locs cells slots Q (F0 m pc ls (.ref (H0.size + a) :: rest)) := pm_getR (k := 1) E hI ha rfl (by decide) (by decide) rfl (by decide) iX0 kl_X0_15 hdg hq kk
theorem pf_X0_15 (E : pm_E G p s m args meth c cc nL RX0) (hI : pm_I G H0 M H locs) (ha : pm_is M a 0) (hdg : decode cc pc = .ok (.putfield 15, 3)) (hnm : meth.name = "<init>") (hb : pm_is M b 11) (kk : ∀ (H1 : Heap) (locs1 : List Loc) (M1 : pm_M), M1 = sR M a 1 (some b) → pm_X M M1 → pm_I G H0 M1 H1 locs1 → W p l e R s m args below meth c H1 locs1 cells slots Q (F0 m (pc + 3) ls rest)) : W p l e R s m args below meth c H locs cells slots Q (F0 m pc ls (.ref (H0.size + b) :: .ref (H0.size + a) :: rest)) := pm_putR (ty := tyX0 1) (k := 1) E hI ha rfl (by decide) (by decide) rfl (by decide) iX0 tyX0_ok nmX0 kl_X0_15 (by decide +kernel) rfl rfl (Or.inr ⟨rfl, rfl, hnm⟩) hb hdg (fun H1 locs1 h => kk H1 locs1 _ rfl pm_Xr h)
theorem gf_X0_18 (E : pm_E G p s m args meth c cc nL RX0) (hI : pm_I G H0 M H locs) (ha : pm_is M a 0) (hdg : decode cc pc = .ok (.getfield 18, 3)) (kk : W p l e R s m args below meth c H locs cells slots Q (F0 m (pc + 3) ls (.int (mI M a 2) :: rest))) : W p l e R s m args below meth c H locs cells slots Q (F0 m pc ls (.ref (H0.size + a) :: rest)) := pm_getI (k := 2) E hI ha rfl (by decide) (by decide) rfl rfl iX0 kl_X0_18 hdg kk
theorem pf_X0_18 (E : pm_E G p s m args meth c cc nL RX0) (hI : pm_I G H0 M H locs) (ha : pm_is M a 0) (hdg : decode cc pc = .ok (.putfield 18, 3)) (kk : ∀ (H1 : Heap) (locs1 : List Loc) (M1 : pm_M), M1 = sI M a 2 v → pm_X M M1 → pm_I G H0 M1 H1 locs1 → W p l e R s m args below meth c H1 locs1 cells slots Q (F0 m (pc + 3) ls rest)) : W p l e R s m args below meth c H locs cells slots Q (F0 m pc ls (.int v :: .ref (H0.size + a) :: rest)) := pm_putI (k := 2) E hI ha rfl (by decide) (by decide) rfl rfl iX0 tyX0_ok nmX0 kl_X0_18 (by decide +kernel) (Or.inl rfl) hdg (fun H1 locs1 h => kk H1 locs1 _ rfl pm_Xi h)
theorem gf_X10_7 (E : pm_E G p s m args meth c cc nL RX10) (hI : pm_I G H0 M H locs) (ha : pm_is M a 9) (hdg : decode cc pc = .ok (.getfield 7, 3)) (kk : W p l e R s m args below meth c H locs cells slots Q (F0 m (pc + 3) ls (.int (mI M a 0) :: rest))) : W p l e R s m args below meth c H locs cells slots Q (F0 m pc ls (.ref (H0.size + a) :: rest)) := pm_getI (k := 0) E hI ha rfl (by decide) (by decide) rfl rfl iX10 kl_X10_7 hdg kk
theorem pf_X10_7 (E : pm_E G p s m args meth c cc nL RX10) (hI : pm_I G H0 M H locs) (ha : pm_is M a 9) (hdg : decode cc pc = .ok (.putfield 7, 3)) (kk : ∀ (H1 : Heap) (locs1 : List Loc) (M1 : pm_M), M1 = sI M a 0 v → pm_X M M1 → pm_I G H0 M1 H1 locs1 → W p l e R s m args below meth c H1 locs1 cells slots Q (F0 m (pc + 3) ls rest)) : W p l e R s m args below meth c H locs cells slots Q (F0 m pc ls (.int v :: .ref (H0.size + a) :: rest)) := pm_putI (k := 0) E hI ha rfl (by decide) (by decide) rfl rfl iX10 tyX10_ok nmX10 kl_X10_7 (by decide +kernel) (Or.inl rfl) hdg (fun H1 locs1 h => kk H1 locs1 _ rfl pm_Xi h)
theorem gf_X10_13 (E : pm_E G p s m args meth c cc nL RX10) (hI : pm_I G H0 M H locs) (ha : pm_is M a 9) (hdg : decode cc pc = .ok (.getfield 13, 3)) (kk : W p l e R s m args below meth c H locs cells slots Q (F0 m (pc + 3) ls (.int (mI M a 1) :: rest))) : W p l e R s m args below meth c H locs cells slots Q (F0 m pc ls (.ref (H0.size + a) :: rest)) := pm_getI (k := 1) E hI ha rfl (by decide) (by decide) rfl rfl iX10 kl_X10_13 hdg kk
theorem pf_X10_13 (E : pm_E G p s m args meth c cc nL RX10) (hI : pm_I G H0 M H locs) (ha : pm_is M a 9) (hdg : decode cc pc = .ok (.putfield 13, 3)) (kk : ∀ (H1 : Heap) (locs1 : List Loc) (M1 : pm_M), M1 = sI M a 1 v → pm_X M M1 → pm_I G H0 M1 H1 locs1 → W p l e R s m args below meth c H1 locs1 cells slots Q (F0 m (pc + 3) ls rest)) : W p l e R s m args below meth c H locs cells slots Q (F0 m pc ls (.int v :: .ref (H0.size + a) :: rest)) := pm_putI (k := 1) E hI ha rfl (by decide) (by decide) rfl rfl iX10 tyX10_ok nmX10 kl_X10_13 (by decide +kernel) (Or.inl rfl) hdg (fun H1 locs1 h => kk H1 locs1 _ rfl pm_Xi h)
theorem gf_X10_16 (E : pm_E G p s m args meth c cc nL RX10) (hI : pm_I G H0 M H locs) (ha : pm_is M a 9) (hdg : decode cc pc = .ok (.getfield 16, 3)) (hq : mR M a 2 = some b) (kk : pm_is M b 11 → W p l e R s m args below meth c H locs cells slots Q (F0 m (pc + 3) ls (.ref (H0.size + b) :: rest))) : W p l e R s m args below meth c H locs cells slots Q (F0 m pc ls (.ref (H0.size + a) :: rest)) := pm_getR (k := 2) E hI ha rfl (by decide) (by decide) rfl (by decide) iX10 kl_X10_16 hdg hq kk
theorem pf_X10_16 (E : pm_E G p s m args meth c cc nL RX10) (hI : pm_I G H0 M H locs) (ha : pm_is M a 9) (hdg : decode cc pc = .ok (.putfield 16, 3)) (hnm : meth.name = "<init>") (hb : pm_is M b 11) (kk : ∀ (H1 : Heap) (locs1 : List Loc) (M1 : pm_M), M1 = sR M a 2 (some b) → pm_X M M1 → pm_I G H0 M1 H1 locs1 → W p l e R s m args below meth c H1 locs1 cells slots Q (F0 m (pc + 3) ls rest)) : W p l e R s m args below meth c H locs cells slots Q (F0 m pc ls (.ref (H0.size + b) :: .ref (H0.size + a) :: rest)) := pm_putR (ty := tyX10 2) (k := 2) E hI ha rfl (by decide) (by decide) rfl (by decide) iX10 tyX10_ok nmX10 kl_X10_16 (by decide +kernel) rfl rfl (Or.inr ⟨rfl, rfl, hnm⟩) hb hdg (fun H1 locs1 h => kk H1 locs1 _ rfl pm_Xr h)
theorem gf_X10_21 (E : pm_E G p s m args meth c cc nL RX10) (hI : pm_I G H0 M H locs) (ha : pm_is M a 9) (hdg : decode cc pc = .ok (.getfield 21, 3)) (hq : mR M a 4 = some b) (kk : pm_is M b 13 → W p l e R s m args below meth c H locs cells slots Q (F0 m (pc + 3) ls (.ref (H0.size + b) :: rest))) : W p l e R s m args below meth c H locs cells slots Q (F0 m pc ls (.ref (H0.size + a) :: rest)) := pm_getR (k := 4) E hI ha rfl (by decide) (by decide) rfl (by decide) iX10 kl_X10_21 hdg hq kk
theorem pf_X10_21 (E : pm_E G p s m args meth c cc nL RX10) (hI : pm_I G H0 M H locs) (ha : pm_is M a 9) (hdg : decode cc pc = .ok (.putfield 21, 3)) (hnm : meth.name = "<init>") (hb : pm_is M b 13) (kk : ∀ (H1 : Heap) (locs1 : List Loc) (M1 : pm_M), M1 = sR M a 4 (some b) → pm_X M M1 → pm_I G H0 M1 H1 locs1 → W p l e R s m args below meth c H1 locs1 cells slots Q (F0 m (pc + 3) ls rest)) : W p l e R s m args below meth c H locs cells slots Q (F0 m pc ls (.ref (H0.size + b) :: .ref (H0.size + a) :: rest)) := pm_putR (ty := tyX10 4) (k := 4) E hI ha rfl (by decide) (by decide) rfl (by decide) iX10 tyX10_ok nmX10 kl_X10_21 (by decide +kernel) rfl rfl (Or.inr ⟨rfl, rfl, hnm⟩) hb hdg (fun H1 locs1 h => kk H1 locs1 _ rfl pm_Xr h)
theorem gf_X10_25 (E : pm_E G p s m args meth c cc nL RX10) (hI : pm_I G H0 M H locs) (ha : pm_is M a 9) (hdg : decode cc pc = .ok (.getfield 25, 3)) (hq : mR M a 5 = some b) (kk : pm_is M b 10 → W p l e R s m args below meth c H locs cells slots Q (F0 m (pc + 3) ls (.ref (H0.size + b) :: rest))) : W p l e R s m args below meth c H locs cells slots Q (F0 m pc ls (.ref (H0.size + a) :: rest)) := pm_getR (k := 5) E hI ha rfl (by decide) (by decide) rfl (by decide) iX10 kl_X10_25 hdg hq kk
theorem pf_X10_25 (E : pm_E G p s m args meth c cc nL RX10) (hI : pm_I G H0 M H locs) (ha : pm_is M a 9) (hdg : decode cc pc = .ok (.putfield 25, 3)) (hnm : meth.name = "<init>") (hb : pm_is M b 10) (kk : ∀ (H1 : Heap) (locs1 : List Loc) (M1 : pm_M), M1 = sR M a 5 (some b) → pm_X M M1 → pm_I G H0 M1 H1 locs1 → W p l e R s m args below meth c H1 locs1 cells slots Q (F0 m (pc + 3) ls rest)) : W p l e R s m args below meth c H locs cells slots Q (F0 m pc ls (.ref (H0.size + b) :: .ref (H0.size + a) :: rest)) := pm_putR (ty := tyX10 5) (k := 5) E hI ha rfl (by decide) (by decide) rfl (by decide) iX10 tyX10_ok nmX10 kl_X10_25 (by decide +kernel) rfl rfl (Or.inr ⟨rfl, rfl, hnm⟩) hb hdg (fun H1 locs1 h => kk H1 locs1 _ rfl pm_Xr h)
theorem gf_X10_29 (E : pm_E G p s m args meth c cc nL RX10) (hI : pm_I G H0 M H locs) (ha : pm_is M a 9) (hdg : decode cc pc = .ok (.getfield 29, 3)) (hq : mR M a 6 = some b) (kk : pm_is M b 11 → W p l e R s m args below meth c H locs cells slots Q (F0 m (pc + 3) ls (.ref (H0.size + b) :: rest))) : W p l e R s m args below meth c H locs cells slots Q (F0 m pc ls (.ref (H0.size + a) :: rest)) := pm_getR (k := 6) E hI ha rfl (by decide) (by decide) rfl (by decide) iX10 kl_X10_29 hdg hq kk
theorem pf_X10_29 (E : pm_E G p s m args meth c cc nL RX10) (hI : pm_I G H0 M H locs) (ha : pm_is M a 9) (hdg : decode cc pc = .ok (.putfield 29, 3)) (hnm : meth.name = "<init>") (hb : pm_is M b 11) (kk : ∀ (H1 : Heap) (locs1 : List Loc) (M1 : pm_M), M1 = sR M a 6 (some b) → pm_X M M1 → pm_I G H0 M1 H1 locs1 → W p l e R s m args below meth c H1 locs1 cells slots Q (F0 m (pc + 3) ls rest)) : W p l e R s m args below meth c H locs cells slots Q (F0 m pc ls (.ref (H0.size + b) :: .ref (H0.size + a) :: rest)) := pm_putR (ty := tyX10 6) (k := 6) E hI ha rfl (by decide) (by decide) rfl (by decide) iX10 tyX10_ok nmX10 kl_X10_29 (by decide +kernel) rfl rfl (Or.inr ⟨rfl, rfl, hnm⟩) hb hdg (fun H1 locs1 h => kk H1 locs1 _ rfl pm_Xr h)
theorem gf_X10_32 (E : pm_E G p s m args meth c cc nL RX10) (hI : pm_I G H0 M H locs) (ha : pm_is M a 9) (hdg : decode cc pc = .ok (.getfield 32, 3)) (hq : mR M a 7 = some b) (kk : pm_is M b 11 → W p l e R s m args below meth c H locs cells slots Q (F0 m (pc + 3) ls (.ref (H0.size + b) :: rest))) : W p l e R s m args below meth c H locs cells slots Q (F0 m pc ls (.ref (H0.size + a) :: rest)) := pm_getR (k := 7) E hI ha rfl (by decide) (by decide) rfl (by decide) iX10 kl_X10_32 hdg hq kk
theorem pf_X10_32 (E : pm_E G p s m args meth c cc nL RX10) (hI : pm_I G H0 M H locs) (ha : pm_is M a 9) (hdg : decode cc pc = .ok (.putfield 32, 3)) (hnm : meth.name = "<init>") (hb : pm_is M b 11) (kk : ∀ (H1 : Heap) (locs1 : List Loc) (M1 : pm_M), M1 = sR M a 7 (some b) → pm_X M M1 → pm_I G H0 M1 H1 locs1 → W p l e R s m args below meth c H1 locs1 cells slots Q (F0 m (pc + 3) ls rest)) : W p l e R s m args below meth c H locs cells slots Q (F0 m pc ls (.ref (H0.size + b) :: .ref (H0.size + a) :: rest)) := pm_putR (ty := tyX10 7) (k := 7) E hI ha rfl (by decide) (by decide) rfl (by decide) iX10 tyX10_ok nmX10 kl_X10_32 (by decide +kernel) rfl rfl (Or.inr ⟨rfl, rfl, hnm⟩) hb hdg (fun H1 locs1 h => kk H1 locs1 _ rfl pm_Xr h)
theorem gf_X10_35 (E : pm_E G p s m args meth c cc nL RX10) (hI : pm_I G H0 M H locs) (ha : pm_is M a 9) (hdg : decode cc pc = .ok (.getfield 35, 3)) (hq : mR M a 8 = some b) (kk : pm_is M b 11 → W p l e R s m args below meth c H locs cells slots Q (F0 m (pc + 3) ls (.ref (H0.size + b) :: rest))) : W p l e R s m args below meth c H locs cells slots Q (F0 m pc ls (.ref (H0.size + a) :: rest)) := pm_getR (k := 8) E hI ha rfl (by decide) (by decide) rfl (by decide) iX10 kl_X10_35 hdg hq kk
theorem pf_X10_35 (E : pm_E G p s m args meth c cc nL RX10) (hI : pm_I G H0 M H locs) (ha : pm_is M a 9) (hdg : decode cc pc = .ok (.putfield 35, 3)) (hnm : meth.name = "<init>") (hb : pm_is M b 11) (kk : ∀ (H1 : Heap) (locs1 : List Loc) (M1 : pm_M), M1 = sR M a 8 (some b) → pm_X M M1 → pm_I G H0 M1 H1 locs1 → W p l e R s m args below meth c H1 locs1 cells slots Q (F0 m (pc + 3) ls rest)) : W p l e R s m args below meth c H locs cells slots Q (F0 m pc ls (.ref (H0.size + b) :: .ref (H0.size + a) :: rest)) := pm_putR (ty := tyX10 8) (k := 8) E hI ha rfl (by decide) (by decide) rfl (by decide) iX10 tyX10_ok nmX10 kl_X10_35 (by decide +kernel) rfl rfl (Or.inr ⟨rfl, rfl, hnm⟩) hb hdg (fun H1 locs1 h => kk H1 locs1 _ rfl pm_Xr h)
theorem gf_X10_38 (E : pm_E G p s m args meth c cc nL RX10) (hI : pm_I G H0 M H locs) (ha : pm_is M a 9) (hdg : decode cc pc = .ok (.getfield 38, 3)) (hq : mR M a 9 = some b) (kk : pm_is M b 11 → W p l e R s m args below meth c H locs cells slots Q (F0 m (pc + 3) ls (.ref (H0.size + b) :: rest))) : W p l e R s m args below meth c H locs cells slots Q (F0 m pc ls (.ref (H0.size + a) :: rest)) := pm_getR (k := 9) E hI ha rfl (by decide) (by decide) rfl (by decide) iX10 kl_X10_38 hdg hq kk
theorem pf_X10_38 (E : pm_E G p s m args meth c cc nL RX10) (hI : pm_I G H0 M H locs) (ha : pm_is M a 9) (hdg : decode cc pc = .ok (.putfield 38, 3)) (hnm : meth.name = "<init>") (hb : pm_is M b 11) (kk : ∀ (H1 : Heap) (locs1 : List Loc) (M1 : pm_M), M1 = sR M a 9 (some b) → pm_X M M1 → pm_I G H0 M1 H1 locs1 → W p l e R s m args below meth c H1 locs1 cells slots Q (F0 m (pc + 3) ls rest)) : W p l e R s m args below meth c H locs cells slots Q (F0 m pc ls (.ref (H0.size + b) :: .ref (H0.size + a) :: rest)) := pm_putR (ty := tyX10 9) (k := 9) E hI ha rfl (by decide) (by decide) rfl (by decide) iX10 tyX10_ok nmX10 kl_X10_38 (by decide +kernel) rfl rfl (Or.inr ⟨rfl, rfl, hnm⟩) hb hdg (fun H1 locs1 h => kk H1 locs1 _ rfl pm_Xr h)
theorem gf_X10_41 (E : pm_E G p s m args meth c cc nL RX10) (hI : pm_I G H0 M H locs) (ha : pm_is M a 9) (hdg : decode cc pc = .ok (.getfield 41, 3)) (hq : mR M a 10 = some b) (kk : pm_is M b 11 → W p l e R s m args below meth c H locs cells slots Q (F0 m (pc + 3) ls (.ref (H0.size + b) :: rest))) : W p l e R s m args below meth c H locs cells slots Q (F0 m pc ls (.ref (H0.size + a) :: rest)) := pm_getR (k := 10) E hI ha rfl (by decide) (by decide) rfl (by decide) iX10 kl_X10_41 hdg hq kk
theorem pf_X10_41 (E : pm_E G p s m args meth c cc nL RX10) (hI : pm_I G H0 M H locs) (ha : pm_is M a 9) (hdg : decode cc pc = .ok (.putfield 41, 3)) (hnm : meth.name = "<init>") (hb : pm_is M b 11) (kk : ∀ (H1 : Heap) (locs1 : List Loc) (M1 : pm_M), M1 = sR M a 10 (some b) → pm_X M M1 → pm_I G H0 M1 H1 locs1 → W p l e R s m args below meth c H1 locs1 cells slots Q (F0 m (pc + 3) ls rest)) : W p l e R s m args below meth c H locs cells slots Q (F0 m pc ls (.ref (H0.size + b) :: .ref (H0.size + a) :: rest)) := pm_putR (ty := tyX10 10) (k := 10) E hI ha rfl (by decide) (by decide) rfl (by decide) iX10 tyX10_ok nmX10 kl_X10_41 (by decide +kernel) rfl rfl (Or.inr ⟨rfl, rfl, hnm⟩) hb hdg (fun H1 locs1 h => kk H1 locs1 _ rfl pm_Xr h)
theorem gf_X10_44 (E : pm_E G p s m args meth c cc nL RX10) (hI : pm_I G H0 M H locs) (ha : pm_is M a 9) (hdg : decode cc pc = .ok (.getfield 44, 3)) (hq : mR M a 11 = some b) (kk : pm_is M b 11 → W p l e R s m args below meth c H locs cells slots Q (F0 m (pc + 3) ls (.ref (H0.size + b) :: rest))) : W p l e R s m args below meth c H locs cells slots Q (F0 m pc ls (.ref (H0.size + a) :: rest)) := pm_getR (k := 11) E hI ha rfl (by decide) (by decide) rfl (by decide) iX10 kl_X10_44 hdg hq kk
theorem pf_X10_44 (E : pm_E G p s m args meth c cc nL RX10) (hI : pm_I G H0 M H locs) (ha : pm_is M a 9) (hdg : decode cc pc = .ok (.putfield 44, 3)) (hnm : meth.name = "<init>") (hb : pm_is M b 11) (kk : ∀ (H1 : Heap) (locs1 : List Loc) (M1 : pm_M), M1 = sR M a 11 (some b) → pm_X M M1 → pm_I G H0 M1 H1 locs1 → W p l e R s m args below meth c H1 locs1 cells slots Q (F0 m (pc + 3) ls rest)) : W p l e R s m args below meth c H locs cells slots Q (F0 m pc ls (.ref (H0.size + b) :: .ref (H0.size + a) :: rest)) := pm_putR (ty := tyX10 11) (k := 11) E hI ha rfl (by decide) (by decide) rfl (by decide) iX10 tyX10_ok nmX10 kl_X10_44 (by decide +kernel) rfl rfl (Or.inr ⟨rfl, rfl, hnm⟩) hb hdg (fun H1 locs1 h => kk H1 locs1 _ rfl pm_Xr h)
theorem gf_X10_47 (E : pm_E G p s m args meth c cc nL RX10) (hI : pm_I G H0 M H locs) (ha : pm_is M a 9) (hdg : decode cc pc = .ok (.getfield 47, 3)) (hq : mR M a 12 = some b) (kk : pm_is M b 11 → W p l e R s m args below meth c H locs cells slots Q (F0 m (pc + 3) ls (.ref (H0.size + b) :: rest))) : W p l e R s m args below meth c H locs cells slots Q (F0 m pc ls (.ref (H0.size + a) :: rest)) := pm_getR (k := 12) E hI ha rfl (by decide) (by decide) rfl (by decide) iX10 kl_X10_47 hdg hq kk
theorem pf_X10_47 (E : pm_E G p s m args meth c cc nL RX10) (hI : pm_I G H0 M H locs) (ha : pm_is M a 9) (hdg : decode cc pc = .ok (.putfield 47, 3)) (hnm : meth.name = "<init>") (hb : pm_is M b 11) (kk : ∀ (H1 : Heap) (locs1 : List Loc) (M1 : pm_M), M1 = sR M a 12 (some b) → pm_X M M1 → pm_I G H0 M1 H1 locs1 → W p l e R s m args below meth c H1 locs1 cells slots Q (F0 m (pc + 3) ls rest)) : W p l e R s m args below meth c H locs cells slots Q (F0 m pc ls (.ref (H0.size + b) :: .ref (H0.size + a) :: rest)) := pm_putR (ty := tyX10 12) (k := 12) E hI ha rfl (by decide) (by decide) rfl (by decide) iX10 tyX10_ok nmX10 kl_X10_47 (by decide +kernel) rfl rfl (Or.inr ⟨rfl, rfl, hnm⟩) hb hdg (fun H1 locs1 h => kk H1 locs1 _ rfl pm_Xr h)
theorem gf_X10_50 (E : pm_E G p s m args meth c cc nL RX10) (hI : pm_I G H0 M H locs) (ha : pm_is M a 9) (hdg : decode cc pc = .ok (.getfield 50, 3)) (hq : mR M a 13 = some b) (kk : pm_is M b 12 → W p l e R s m args below meth c H locs cells slots Q (F0 m (pc + 3) ls (.ref (H0.size + b) :: rest))) : W p l e R s m args below meth c H locs cells slots Q (F0 m pc ls (.ref (H0.size + a) :: rest)) := pm_getR (k := 13) E hI ha rfl (by decide) (by decide) rfl (by decide) iX10 kl_X10_50 hdg hq kk
theorem pf_X10_50 (E : pm_E G p s m args meth c cc nL RX10) (hI : pm_I G H0 M H locs) (ha : pm_is M a 9) (hdg : decode cc pc = .ok (.putfield 50, 3)) (hnm : meth.name = "<init>") (hb : pm_is M b 12) (kk : ∀ (H1 : Heap) (locs1 : List Loc) (M1 : pm_M), M1 = sR M a 13 (some b) → pm_X M M1 → pm_I G H0 M1 H1 locs1 → W p l e R s m args below meth c H1 locs1 cells slots Q (F0 m (pc + 3) ls rest)) : W p l e R s m args below meth c H locs cells slots Q (F0 m pc ls (.ref (H0.size + b) :: .ref (H0.size + a) :: rest)) := pm_putR (ty := tyX10 13) (k := 13) E hI ha rfl (by decide) (by decide) rfl (by decide) iX10 tyX10_ok nmX10 kl_X10_50 (by decide +kernel) rfl rfl (Or.inr ⟨rfl, rfl, hnm⟩) hb hdg (fun H1 locs1 h => kk H1 locs1 _ rfl pm_Xr h)
theorem gf_X10_54 (E : pm_E G p s m args meth c cc nL RX10) (hI : pm_I G H0 M H locs) (ha : pm_is M a 9) (hdg : decode cc pc = .ok (.getfield 54, 3)) (hq : mR M a 14 = some b) (kk : pm_is M b 12 → W p l e R s m args below meth c H locs cells slots Q (F0 m (pc + 3) ls (.ref (H0.size + b) :: rest))) : W p l e R s m args below meth c H locs cells slots Q (F0 m pc ls (.ref (H0.size + a) :: rest)) := pm_getR (k := 14) E hI ha rfl (by decide) (by decide) rfl (by decide) iX10 kl_X10_54 hdg hq kk
theorem pf_X10_54 (E : pm_E G p s m args meth c cc nL RX10) (hI : pm_I G H0 M H locs) (ha : pm_is M a 9) (hdg : decode cc pc = .ok (.putfield 54, 3)) (hnm : meth.name = "<init>") (hb : pm_is M b 12) (kk : ∀ (H1 : Heap) (locs1 : List Loc) (M1 : pm_M), M1 = sR M a 14 (some b) → pm_X M M1 → pm_I G H0 M1 H1 locs1 → W p l e R s m args below meth c H1 locs1 cells slots Q (F0 m (pc + 3) ls rest)) : W p l e R s m args below meth c H locs cells slots Q (F0 m pc ls (.ref (H0.size + b) :: .ref (H0.size + a) :: rest)) := pm_putR (ty := tyX10 14) (k := 14) E hI ha rfl (by decide) (by decide) rfl (by decide) iX10 tyX10_ok nmX10 kl_X10_54 (by decide +kernel) rfl rfl (Or.inr ⟨rfl, rfl, hnm⟩) hb hdg (fun H1 locs1 h => kk H1 locs1 _ rfl pm_Xr h)
theorem gf_X10_57 (E : pm_E G p s m args meth c cc nL RX10) (hI : pm_I G H0 M H locs) (ha : pm_is M a 9) (hdg : decode cc pc = .ok (.getfield 57, 3)) (hq : mR M a 18 = some b) (kk : pm_is M b 11 → W p l e R s m args below meth c H locs cells slots Q (F0 m (pc + 3) ls (.ref (H0.size + b) :: rest))) : W p l e R s m args below meth c H locs cells slots Q (F0 m pc ls (.ref (H0.size + a) :: rest)) := pm_getR (k := 18) E hI ha rfl (by decide) (by decide) rfl (by decide) iX10 kl_X10_57 hdg hq kk
theorem pf_X10_57 (E : pm_E G p s m args meth c cc nL RX10) (hI : pm_I G H0 M H locs) (ha : pm_is M a 9) (hdg : decode cc pc = .ok (.putfield 57, 3)) (hnm : meth.name = "<init>") (hb : pm_is M b 11) (kk : ∀ (H1 : Heap) (locs1 : List Loc) (M1 : pm_M), M1 = sR M a 18 (some b) → pm_X M M1 → pm_I G H0 M1 H1 locs1 → W p l e R s m args below meth c H1 locs1 cells slots Q (F0 m (pc + 3) ls rest)) : W p l e R s m args below meth c H locs cells slots Q (F0 m pc ls (.ref (H0.size + b) :: .ref (H0.size + a) :: rest)) := pm_putR (ty := tyX10 18) (k := 18) E hI ha rfl (by decide) (by decide) rfl (by decide) iX10 tyX10_ok nmX10 kl_X10_57 (by decide +kernel) rfl rfl (Or.inr ⟨rfl, rfl, hnm⟩) hb hdg (fun H1 locs1 h => kk H1 locs1 _ rfl pm_Xr h)
theorem gf_X10_60 (E : pm_E G p s m args meth c cc nL RX10) (hI : pm_I G H0 M H locs) (ha : pm_is M a 9) (hdg : decode cc pc = .ok (.getfield 60, 3)) (hq : mR M a 19 = some b) (kk : pm_is M b 11 → W p l e R s m args below meth c H locs cells slots Q (F0 m (pc + 3) ls (.ref (H0.size + b) :: rest))) : W p l e R s m args below meth c H locs cells slots Q (F0 m pc ls (.ref (H0.size + a) :: rest)) := pm_getR (k := 19) E hI ha rfl (by decide) (by decide) rfl (by decide) iX10 kl_X10_60 hdg hq kk
theorem pf_X10_60 (E : pm_E G p s m args meth c cc nL RX10) (hI : pm_I G H0 M H locs) (ha : pm_is M a 9) (hdg : decode cc pc = .ok (.putfield 60, 3)) (hnm : meth.name = "<init>") (hb : pm_is M b 11) (kk : ∀ (H1 : Heap) (locs1 : List Loc) (M1 : pm_M), M1 = sR M a 19 (some b) → pm_X M M1 → pm_I G H0 M1 H1 locs1 → W p l e R s m args below meth c H1 locs1 cells slots Q (F0 m (pc + 3) ls rest)) : W p l e R s m args below meth c H locs cells slots Q (F0 m pc ls (.ref (H0.size + b) :: .ref (H0.size + a) :: rest)) := pm_putR (ty := tyX10 19) (k := 19) E hI ha rfl (by decide) (by decide) rfl (by decide) iX10 tyX10_ok nmX10 kl_X10_60 (by decide +kernel) rfl rfl (Or.inr ⟨rfl, rfl, hnm⟩) hb hdg (fun H1 locs1 h => kk H1 locs1 _ rfl pm_Xr h)
theorem gf_X10_63 (E : pm_E G p s m args meth c cc nL RX10) (hI : pm_I G H0 M H locs) (ha : pm_is M a 9) (hdg : decode cc pc = .ok (.getfield 63, 3)) (hq : mR M a 20 = some b) (kk : pm_is M b 11 → W p l e R s m args below meth c H locs cells slots Q (F0 m (pc + 3) ls (.ref (H0.size + b) :: rest))) : W p l e R s m args below meth c H locs cells slots Q (F0 m pc ls (.ref (H0.size + a) :: rest)) := pm_getR (k := 20) E hI ha rfl (by decide) (by decide) rfl (by decide) iX10 kl_X10_63 hdg hq kk
theorem pf_X10_63 (E : pm_E G p s m args meth c cc nL RX10) (hI : pm_I G H0 M H locs) (ha : pm_is M a 9) (hdg : decode cc pc = .ok (.putfield 63, 3)) (hnm : meth.name = "<init>") (hb : pm_is M b 11) (kk : ∀ (H1 : Heap) (locs1 : List Loc) (M1 : pm_M), M1 = sR M a 20 (some b) → pm_X M M1 → pm_I G H0 M1 H1 locs1 → W p l e R s m args below meth c H1 locs1 cells slots Q (F0 m (pc + 3) ls rest)) : W p l e R s m args below meth c H locs cells slots Q (F0 m pc ls (.ref (H0.size + b) :: .ref (H0.size + a) :: rest)) := pm_putR (ty := tyX10 20) (k := 20) E hI ha rfl (by decide) (by decide) rfl (by decide) iX10 tyX10_ok nmX10 kl_X10_63 (by decide +kernel) rfl rfl (Or.inr ⟨rfl, rfl, hnm⟩) hb hdg (fun H1 locs1 h => kk H1 locs1 _ rfl pm_Xr h)
theorem gf_X10_66 (E : pm_E G p s m args meth c cc nL RX10) (hI : pm_I G H0 M H locs) (ha : pm_is M a 9) (hdg : decode cc pc = .ok (.getfield 66, 3)) (hq : mR M a 21 = some b) (kk : pm_is M b 11 → W p l e R s m args below meth c H locs cells slots Q (F0 m (pc + 3) ls (.ref (H0.size + b) :: rest))) : W p l e R s m args below meth c H locs cells slots Q (F0 m pc ls (.ref (H0.size + a) :: rest)) := pm_getR (k := 21) E hI ha rfl (by decide) (by decide) rfl (by decide) iX10 kl_X10_66 hdg hq kk
theorem pf_X10_66 (E : pm_E G p s m args meth c cc nL RX10) (hI : pm_I G H0 M H locs) (ha : pm_is M a 9) (hdg : decode cc pc = .ok (.putfield 66, 3)) (hnm : meth.name = "<init>") (hb : pm_is M b 11) (kk : ∀ (H1 : Heap) (locs1 : List Loc) (M1 : pm_M), M1 = sR M a 21 (some b) → pm_X M M1 → pm_I G H0 M1 H1 locs1 → W p l e R s m args below meth c H1 locs1 cells slots Q (F0 m (pc + 3) ls rest)) : W p l e R s m args below meth c H locs cells slots Q (F0 m pc ls (.ref (H0.size + b) :: .ref (H0.size + a) :: rest)) := pm_putR (ty := tyX10 21) (k := 21) E hI ha rfl (by decide) (by decide) rfl (by decide) iX10 tyX10_ok nmX10 kl_X10_66 (by decide +kernel) rfl rfl (Or.inr ⟨rfl, rfl, hnm⟩) hb hdg (fun H1 locs1 h => kk H1 locs1 _ rfl pm_Xr h)
theorem gf_X10_69 (E : pm_E G p s m args meth c cc nL RX10) (hI : pm_I G H0 M H locs) (ha : pm_is M a 9) (hdg : decode cc pc = .ok (.getfield 69, 3)) (hq : mR M a 22 = some b) (kk : pm_is M b 11 → W p l e R s m args below meth c H locs cells slots Q (F0 m (pc + 3) ls (.ref (H0.size + b) :: rest))) : W p l e R s m args below meth c H locs cells slots Q (F0 m pc ls (.ref (H0.size + a) :: rest)) := pm_getR (k := 22) E hI ha rfl (by decide) (by decide) rfl (by decide) iX10 kl_X10_69 hdg hq kk
theorem pf_X10_69 (E : pm_E G p s m args meth c cc nL RX10) (hI : pm_I G H0 M H locs) (ha : pm_is M a 9) (hdg : decode cc pc = .ok (.putfield 69, 3)) (hnm : meth.name = "<init>") (hb : pm_is M b 11) (kk : ∀ (H1 : Heap) (locs1 : List Loc) (M1 : pm_M), M1 = sR M a 22 (some b) → pm_X M M1 → pm_I G H0 M1 H1 locs1 → W p l e R s m args below meth c H1 locs1 cells slots Q (F0 m (pc + 3) ls rest)) : W p l e R s m args below meth c H locs cells slots Q (F0 m pc ls (.ref (H0.size + b) :: .ref (H0.size + a) :: rest)) := pm_putR (ty := tyX10 22) (k := 22) E hI ha rfl (by decide) (by decide) rfl (by decide) iX10 tyX10_ok nmX10 kl_X10_69 (by decide +kernel) rfl rfl (Or.inr ⟨rfl, rfl, hnm⟩) hb hdg (fun H1 locs1 h => kk H1 locs1 _ rfl pm_Xr h)
theorem gf_X10_72 (E : pm_E G p s m args meth c cc nL RX10) (hI : pm_I G H0 M H locs) (ha : pm_is M a 9) (hdg : decode cc pc = .ok (.getfield 72, 3)) (hq : mR M a 23 = some b) (kk : pm_is M b 10 → W p l e R s m args below meth c H locs cells slots Q (F0 m (pc + 3) ls (.ref (H0.size + b) :: rest))) : W p l e R s m args below meth c H locs cells slots Q (F0 m pc ls (.ref (H0.size + a) :: rest)) := pm_getR (k := 23) E hI ha rfl (by decide) (by decide) rfl (by decide) iX10 kl_X10_72 hdg hq kk
theorem pf_X10_72 (E : pm_E G p s m args meth c cc nL RX10) (hI : pm_I G H0 M H locs) (ha : pm_is M a 9) (hdg : decode cc pc = .ok (.putfield 72, 3)) (hnm : meth.name = "<init>") (hb : pm_is M b 10) (kk : ∀ (H1 : Heap) (locs1 : List Loc) (M1 : pm_M), M1 = sR M a 23 (some b) → pm_X M M1 → pm_I G H0 M1 H1 locs1 → W p l e R s m args below meth c H1 locs1 cells slots Q (F0 m (pc + 3) ls rest)) : W p l e R s m args below meth c H locs cells slots Q (F0 m pc ls (.ref (H0.size + b) :: .ref (H0.size + a) :: rest)) := pm_putR (ty := tyX10 23) (k := 23) E hI ha rfl (by decide) (by decide) rfl (by decide) iX10 tyX10_ok nmX10 kl_X10_72 (by decide +kernel) rfl rfl (Or.inr ⟨rfl, rfl, hnm⟩) hb hdg (fun H1 locs1 h => kk H1 locs1 _ rfl pm_Xr h)
theorem gf_X10_75 (E : pm_E G p s m args meth c cc nL RX10) (hI : pm_I G H0 M H locs) (ha : pm_is M a 9) (hdg : decode cc pc = .ok (.getfield 75, 3)) (hq : mR M a 24 = some b) (kk : pm_is M b 11 → W p l e R s m args below meth c H locs cells slots Q (F0 m (pc + 3) ls (.ref (H0.size + b) :: rest))) : W p l e R s m args below meth c H locs cells slots Q (F0 m pc ls (.ref (H0.size + a) :: rest)) := pm_getR (k := 24) E hI ha rfl (by decide) (by decide) rfl (by decide) iX10 kl_X10_75 hdg hq kk
theorem pf_X10_75 (E : pm_E G p s m args meth c cc nL RX10) (hI : pm_I G H0 M H locs) (ha : pm_is M a 9) (hdg : decode cc pc = .ok (.putfield 75, 3)) (hnm : meth.name = "<init>") (hb : pm_is M b 11) (kk : ∀ (H1 : Heap) (locs1 : List Loc) (M1 : pm_M), M1 = sR M a 24 (some b) → pm_X M M1 → pm_I G H0 M1 H1 locs1 → W p l e R s m args below meth c H1 locs1 cells slots Q (F0 m (pc + 3) ls rest)) : W p l e R s m args below meth c H locs cells slots Q (F0 m pc ls (.ref (H0.size + b) :: .ref (H0.size + a) :: rest)) := pm_putR (ty := tyX10 24) (k := 24) E hI ha rfl (by decide) (by decide) rfl (by decide) iX10 tyX10_ok nmX10 kl_X10_75 (by decide +kernel) rfl rfl (Or.inr ⟨rfl, rfl, hnm⟩) hb hdg (fun H1 locs1 h => kk H1 locs1 _ rfl pm_Xr h)
theorem gf_X10_78 (E : pm_E G p s m args meth c cc nL RX10) (hI : pm_I G H0 M H locs) (ha : pm_is M a 9) (hdg : decode cc pc = .ok (.getfield 78, 3)) (hq : mR M a 25 = some b) (kk : pm_is M b 11 → W p l e R s m args below meth c H locs cells slots Q (F0 m (pc + 3) ls (.ref (H0.size + b) :: rest))) : W p l e R s m args below meth c H locs cells slots Q (F0 m pc ls (.ref (H0.size + a) :: rest)) := pm_getR (k := 25) E hI ha rfl (by decide) (by decide) rfl (by decide) iX10 kl_X10_78 hdg hq kk
theorem pf_X10_78 (E : pm_E G p s m args meth c cc nL RX10) (hI : pm_I G H0 M H locs) (ha : pm_is M a 9) (hdg : decode cc pc = .ok (.putfield 78, 3)) (hnm : meth.name = "<init>") (hb : pm_is M b 11) (kk : ∀ (H1 : Heap) (locs1 : List Loc) (M1 : pm_M), M1 = sR M a 25 (some b) → pm_X M M1 → pm_I G H0 M1 H1 locs1 → W p l e R s m args below meth c H1 locs1 cells slots Q (F0 m (pc + 3) ls rest)) : W p l e R s m args below meth c H locs cells slots Q (F0 m pc ls (.ref (H0.size + b) :: .ref (H0.size + a) :: rest)) := pm_putR (ty := tyX10 25) (k := 25) E hI ha rfl (by decide) (by decide) rfl (by decide) iX10 tyX10_ok nmX10 kl_X10_78 (by decide +kernel) rfl rfl (Or.inr ⟨rfl, rfl, hnm⟩) hb hdg (fun H1 locs1 h => kk H1 locs1 _ rfl pm_Xr h)
theorem gf_X10_85 (E : pm_E G p s m args meth c cc nL RX10) (hI : pm_I G H0 M H locs) (ha : pm_is M a 9) (hdg : decode cc pc = .ok (.getfield 85, 3)) (kk : W p l e R s m args below meth c H locs cells slots Q (F0 m (pc + 3) ls (.int (mI M a 3) :: rest))) : W p l e R s m args below meth c H locs cells slots Q (F0 m pc ls (.ref (H0.size + a) :: rest)) := pm_getI (k := 3) E hI ha rfl (by decide) (by decide) rfl rfl iX10 kl_X10_85 hdg kk
theorem pf_X10_85 (E : pm_E G p s m args meth c cc nL RX10) (hI : pm_I G H0 M H locs) (ha : pm_is M a 9) (hdg : decode cc pc = .ok (.putfield 85, 3)) (kk : ∀ (H1 : Heap) (locs1 : List Loc) (M1 : pm_M), M1 = sI M a 3 v → pm_X M M1 → pm_I G H0 M1 H1 locs1 → W p l e R s m args below meth c H1 locs1 cells slots Q (F0 m (pc + 3) ls rest)) : W p l e R s m args below meth c H locs cells slots Q (F0 m pc ls (.int v :: .ref (H0.size + a) :: rest)) := pm_putI (k := 3) E hI ha rfl (by decide) (by decide) rfl rfl iX10 tyX10_ok nmX10 kl_X10_85 (by decide +kernel) (Or.inl rfl) hdg (fun H1 locs1 h => kk H1 locs1 _ rfl pm_Xi h)
theorem gf_X10_116 (E : pm_E G p s m args meth c cc nL RX10) (hI : pm_I G H0 M H locs) (ha : pm_is M a 9) (hdg : decode cc pc = .ok (.getfield 116, 3)) (kk : W p l e R s m args below meth c H locs cells slots Q (F0 m (pc + 3) ls (.int (mI M a 17) :: rest))) : W p l e R s m args below meth c H locs cells slots Q (F0 m pc ls (.ref (H0.size + a) :: rest)) := pm_getI (k := 17) E hI ha rfl (by decide) (by decide) rfl rfl iX10 kl_X10_116 hdg kk
theorem pf_X10_116 (E : pm_E G p s m args meth c cc nL RX10) (hI : pm_I G H0 M H locs) (ha : pm_is M a 9) (hdg : decode cc pc = .ok (.putfield 116, 3)) (kk : ∀ (H1 : Heap) (locs1 : List Loc) (M1 : pm_M), M1 = sI M a 17 v → pm_X M M1 → pm_I G H0 M1 H1 locs1 → W p l e R s m args below meth c H1 locs1 cells slots Q (F0 m (pc + 3) ls rest)) : W p l e R s m args below meth c H locs cells slots Q (F0 m pc ls (.int v :: .ref (H0.size + a) :: rest)) := pm_putI (k := 17) E hI ha rfl (by decide) (by decide) rfl rfl iX10 tyX10_ok nmX10 kl_X10_116 (by decide +kernel) (Or.inl rfl) hdg (fun H1 locs1 h => kk H1 locs1 _ rfl pm_Xi h)
theorem gf_X10_119 (E : pm_E G p s m args meth c cc nL RX10) (hI : pm_I G H0 M H locs) (ha : pm_is M a 9) (hdg : decode cc pc = .ok (.getfield 119, 3)) (kk : W p l e R s m args below meth c H locs cells slots Q (F0 m (pc + 3) ls (.int (mI M a 16) :: rest))) : W p l e R s m args below meth c H locs cells slots Q (F0 m pc ls (.ref (H0.size + a) :: rest)) := pm_getI (k := 16) E hI ha rfl (by decide) (by decide) rfl rfl iX10 kl_X10_119 hdg kk
theorem pf_X10_119 (E : pm_E G p s m args meth c cc nL RX10) (hI : pm_I G H0 M H locs) (ha : pm_is M a 9) (hdg : decode cc pc = .ok (.putfield 119, 3)) (kk : ∀ (H1 : Heap) (locs1 : List Loc) (M1 : pm_M), M1 = sI M a 16 v → pm_X M M1 → pm_I G H0 M1 H1 locs1 → W p l e R s m args below meth c H1 locs1 cells slots Q (F0 m (pc + 3) ls rest)) : W p l e R s m args below meth c H locs cells slots Q (F0 m pc ls (.int v :: .ref (H0.size + a) :: rest)) := pm_putI (k := 16) E hI ha rfl (by decide) (by decide) rfl rfl iX10 tyX10_ok nmX10 kl_X10_119 (by decide +kernel) (Or.inl rfl) hdg (fun H1 locs1 h => kk H1 locs1 _ rfl pm_Xi h)
theorem gf_X10_122 (E : pm_E G p s m args meth c cc nL RX10) (hI : pm_I G H0 M H locs) (ha : pm_is M a 9) (hdg : decode cc pc = .ok (.getfield 122, 3)) (kk : W p l e R s m args below meth c H locs cells slots Q (F0 m (pc + 3) ls (.int (mI M a 15) :: rest))) : W p l e R s m args below meth c H locs cells slots Q (F0 m pc ls (.ref (H0.size + a) :: rest)) := pm_getI (k := 15) E hI ha rfl (by decide) (by decide) rfl rfl iX10 kl_X10_122 hdg kk
theorem pf_X10_122 (E : pm_E G p s m args meth c cc nL RX10) (hI : pm_I G H0 M H locs) (ha : pm_is M a 9) (hdg : decode cc pc = .ok (.putfield 122, 3)) (kk : ∀ (H1 : Heap) (locs1 : List Loc) (M1 : pm_M), M1 = sI M a 15 v → pm_X M M1 → pm_I G H0 M1 H1 locs1 → W p l e R s m args below meth c H1 locs1 cells slots Q (F0 m (pc + 3) ls rest)) : W p l e R s m args below meth c H locs cells slots Q (F0 m pc ls (.int v :: .ref (H0.size + a) :: rest)) := pm_putI (k := 15) E hI ha rfl (by decide) (by decide) rfl rfl iX10 tyX10_ok nmX10 kl_X10_122 (by decide +kernel) (Or.inl rfl) hdg (fun H1 locs1 h => kk H1 locs1 _ rfl pm_Xi h)
theorem gf_X2_9 (E : pm_E G p s m args meth c cc nL RX2) (hI : pm_I G H0 M H locs) (ha : pm_is M a 1) (hdg : decode cc pc = .ok (.getfield 9, 3)) (kk : W p l e R s m args below meth c H locs cells slots Q (F0 m (pc + 3) ls (.int (mI M a 0) :: rest))) : W p l e R s m args below meth c H locs cells slots Q (F0 m pc ls (.ref (H0.size + a) :: rest)) := pm_getI (k := 0) E hI ha rfl (by decide) (by decide) rfl rfl iX2 kl_X2_9 hdg kk
theorem pf_X2_9 (E : pm_E G p s m args meth c cc nL RX2) (hI : pm_I G H0 M H locs) (ha : pm_is M a 1) (hdg : decode cc pc = .ok (.putfield 9, 3)) (hnm : meth.name = "<init>") (kk : ∀ (H1 : Heap) (locs1 : List Loc) (M1 : pm_M), M1 = sI M a 0 v → pm_X M M1 → pm_I G H0 M1 H1 locs1 → W p l e R s m args below meth c H1 locs1 cells slots Q (F0 m (pc + 3) ls rest)) : W p l e R s m args below meth c H locs cells slots Q (F0 m pc ls (.int v :: .ref (H0.size + a) :: rest)) := pm_putI (k := 0) E hI ha rfl (by decide) (by decide) rfl rfl iX2 tyX2_ok nmX2 kl_X2_9 (by decide +kernel) (Or.inr ⟨rfl, rfl, hnm⟩) hdg (fun H1 locs1 h => kk H1 locs1 _ rfl pm_Xi h)
theorem gf_X2_15 (E : pm_E G p s m args meth c cc nL RX2) (hI : pm_I G H0 M H locs) (ha : pm_is M a 1) (hdg : decode cc pc = .ok (.getfield 15, 3)) (hq : mR M a 1 = some b) (kk : pm_is M b 4 → W p l e R s m args below meth c H locs cells slots Q (F0 m (pc + 3) ls (.ref (H0.size + b) :: rest))) : W p l e R s m args below meth c H locs cells slots Q (F0 m pc ls (.ref (H0.size + a) :: rest)) := pm_getR (k := 1) E hI ha rfl (by decide) (by decide) rfl (by decide) iX2 kl_X2_15 hdg hq kk
theorem pf_X2_15 (E : pm_E G p s m args meth c cc nL RX2) (hI : pm_I G H0 M H locs) (ha : pm_is M a 1) (hdg : decode cc pc = .ok (.putfield 15, 3)) (hnm : meth.name = "<init>") (hb : pm_is M b 4) (kk : ∀ (H1 : Heap) (locs1 : List Loc) (M1 : pm_M), M1 = sR M a 1 (some b) → pm_X M M1 → pm_I G H0 M1 H1 locs1 → W p l e R s m args below meth c H1 locs1 cells slots Q (F0 m (pc + 3) ls rest)) : W p l e R s m args below meth c H locs cells slots Q (F0 m pc ls (.ref (H0.size + b) :: .ref (H0.size + a) :: rest)) := pm_putR (ty := tyX2 1) (k := 1) E hI ha rfl (by decide) (by decide) rfl (by decide) iX2 tyX2_ok nmX2 kl_X2_15 (by decide +kernel) rfl rfl (Or.inr ⟨rfl, rfl, hnm⟩) hb hdg (fun H1 locs1 h => kk H1 locs1 _ rfl pm_Xr h)
theorem gf_X2_19 (E : pm_E G p s m args meth c cc nL RX2) (hI : pm_I G H0 M H locs) (ha : pm_is M a 1) (hdg : decode cc pc = .ok (.getfield 19, 3)) (hq : mR M a 2 = some b) (kk : pm_is M b 4 → W p l e R s m args below meth c H locs cells slots Q (F0 m (pc + 3) ls (.ref (H0.size + b) :: rest))) : W p l e R s m args below meth c H locs cells slots Q (F0 m pc ls (.ref (H0.size + a) :: rest)) := pm_getR (k := 2) E hI ha rfl (by decide) (by decide) rfl (by decide) iX2 kl_X2_19 hdg hq kk
theorem pf_X2_19 (E : pm_E G p s m args meth c cc nL RX2) (hI : pm_I G H0 M H locs) (ha : pm_is M a 1) (hdg : decode cc pc = .ok (.putfield 19, 3)) (hnm : meth.name = "<init>") (hb : pm_is M b 4) (kk : ∀ (H1 : Heap) (locs1 : List Loc) (M1 : pm_M), M1 = sR M a 2 (some b) → pm_X M M1 → pm_I G H0 M1 H1 locs1 → W p l e R s m args below meth c H1 locs1 cells slots Q (F0 m (pc + 3) ls rest)) : W p l e R s m args below meth c H locs cells slots Q (F0 m pc ls (.ref (H0.size + b) :: .ref (H0.size + a) :: rest)) := pm_putR (ty := tyX2 2) (k := 2) E hI ha rfl (by decide) (by decide) rfl (by decide) iX2 tyX2_ok nmX2 kl_X2_19 (by decide +kernel) rfl rfl (Or.inr ⟨rfl, rfl, hnm⟩) hb hdg (fun H1 locs1 h => kk H1 locs1 _ rfl pm_Xr h)
theorem gf_X2_22 (E : pm_E G p s m args meth c cc nL RX2) (hI : pm_I G H0 M H locs) (ha : pm_is M a 1) (hdg : decode cc pc = .ok (.getfield 22, 3)) (kk : W p l e R s m args below meth c H locs cells slots Q (F0 m (pc + 3) ls (.int (mI M a 3) :: rest))) : W p l e R s m args below meth c H locs cells slots Q (F0 m pc ls (.ref (H0.size + a) :: rest)) := pm_getI (k := 3) E hI ha rfl (by decide) (by decide) rfl rfl iX2 kl_X2_22 hdg kk
theorem pf_X2_22 (E : pm_E G p s m args meth c cc nL RX2) (hI : pm_I G H0 M H locs) (ha : pm_is M a 1) (hdg : decode cc pc = .ok (.putfield 22, 3)) (hnm : meth.name = "<init>") (kk : ∀ (H1 : Heap) (locs1 : List Loc) (M1 : pm_M), M1 = sI M a 3 v → pm_X M M1 → pm_I G H0 M1 H1 locs1 → W p l e R s m args below meth c H1 locs1 cells slots Q (F0 m (pc + 3) ls rest)) : W p l e R s m args below meth c H locs cells slots Q (F0 m pc ls (.int v :: .ref (H0.size + a) :: rest)) := pm_putI (k := 3) E hI ha rfl (by decide) (by decide) rfl rfl iX2 tyX2_ok nmX2 kl_X2_22 (by decide +kernel) (Or.inr ⟨rfl, rfl, hnm⟩) hdg (fun H1 locs1 h => kk H1 locs1 _ rfl pm_Xi h)
theorem gf_X2_25 (E : pm_E G p s m args meth c cc nL RX2) (hI : pm_I G H0 M H locs) (ha : pm_is M a 1) (hdg : decode cc pc = .ok (.getfield 25, 3)) (kk : W p l e R s m args below meth c H locs cells slots Q (F0 m (pc + 3) ls (.int (mI M a 4) :: rest))) : W p l e R s m args below meth c H locs cells slots Q (F0 m pc ls (.ref (H0.size + a) :: rest)) := pm_getI (k := 4) E hI ha rfl (by decide) (by decide) rfl rfl iX2 kl_X2_25 hdg kk
theorem pf_X2_25 (E : pm_E G p s m args meth c cc nL RX2) (hI : pm_I G H0 M H locs) (ha : pm_is M a 1) (hdg : decode cc pc = .ok (.putfield 25, 3)) (hnm : meth.name = "<init>") (kk : ∀ (H1 : Heap) (locs1 : List Loc) (M1 : pm_M), M1 = sI M a 4 v → pm_X M M1 → pm_I G H0 M1 H1 locs1 → W p l e R s m args below meth c H1 locs1 cells slots Q (F0 m (pc + 3) ls rest)) : W p l e R s m args below meth c H locs cells slots Q (F0 m pc ls (.int v :: .ref (H0.size + a) :: rest)) := pm_putI (k := 4) E hI ha rfl (by decide) (by decide) rfl rfl iX2 tyX2_ok nmX2 kl_X2_25 (by decide +kernel) (Or.inr ⟨rfl, rfl, hnm⟩) hdg (fun H1 locs1 h => kk H1 locs1 _ rfl pm_Xi h)
theorem gf_X3_9 (E : pm_E G p s m args meth c cc nL RX3) (hI : pm_I G H0 M H locs) (ha : pm_is M a 2) (hdg : decode cc pc = .ok (.getfield 9, 3)) (hq : mR M a 0 = some b) (kk : pm_is M b 11 → W p l e R s m args below meth c H locs cells slots Q (F0 m (pc + 3) ls (.ref (H0.size + b) :: rest))) : W p l e R s m args below meth c H locs cells slots Q (F0 m pc ls (.ref (H0.size + a) :: rest)) := pm_getR (k := 0) E hI ha rfl (by decide) (by decide) rfl (by decide) iX3 kl_X3_9 hdg hq kk
theorem pf_X3_9 (E : pm_E G p s m args meth c cc nL RX3) (hI : pm_I G H0 M H locs) (ha : pm_is M a 2) (hdg : decode cc pc = .ok (.putfield 9, 3)) (hnm : meth.name = "<init>") (hb : pm_is M b 11) (kk : ∀ (H1 : Heap) (locs1 : List Loc) (M1 : pm_M), M1 = sR M a 0 (some b) → pm_X M M1 → pm_I G H0 M1 H1 locs1 → W p l e R s m args below meth c H1 locs1 cells slots Q (F0 m (pc + 3) ls rest)) : W p l e R s m args below meth c H locs cells slots Q (F0 m pc ls (.ref (H0.size + b) :: .ref (H0.size + a) :: rest)) := pm_putR (ty := tyX3 0) (k := 0) E hI ha rfl (by decide) (by decide) rfl (by decide) iX3 tyX3_ok nmX3 kl_X3_9 (by decide +kernel) rfl rfl (Or.inr ⟨rfl, rfl, hnm⟩) hb hdg (fun H1 locs1 h => kk H1 locs1 _ rfl pm_Xr h)
theorem gf_X3_15 (E : pm_E G p s m args meth c cc nL RX3) (hI : pm_I G H0 M H locs) (ha : pm_is M a 2) (hdg : decode cc pc = .ok (.getfield 15, 3)) (kk : W p l e R s m args below meth c H locs cells slots Q (F0 m (pc + 3) ls (.int (mI M a 1) :: rest))) : W p l e R s m args below meth c H locs cells slots Q (F0 m pc ls (.ref (H0.size + a) :: rest)) := pm_getI (k := 1) E hI ha rfl (by decide) (by decide) rfl rfl iX3 kl_X3_15 hdg kk
theorem pf_X3_15 (E : pm_E G p s m args meth c cc nL RX3) (hI : pm_I G H0 M H locs) (ha : pm_is M a 2) (hdg : decode cc pc = .ok (.putfield 15, 3)) (kk : ∀ (H1 : Heap) (locs1 : List Loc) (M1 : pm_M), M1 = sI M a 1 v → pm_X M M1 → pm_I G H0 M1 H1 locs1 → W p l e R s m args below meth c H1 locs1 cells slots Q (F0 m (pc + 3) ls rest)) : W p l e R s m args below meth c H locs cells slots Q (F0 m pc ls (.int v :: .ref (H0.size + a) :: rest)) := pm_putI (k := 1) E hI ha rfl (by decide) (by decide) rfl rfl iX3 tyX3_ok nmX3 kl_X3_15 (by decide +kernel) (Or.inl rfl) hdg (fun H1 locs1 h => kk H1 locs1 _ rfl pm_Xi h)
theorem gf_X4_9 (E : pm_E G p s m args meth c cc nL RX4) (hI : pm_I G H0 M H locs) (ha : pm_is M a 3) (hdg : decode cc pc = .ok (.getfield 9, 3)) (hq : mR M a 0 = some b) (kk : pm_is M b 5 → W p l e R s m args below meth c H locs cells slots Q (F0 m (pc + 3) ls (.ref (H0.size + b) :: rest))) : W p l e R s m args below meth c H locs cells slots Q (F0 m pc ls (.ref (H0.size + a) :: rest)) := pm_getR (k := 0) E hI ha rfl (by decide) (by decide) rfl (by decide) iX4 kl_X4_9 hdg hq kk
theorem go_X4_9 (E : pm_E G p s m args meth c cc nL RX4) (hI : pm_I G H0 M H locs) (ha : pm_is M a 3) (hdg : decode cc pc = .ok (.getfield 9, 3)) (kk : ∀ x : Option Nat, x = mR M a 0 → (∀ b, x = some b → pm_is M b 5) → W p l e R s m args below meth c H locs cells slots Q (F0 m (pc + 3) ls (pm_rf H0.size x :: rest))) : W p l e R s m args below meth c H locs cells slots Q (F0 m pc ls (.ref (H0.size + a) :: rest)) := pm_getO (k := 0) E hI ha rfl (by decide) (by decide) rfl (by decide) iX4 kl_X4_9 hdg kk
theorem pf_X4_9 (E : pm_E G p s m args meth c cc nL RX4) (hI : pm_I G H0 M H locs) (ha : pm_is M a 3) (hdg : decode cc pc = .ok (.putfield 9, 3)) (hb : pm_is M b 5) (kk : ∀ (H1 : Heap) (locs1 : List Loc) (M1 : pm_M), M1 = sR M a 0 (some b) → pm_X M M1 → pm_I G H0 M1 H1 locs1 → W p l e R s m args below meth c H1 locs1 cells slots Q (F0 m (pc + 3) ls rest)) : W p l e R s m args below meth c H locs cells slots Q (F0 m pc ls (.ref (H0.size + b) :: .ref (H0.size + a) :: rest)) := pm_putR (ty := tyX4 0) (k := 0) E hI ha rfl (by decide) (by decide) rfl (by decide) iX4 tyX4_ok nmX4 kl_X4_9 (by decide +kernel) rfl rfl (Or.inl rfl) hb hdg (fun H1 locs1 h => kk H1 locs1 _ rfl pm_Xr h)
theorem gf_X4_15 (E : pm_E G p s m args meth c cc nL RX4) (hI : pm_I G H0 M H locs) (ha : pm_is M a 3) (hdg : decode cc pc = .ok (.getfield 15, 3)) (kk : W p l e R s m args below meth c H locs cells slots Q (F0 m (pc + 3) ls (.int (mI M a 1) :: rest))) : W p l e R s m args below meth c H locs cells slots Q (F0 m pc ls (.ref (H0.size + a) :: rest)) := pm_getI (k := 1) E hI ha rfl (by decide) (by decide) rfl rfl iX4 kl_X4_15 hdg kk
theorem pf_X4_15 (E : pm_E G p s m args meth c cc nL RX4) (hI : pm_I G H0 M H locs) (ha : pm_is M a 3) (hdg : decode cc pc = .ok (.putfield 15, 3)) (kk : ∀ (H1 : Heap) (locs1 : List Loc) (M1 : pm_M), M1 = sI M a 1 v → pm_X M M1 → pm_I G H0 M1 H1 locs1 → W p l e R s m args below meth c H1 locs1 cells slots Q (F0 m (pc + 3) ls rest)) : W p l e R s m args below meth c H locs cells slots Q (F0 m pc ls (.int v :: .ref (H0.size + a) :: rest)) := pm_putI (k := 1) E hI ha rfl (by decide) (by decide) rfl rfl iX4 tyX4_ok nmX4 kl_X4_15 (by decide +kernel) (Or.inl rfl) hdg (fun H1 locs1 h => kk H1 locs1 _ rfl pm_Xi h)
theorem gf_X4_19 (E : pm_E G p s m args meth c cc nL RX4) (hI : pm_I G H0 M H locs) (ha : pm_is M a 3) (hdg : decode cc pc = .ok (.getfield 19, 3)) (kk : W p l e R s m args below meth c H locs cells slots Q (F0 m (pc + 3) ls (.int (mI M a 2) :: rest))) : W p l e R s m args below meth c H locs cells slots Q (F0 m pc ls (.ref (H0.size + a) :: rest)) := pm_getI (k := 2) E hI ha rfl (by decide) (by decide) rfl rfl iX4 kl_X4_19 hdg kk
theorem pf_X4_19 (E : pm_E G p s m args meth c cc nL RX4) (hI : pm_I G H0 M H locs) (ha : pm_is M a 3) (hdg : decode cc pc = .ok (.putfield 19, 3)) (kk : ∀ (H1 : Heap) (locs1 : List Loc) (M1 : pm_M), M1 = sI M a 2 v → pm_X M M1 → pm_I G H0 M1 H1 locs1 → W p l e R s m args below meth c H1 locs1 cells slots Q (F0 m (pc + 3) ls rest)) : W p l e R s m args below meth c H locs cells slots Q (F0 m pc ls (.int v :: .ref (H0.size + a) :: rest)) := pm_putI (k := 2) E hI ha rfl (by decide) (by decide) rfl rfl iX4 tyX4_ok nmX4 kl_X4_19 (by decide +kernel) (Or.inl rfl) hdg (fun H1 locs1 h => kk H1 locs1 _ rfl pm_Xi h)
theorem gf_X5_7 (E : pm_E G p s m args meth c cc nL RX5) (hI : pm_I G H0 M H locs) (ha : pm_is M a 4) (hdg : decode cc pc = .ok (.getfield 7, 3)) (hq : mR M a 4 = some b) (kk : pm_is M b 10 → W p l e R s m args below meth c H locs cells slots Q (F0 m (pc + 3) ls (.ref (H0.size + b) :: rest))) : W p l e R s m args below meth c H locs cells slots Q (F0 m pc ls (.ref (H0.size + a) :: rest)) := pm_getR (k := 4) E hI ha rfl (by decide) (by decide) rfl (by decide) iX5 kl_X5_7 hdg hq kk
theorem pf_X5_7 (E : pm_E G p s m args meth c cc nL RX5) (hI : pm_I G H0 M H locs) (ha : pm_is M a 4) (hdg : decode cc pc = .ok (.putfield 7, 3)) (hb : pm_is M b 10) (kk : ∀ (H1 : Heap) (locs1 : List Loc) (M1 : pm_M), M1 = sR M a 4 (some b) → pm_X M M1 → pm_I G H0 M1 H1 locs1 → W p l e R s m args below meth c H1 locs1 cells slots Q (F0 m (pc + 3) ls rest)) : W p l e R s m args below meth c H locs cells slots Q (F0 m pc ls (.ref (H0.size + b) :: .ref (H0.size + a) :: rest)) := pm_putR (ty := tyX5 4) (k := 4) E hI ha rfl (by decide) (by decide) rfl (by decide) iX5 tyX5_ok nmX5 kl_X5_7 (by decide +kernel) rfl rfl (Or.inl rfl) hb hdg (fun H1 locs1 h => kk H1 locs1 _ rfl pm_Xr h)
theorem gf_X6_9 (E : pm_E G p s m args meth c cc nL RX6) (hI : pm_I G H0 M H locs) (ha : pm_is M a 5) (hdg : decode cc pc = .ok (.getfield 9, 3)) (hq : mR M a 0 = some b) (kk : pm_is M b 12 → W p l e R s m args below meth c H locs cells slots Q (F0 m (pc + 3) ls (.ref (H0.size + b) :: rest))) : W p l e R s m args below meth c H locs cells slots Q (F0 m pc ls (.ref (H0.size + a) :: rest)) := pm_getR (k := 0) E hI ha rfl (by decide) (by decide) rfl (by decide) iX6 kl_X6_9 hdg hq kk
theorem pf_X6_9 (E : pm_E G p s m args meth c cc nL RX6) (hI : pm_I G H0 M H locs) (ha : pm_is M a 5) (hdg : decode cc pc = .ok (.putfield 9, 3)) (hnm : meth.name = "<init>") (hb : pm_is M b 12) (kk : ∀ (H1 : Heap) (locs1 : List Loc) (M1 : pm_M), M1 = sR M a 0 (some b) → pm_X M M1 → pm_I G H0 M1 H1 locs1 → W p l e R s m args below meth c H1 locs1 cells slots Q (F0 m (pc + 3) ls rest)) : W p l e R s m args below meth c H locs cells slots Q (F0 m pc ls (.ref (H0.size + b) :: .ref (H0.size + a) :: rest)) := pm_putR (ty := tyX6 0) (k := 0) E hI ha rfl (by decide) (by decide) rfl (by decide) iX6 tyX6_ok nmX6 kl_X6_9 (by decide +kernel) rfl rfl (Or.inr ⟨rfl, rfl, hnm⟩) hb hdg (fun H1 locs1 h => kk H1 locs1 _ rfl pm_Xr h)
theorem gf_X6_15 (E : pm_E G p s m args meth c cc nL RX6) (hI : pm_I G H0 M H locs) (ha : pm_is M a 5) (hdg : decode cc pc = .ok (.getfield 15, 3)) (kk : W p l e R s m args below meth c H locs cells slots Q (F0 m (pc + 3) ls (.int (mI M a 1) :: rest))) : W p l e R s m args below meth c H locs cells slots Q (F0 m pc ls (.ref (H0.size + a) :: rest)) := pm_getI (k := 1) E hI ha rfl (by decide) (by decide) rfl rfl iX6 kl_X6_15 hdg kk
theorem pf_X6_15 (E : pm_E G p s m args meth c cc nL RX6) (hI : pm_I G H0 M H locs) (ha : pm_is M a 5) (hdg : decode cc pc = .ok (.putfield 15, 3)) (kk : ∀ (H1 : Heap) (locs1 : List Loc) (M1 : pm_M), M1 = sI M a 1 v → pm_X M M1 → pm_I G H0 M1 H1 locs1 → W p l e R s m args below meth c H1 locs1 cells slots Q (F0 m (pc + 3) ls rest)) : W p l e R s m args below meth c H locs cells slots Q (F0 m pc ls (.int v :: .ref (H0.size + a) :: rest)) := pm_putI (k := 1) E hI ha rfl (by decide) (by decide) rfl rfl iX6 tyX6_ok nmX6 kl_X6_15 (by decide +kernel) (Or.inl rfl) hdg (fun H1 locs1 h => kk H1 locs1 _ rfl pm_Xi h)
theorem gf_X6_25 (E : pm_E G p s m args meth c cc nL RX6) (hI : pm_I G H0 M H locs) (ha : pm_is M a 5) (hdg : decode cc pc = .ok (.getfield 25, 3)) (kk : W p l e R s m args below meth c H locs cells slots Q (F0 m (pc + 3) ls (.int (mI M a 2) :: rest))) : W p l e R s m args below meth c H locs cells slots Q (F0 m pc ls (.ref (H0.size + a) :: rest)) := pm_getI (k := 2) E hI ha rfl (by decide) (by decide) rfl rfl iX6 kl_X6_25 hdg kk
theorem pf_X6_25 (E : pm_E G p s m args meth c cc nL RX6) (hI : pm_I G H0 M H locs) (ha : pm_is M a 5) (hdg : decode cc pc = .ok (.putfield 25, 3)) (kk : ∀ (H1 : Heap) (locs1 : List Loc) (M1 : pm_M), M1 = sI M a 2 v → pm_X M M1 → pm_I G H0 M1 H1 locs1 → W p l e R s m args below meth c H1 locs1 cells slots Q (F0 m (pc + 3) ls rest)) : W p l e R s m args below meth c H locs cells slots Q (F0 m pc ls (.int v :: .ref (H0.size + a) :: rest)) := pm_putI (k := 2) E hI ha rfl (by decide) (by decide) rfl rfl iX6 tyX6_ok nmX6 kl_X6_25 (by decide +kernel) (Or.inl rfl) hdg (fun H1 locs1 h => kk H1 locs1 _ rfl pm_Xi h)
theorem gf_X7_11 (E : pm_E G p s m args meth c cc nL RX7) (hI : pm_I G H0 M H locs) (ha : pm_is M a 6) (hdg : decode cc pc = .ok (.getfield 11, 3)) (hq : mR M a 0 = some b) (kk : pm_is M b 12 → W p l e R s m args below meth c H locs cells slots Q (F0 m (pc + 3) ls (.ref (H0.size + b) :: rest))) : W p l e R s m args below meth c H locs cells slots Q (F0 m pc ls (.ref (H0.size + a) :: rest)) := pm_getR (k := 0) E hI ha rfl (by decide) (by decide) rfl (by decide) iX7 kl_X7_11 hdg hq kk
theorem pf_X7_11 (E : pm_E G p s m args meth c cc nL RX7) (hI : pm_I G H0 M H locs) (ha : pm_is M a 6) (hdg : decode cc pc = .ok (.putfield 11, 3)) (hnm : meth.name = "<init>") (hb : pm_is M b 12) (kk : ∀ (H1 : Heap) (locs1 : List Loc) (M1 : pm_M), M1 = sR M a 0 (some b) → pm_X M M1 → pm_I G H0 M1 H1 locs1 → W p l e R s m args below meth c H1 locs1 cells slots Q (F0 m (pc + 3) ls rest)) : W p l e R s m args below meth c H locs cells slots Q (F0 m pc ls (.ref (H0.size + b) :: .ref (H0.size + a) :: rest)) := pm_putR (ty := tyX7 0) (k := 0) E hI ha rfl (by decide) (by decide) rfl (by decide) iX7 tyX7_ok nmX7 kl_X7_11 (by decide +kernel) rfl rfl (Or.inr ⟨rfl, rfl, hnm⟩) hb hdg (fun H1 locs1 h => kk H1 locs1 _ rfl pm_Xr h)
theorem gf_X7_15 (E : pm_E G p s m args meth c cc nL RX7) (hI : pm_I G H0 M H locs) (ha : pm_is M a 6) (hdg : decode cc pc = .ok (.getfield 15, 3)) (hq : mR M a 1 = some b) (kk : pm_is M b 11 → W p l e R s m args below meth c H locs cells slots Q (F0 m (pc + 3) ls (.ref (H0.size + b) :: rest))) : W p l e R s m args below meth c H locs cells slots Q (F0 m pc ls (.ref (H0.size + a) :: rest)) := pm_getR (k := 1) E hI ha rfl (by decide) (by decide) rfl (by decide) iX7 kl_X7_15 hdg hq kk
theorem pf_X7_15 (E : pm_E G p s m args meth c cc nL RX7) (hI : pm_I G H0 M H locs) (ha : pm_is M a 6) (hdg : decode cc pc = .ok (.putfield 15, 3)) (hnm : meth.name = "<init>") (hb : pm_is M b 11) (kk : ∀ (H1 : Heap) (locs1 : List Loc) (M1 : pm_M), M1 = sR M a 1 (some b) → pm_X M M1 → pm_I G H0 M1 H1 locs1 → W p l e R s m args below meth c H1 locs1 cells slots Q (F0 m (pc + 3) ls rest)) : W p l e R s m args below meth c H locs cells slots Q (F0 m pc ls (.ref (H0.size + b) :: .ref (H0.size + a) :: rest)) := pm_putR (ty := tyX7 1) (k := 1) E hI ha rfl (by decide) (by decide) rfl (by decide) iX7 tyX7_ok nmX7 kl_X7_15 (by decide +kernel) rfl rfl (Or.inr ⟨rfl, rfl, hnm⟩) hb hdg (fun H1 locs1 h => kk H1 locs1 _ rfl pm_Xr h)
theorem pf_X7_44 (E : pm_E G p s m args meth c cc nL RX7) (hI : pm_I G H0 M H locs) (ha : pm_is M a 6) (hdg : decode cc pc = .ok (.putfield 44, 3)) (kk : ∀ (H1 : Heap) (locs1 : List Loc) (M1 : pm_M), M1 = sI M a 3 v → pm_X M M1 → pm_I G H0 M1 H1 locs1 → W p l e R s m args below meth c H1 locs1 cells slots Q (F0 m (pc + 3) ls rest)) : W p l e R s m args below meth c H locs cells slots Q (F0 m pc ls (.int v :: .ref (H0.size + a) :: rest)) := pm_putI (k := 3) E hI ha rfl (by decide) (by decide) rfl rfl iX7 tyX7_ok nmX7 kl_X7_44 (by decide +kernel) (Or.inl rfl) hdg (fun H1 locs1 h => kk H1 locs1 _ rfl pm_Xi h)
theorem pf_X7_48 (E : pm_E G p s m args meth c cc nL RX7) (hI : pm_I G H0 M H locs) (ha : pm_is M a 6) (hdg : decode cc pc = .ok (.putfield 48, 3)) (kk : ∀ (H1 : Heap) (locs1 : List Loc) (M1 : pm_M), M1 = sI M a 4 v → pm_X M M1 → pm_I G H0 M1 H1 locs1 → W p l e R s m args below meth c H1 locs1 cells slots Q (F0 m (pc + 3) ls rest)) : W p l e R s m args below meth c H locs cells slots Q (F0 m pc ls (.int v :: .ref (H0.size + a) :: rest)) := pm_putI (k := 4) E hI ha rfl (by decide) (by decide) rfl rfl iX7 tyX7_ok nmX7 kl_X7_48 (by decide +kernel) (Or.inl rfl) hdg (fun H1 locs1 h => kk H1 locs1 _ rfl pm_Xi h)
theorem pf_X7_51 (E : pm_E G p s m args meth c cc nL RX7) (hI : pm_I G H0 M H locs) (ha : pm_is M a 6) (hdg : decode cc pc = .ok (.putfield 51, 3)) (kk : ∀ (H1 : Heap) (locs1 : List Loc) (M1 : pm_M), M1 = sI M a 5 v → pm_X M M1 → pm_I G H0 M1 H1 locs1 → W p l e R s m args below meth c H1 locs1 cells slots Q (F0 m (pc + 3) ls rest)) : W p l e R s m args below meth c H locs cells slots Q (F0 m pc ls (.int v :: .ref (H0.size + a) :: rest)) := pm_putI (k := 5) E hI ha rfl (by decide) (by decide) rfl rfl iX7 tyX7_ok nmX7 kl_X7_51 (by decide +kernel) (Or.inl rfl) hdg (fun H1 locs1 h => kk H1 locs1 _ rfl pm_Xi h)
theorem gf_X7_54 (E : pm_E G p s m args meth c cc nL RX7) (hI : pm_I G H0 M H locs) (ha : pm_is M a 6) (hdg : decode cc pc = .ok (.getfield 54, 3)) (kk : W p l e R s m args below meth c H locs cells slots Q (F0 m (pc + 3) ls (.int (mI M a 2) :: rest))) : W p l e R s m args below meth c H locs cells slots Q (F0 m pc ls (.ref (H0.size + a) :: rest)) := pm_getI (k := 2) E hI ha rfl (by decide) (by decide) rfl rfl iX7 kl_X7_54 hdg kk
theorem pf_X7_54 (E : pm_E G p s m args meth c cc nL RX7) (hI : pm_I G H0 M H locs) (ha : pm_is M a 6) (hdg : decode cc pc = .ok (.putfield 54, 3)) (kk : ∀ (H1 : Heap) (locs1 : List Loc) (M1 : pm_M), M1 = sI M a 2 v → pm_X M M1 → pm_I G H0 M1 H1 locs1 → W p l e R s m args below meth c H1 locs1 cells slots Q (F0 m (pc + 3) ls rest)) : W p l e R s m args below meth c H locs cells slots Q (F0 m pc ls (.int v :: .ref (H0.size + a) :: rest)) := pm_putI (k := 2) E hI ha rfl (by decide) (by decide) rfl rfl iX7 tyX7_ok nmX7 kl_X7_54 (by decide +kernel) (Or.inl rfl) hdg (fun H1 locs1 h => kk H1 locs1 _ rfl pm_Xi h)
theorem gf_X8_11 (E : pm_E G p s m args meth c cc nL RX8) (hI : pm_I G H0 M H locs) (ha : pm_is M a 7) (hdg : decode cc pc = .ok (.getfield 11, 3)) (hq : mR M a 0 = some b) (kk : pm_is M b 16 → W p l e R s m args below meth c H locs cells slots Q (F0 m (pc + 3) ls (.ref (H0.size + b) :: rest))) : W p l e R s m args below meth c H locs cells slots Q (F0 m pc ls (.ref (H0.size + a) :: rest)) := pm_getR (k := 0) E hI ha rfl (by decide) (by decide) rfl (by decide) iX8 kl_X8_11 hdg hq kk
theorem pf_X8_11 (E : pm_E G p s m args meth c cc nL RX8) (hI : pm_I G H0 M H locs) (ha : pm_is M a 7) (hdg : decode cc pc = .ok (.putfield 11, 3)) (hnm : meth.name = "<init>") (hb : pm_is M b 16) (kk : ∀ (H1 : Heap) (locs1 : List Loc) (M1 : pm_M), M1 = sR M a 0 (some b) → pm_X M M1 → pm_I G H0 M1 H1 locs1 → W p l e R s m args below meth c H1 locs1 cells slots Q (F0 m (pc + 3) ls rest)) : W p l e R s m args below meth c H locs cells slots Q (F0 m pc ls (.ref (H0.size + b) :: .ref (H0.size + a) :: rest)) := pm_putR (ty := tyX8 0) (k := 0) E hI ha rfl (by decide) (by decide) rfl (by decide) iX8 tyX8_ok nmX8 kl_X8_11 (by decide +kernel) rfl rfl (Or.inr ⟨rfl, rfl, hnm⟩) hb hdg (fun H1 locs1 h => kk H1 locs1 _ rfl pm_Xr h)
theorem gf_X8_16 (E : pm_E G p s m args meth c cc nL RX8) (hI : pm_I G H0 M H locs) (ha : pm_is M a 7) (hdg : decode cc pc = .ok (.getfield 16, 3)) (hq : mR M a 1 = some b) (kk : pm_is M b 16 → W p l e R s m args below meth c H locs cells slots Q (F0 m (pc + 3) ls (.ref (H0.size + b) :: rest))) : W p l e R s m args below meth c H locs cells slots Q (F0 m pc ls (.ref (H0.size + a) :: rest)) := pm_getR (k := 1) E hI ha rfl (by decide) (by decide) rfl (by decide) iX8 kl_X8_16 hdg hq kk
theorem pf_X8_16 (E : pm_E G p s m args meth c cc nL RX8) (hI : pm_I G H0 M H locs) (ha : pm_is M a 7) (hdg : decode cc pc = .ok (.putfield 16, 3)) (hnm : meth.name = "<init>") (hb : pm_is M b 16) (kk : ∀ (H1 : Heap) (locs1 : List Loc) (M1 : pm_M), M1 = sR M a 1 (some b) → pm_X M M1 → pm_I G H0 M1 H1 locs1 → W p l e R s m args below meth c H1 locs1 cells slots Q (F0 m (pc + 3) ls rest)) : W p l e R s m args below meth c H locs cells slots Q (F0 m pc ls (.ref (H0.size + b) :: .ref (H0.size + a) :: rest)) := pm_putR (ty := tyX8 1) (k := 1) E hI ha rfl (by decide) (by decide) rfl (by decide) iX8 tyX8_ok nmX8 kl_X8_16 (by decide +kernel) rfl rfl (Or.inr ⟨rfl, rfl, hnm⟩) hb hdg (fun H1 locs1 h => kk H1 locs1 _ rfl pm_Xr h)
theorem gf_X8_19 (E : pm_E G p s m args meth c cc nL RX8) (hI : pm_I G H0 M H locs) (ha : pm_is M a 7) (hdg : decode cc pc = .ok (.getfield 19, 3)) (hq : mR M a 2 = some b) (kk : pm_is M b 11 → W p l e R s m args below meth c H locs cells slots Q (F0 m (pc + 3) ls (.ref (H0.size + b) :: rest))) : W p l e R s m args below meth c H locs cells slots Q (F0 m pc ls (.ref (H0.size + a) :: rest)) := pm_getR (k := 2) E hI ha rfl (by decide) (by decide) rfl (by decide) iX8 kl_X8_19 hdg hq kk
theorem pf_X8_19 (E : pm_E G p s m args meth c cc nL RX8) (hI : pm_I G H0 M H locs) (ha : pm_is M a 7) (hdg : decode cc pc = .ok (.putfield 19, 3)) (hnm : meth.name = "<init>") (hb : pm_is M b 11) (kk : ∀ (H1 : Heap) (locs1 : List Loc) (M1 : pm_M), M1 = sR M a 2 (some b) → pm_X M M1 → pm_I G H0 M1 H1 locs1 → W p l e R s m args below meth c H1 locs1 cells slots Q (F0 m (pc + 3) ls rest)) : W p l e R s m args below meth c H locs cells slots Q (F0 m pc ls (.ref (H0.size + b) :: .ref (H0.size + a) :: rest)) := pm_putR (ty := tyX8 2) (k := 2) E hI ha rfl (by decide) (by decide) rfl (by decide) iX8 tyX8_ok nmX8 kl_X8_19 (by decide +kernel) rfl rfl (Or.inr ⟨rfl, rfl, hnm⟩) hb hdg (fun H1 locs1 h => kk H1 locs1 _ rfl pm_Xr h)
theorem gf_X8_23 (E : pm_E G p s m args meth c cc nL RX8) (hI : pm_I G H0 M H locs) (ha : pm_is M a 7) (hdg : decode cc pc = .ok (.getfield 23, 3)) (kk : W p l e R s m args below meth c H locs cells slots Q (F0 m (pc + 3) ls (.int (mI M a 3) :: rest))) : W p l e R s m args below meth c H locs cells slots Q (F0 m pc ls (.ref (H0.size + a) :: rest)) := pm_getI (k := 3) E hI ha rfl (by decide) (by decide) rfl rfl iX8 kl_X8_23 hdg kk
theorem pf_X8_23 (E : pm_E G p s m args meth c cc nL RX8) (hI : pm_I G H0 M H locs) (ha : pm_is M a 7) (hdg : decode cc pc = .ok (.putfield 23, 3)) (kk : ∀ (H1 : Heap) (locs1 : List Loc) (M1 : pm_M), M1 = sI M a 3 v → pm_X M M1 → pm_I G H0 M1 H1 locs1 → W p l e R s m args below meth c H1 locs1 cells slots Q (F0 m (pc + 3) ls rest)) : W p l e R s m args below meth c H locs cells slots Q (F0 m pc ls (.int v :: .ref (H0.size + a) :: rest)) := pm_putI (k := 3) E hI ha rfl (by decide) (by decide) rfl rfl iX8 tyX8_ok nmX8 kl_X8_23 (by decide +kernel) (Or.inl rfl) hdg (fun H1 locs1 h => kk H1 locs1 _ rfl pm_Xi h)
theorem gf_X8_27 (E : pm_E G p s m args meth c cc nL RX8) (hI : pm_I G H0 M H locs) (ha : pm_is M a 7) (hdg : decode cc pc = .ok (.getfield 27, 3)) (kk : W p l e R s m args below meth c H locs cells slots Q (F0 m (pc + 3) ls (.int (mI M a 4) :: rest))) : W p l e R s m args below meth c H locs cells slots Q (F0 m pc ls (.ref (H0.size + a) :: rest)) := pm_getI (k := 4) E hI ha rfl (by decide) (by decide) rfl rfl iX8 kl_X8_27 hdg kk
theorem pf_X8_27 (E : pm_E G p s m args meth c cc nL RX8) (hI : pm_I G H0 M H locs) (ha : pm_is M a 7) (hdg : decode cc pc = .ok (.putfield 27, 3)) (kk : ∀ (H1 : Heap) (locs1 : List Loc) (M1 : pm_M), M1 = sI M a 4 v → pm_X M M1 → pm_I G H0 M1 H1 locs1 → W p l e R s m args below meth c H1 locs1 cells slots Q (F0 m (pc + 3) ls rest)) : W p l e R s m args below meth c H locs cells slots Q (F0 m pc ls (.int v :: .ref (H0.size + a) :: rest)) := pm_putI (k := 4) E hI ha rfl (by decide) (by decide) rfl rfl iX8 tyX8_ok nmX8 kl_X8_27 (by decide +kernel) (Or.inl rfl) hdg (fun H1 locs1 h => kk H1 locs1 _ rfl pm_Xi h)
theorem gf_X9_11 (E : pm_E G p s m args meth c cc nL RX9) (hI : pm_I G H0 M H locs) (ha : pm_is M a 8) (hdg : decode cc pc = .ok (.getfield 11, 3)) (hq : mR M a 0 = some b) (kk : pm_is M b 15 → W p l e R s m args below meth c H locs cells slots Q (F0 m (pc + 3) ls (.ref (H0.size + b) :: rest))) : W p l e R s m args below meth c H locs cells slots Q (F0 m pc ls (.ref (H0.size + a) :: rest)) := pm_getR (k := 0) E hI ha rfl (by decide) (by decide) rfl (by decide) iX9 kl_X9_11 hdg hq kk
theorem pf_X9_11 (E : pm_E G p s m args meth c cc nL RX9) (hI : pm_I G H0 M H locs) (ha : pm_is M a 8) (hdg : decode cc pc = .ok (.putfield 11, 3)) (hnm : meth.name = "<init>") (hb : pm_is M b 15) (kk : ∀ (H1 : Heap) (locs1 : List Loc) (M1 : pm_M), M1 = sR M a 0 (some b) → pm_X M M1 → pm_I G H0 M1 H1 locs1 → W p l e R s m args below meth c H1 locs1 cells slots Q (F0 m (pc + 3) ls rest)) : W p l e R s m args below meth c H locs cells slots Q (F0 m pc ls (.ref (H0.size + b) :: .ref (H0.size + a) :: rest)) := pm_putR (ty := tyX9 0) (k := 0) E hI ha rfl (by decide) (by decide) rfl (by decide) iX9 tyX9_ok nmX9 kl_X9_11 (by decide +kernel) rfl rfl (Or.inr ⟨rfl, rfl, hnm⟩) hb hdg (fun H1 locs1 h => kk H1 locs1 _ rfl pm_Xr h)
theorem gf_X9_17 (E : pm_E G p s m args meth c cc nL RX9) (hI : pm_I G H0 M H locs) (ha : pm_is M a 8) (hdg : decode cc pc = .ok (.getfield 17, 3)) (hq : mR M a 1 = some b) (kk : pm_is M b 14 → W p l e R s m args below meth c H locs cells slots Q (F0 m (pc + 3) ls (.ref (H0.size + b) :: rest))) : W p l e R s m args below meth c H locs cells slots Q (F0 m pc ls (.ref (H0.size + a) :: rest)) := pm_getR (k := 1) E hI ha rfl (by decide) (by decide) rfl (by decide) iX9 kl_X9_17 hdg hq kk
theorem pf_X9_17 (E : pm_E G p s m args meth c cc nL RX9) (hI : pm_I G H0 M H locs) (ha : pm_is M a 8) (hdg : decode cc pc = .ok (.putfield 17, 3)) (hnm : meth.name = "<init>") (hb : pm_is M b 14) (kk : ∀ (H1 : Heap) (locs1 : List Loc) (M1 : pm_M), M1 = sR M a 1 (some b) → pm_X M M1 → pm_I G H0 M1 H1 locs1 → W p l e R s m args below meth c H1 locs1 cells slots Q (F0 m (pc + 3) ls rest)) : W p l e R s m args below meth c H locs cells slots Q (F0 m pc ls (.ref (H0.size + b) :: .ref (H0.size + a) :: rest)) := pm_putR (ty := tyX9 1) (k := 1) E hI ha rfl (by decide) (by decide) rfl (by decide) iX9 tyX9_ok nmX9 kl_X9_17 (by decide +kernel) rfl rfl (Or.inr ⟨rfl, rfl, hnm⟩) hb hdg (fun H1 locs1 h => kk H1 locs1 _ rfl pm_Xr h)
theorem gf_X9_21 (E : pm_E G p s m args meth c cc nL RX9) (hI : pm_I G H0 M H locs) (ha : pm_is M a 8) (hdg : decode cc pc = .ok (.getfield 21, 3)) (hq : mR M a 2 = some b) (kk : pm_is M b 11 → W p l e R s m args below meth c H locs cells slots Q (F0 m (pc + 3) ls (.ref (H0.size + b) :: rest))) : W p l e R s m args below meth c H locs cells slots Q (F0 m pc ls (.ref (H0.size + a) :: rest)) := pm_getR (k := 2) E hI ha rfl (by decide) (by decide) rfl (by decide) iX9 kl_X9_21 hdg hq kk
theorem pf_X9_21 (E : pm_E G p s m args meth c cc nL RX9) (hI : pm_I G H0 M H locs) (ha : pm_is M a 8) (hdg : decode cc pc = .ok (.putfield 21, 3)) (hnm : meth.name = "<init>") (hb : pm_is M b 11) (kk : ∀ (H1 : Heap) (locs1 : List Loc) (M1 : pm_M), M1 = sR M a 2 (some b) → pm_X M M1 → pm_I G H0 M1 H1 locs1 → W p l e R s m args below meth c H1 locs1 cells slots Q (F0 m (pc + 3) ls rest)) : W p l e R s m args below meth c H locs cells slots Q (F0 m pc ls (.ref (H0.size + b) :: .ref (H0.size + a) :: rest)) := pm_putR (ty := tyX9 2) (k := 2) E hI ha rfl (by decide) (by decide) rfl (by decide) iX9 tyX9_ok nmX9 kl_X9_21 (by decide +kernel) rfl rfl (Or.inr ⟨rfl, rfl, hnm⟩) hb hdg (fun H1 locs1 h => kk H1 locs1 _ rfl pm_Xr h)
theorem gf_X9_25 (E : pm_E G p s m args meth c cc nL RX9) (hI : pm_I G H0 M H locs) (ha : pm_is M a 8) (hdg : decode cc pc = .ok (.getfield 25, 3)) (hq : mR M a 3 = some b) (kk : pm_is M b 11 → W p l e R s m args below meth c H locs cells slots Q (F0 m (pc + 3) ls (.ref (H0.size + b) :: rest))) : W p l e R s m args below meth c H locs cells slots Q (F0 m pc ls (.ref (H0.size + a) :: rest)) := pm_getR (k := 3) E hI ha rfl (by decide) (by decide) rfl (by decide) iX9 kl_X9_25 hdg hq kk
theorem pf_X9_25 (E : pm_E G p s m args meth c cc nL RX9) (hI : pm_I G H0 M H locs) (ha : pm_is M a 8) (hdg : decode cc pc = .ok (.putfield 25, 3)) (hnm : meth.name = "<init>") (hb : pm_is M b 11) (kk : ∀ (H1 : Heap) (locs1 : List Loc) (M1 : pm_M), M1 = sR M a 3 (some b) → pm_X M M1 → pm_I G H0 M1 H1 locs1 → W p l e R s m args below meth c H1 locs1 cells slots Q (F0 m (pc + 3) ls rest)) : W p l e R s m args below meth c H locs cells slots Q (F0 m pc ls (.ref (H0.size + b) :: .ref (H0.size + a) :: rest)) := pm_putR (ty := tyX9 3) (k := 3) E hI ha rfl (by decide) (by decide) rfl (by decide) iX9 tyX9_ok nmX9 kl_X9_25 (by decide +kernel) rfl rfl (Or.inr ⟨rfl, rfl, hnm⟩) hb hdg (fun H1 locs1 h => kk H1 locs1 _ rfl pm_Xr h)
theorem gf_X9_31 (E : pm_E G p s m args meth c cc nL RX9) (hI : pm_I G H0 M H locs) (ha : pm_is M a 8) (hdg : decode cc pc = .ok (.getfield 31, 3)) (hq : mR M a 4 = some b) (kk : pm_is M b 3 → W p l e R s m args below meth c H locs cells slots Q (F0 m (pc + 3) ls (.ref (H0.size + b) :: rest))) : W p l e R s m args below meth c H locs cells slots Q (F0 m pc ls (.ref (H0.size + a) :: rest)) := pm_getR (k := 4) E hI ha rfl (by decide) (by decide) rfl (by decide) iX9 kl_X9_31 hdg hq kk
theorem pf_X9_31 (E : pm_E G p s m args meth c cc nL RX9) (hI : pm_I G H0 M H locs) (ha : pm_is M a 8) (hdg : decode cc pc = .ok (.putfield 31, 3)) (hnm : meth.name = "<init>") (hb : pm_is M b 3) (kk : ∀ (H1 : Heap) (locs1 : List Loc) (M1 : pm_M), M1 = sR M a 4 (some b) → pm_X M M1 → pm_I G H0 M1 H1 locs1 → W p l e R s m args below meth c H1 locs1 cells slots Q (F0 m (pc + 3) ls rest)) : W p l e R s m args below meth c H locs cells slots Q (F0 m pc ls (.ref (H0.size + b) :: .ref (H0.size + a) :: rest)) := pm_putR (ty := tyX9 4) (k := 4) E hI ha rfl (by decide) (by decide) rfl (by decide) iX9 tyX9_ok nmX9 kl_X9_31 (by decide +kernel) rfl rfl (Or.inr ⟨rfl, rfl, hnm⟩) hb hdg (fun H1 locs1 h => kk H1 locs1 _ rfl pm_Xr h)
theorem gf_X9_38 (E : pm_E G p s m args meth c cc nL RX9) (hI : pm_I G H0 M H locs) (ha : pm_is M a 8) (hdg : decode cc pc = .ok (.getfield 38, 3)) (hq : mR M a 5 = some b) (kk : pm_is M b 6 → W p l e R s m args below meth c H locs cells slots Q (F0 m (pc + 3) ls (.ref (H0.size + b) :: rest))) : W p l e R s m args below meth c H locs cells slots Q (F0 m pc ls (.ref (H0.size + a) :: rest)) := pm_getR (k := 5) E hI ha rfl (by decide) (by decide) rfl (by decide) iX9 kl_X9_38 hdg hq kk
theorem pf_X9_38 (E : pm_E G p s m args meth c cc nL RX9) (hI : pm_I G H0 M H locs) (ha : pm_is M a 8) (hdg : decode cc pc = .ok (.putfield 38, 3)) (hnm : meth.name = "<init>") (hb : pm_is M b 6) (kk : ∀ (H1 : Heap) (locs1 : List Loc) (M1 : pm_M), M1 = sR M a 5 (some b) → pm_X M M1 → pm_I G H0 M1 H1 locs1 → W p l e R s m args below meth c H1 locs1 cells slots Q (F0 m (pc + 3) ls rest)) : W p l e R s m args below meth c H locs cells slots Q (F0 m pc ls (.ref (H0.size + b) :: .ref (H0.size + a) :: rest)) := pm_putR (ty := tyX9 5) (k := 5) E hI ha rfl (by decide) (by decide) rfl (by decide) iX9 tyX9_ok nmX9 kl_X9_38 (by decide +kernel) rfl rfl (Or.inr ⟨rfl, rfl, hnm⟩) hb hdg (fun H1 locs1 h => kk H1 locs1 _ rfl pm_Xr h)
theorem gf_X9_45 (E : pm_E G p s m args meth c cc nL RX9) (hI : pm_I G H0 M H locs) (ha : pm_is M a 8) (hdg : decode cc pc = .ok (.getfield 45, 3)) (hq : mR M a 6 = some b) (kk : pm_is M b 0 → W p l e R s m args below meth c H locs cells slots Q (F0 m (pc + 3) ls (.ref (H0.size + b) :: rest))) : W p l e R s m args below meth c H locs cells slots Q (F0 m pc ls (.ref (H0.size + a) :: rest)) := pm_getR (k := 6) E hI ha rfl (by decide) (by decide) rfl (by decide) iX9 kl_X9_45 hdg hq kk
theorem pf_X9_45 (E : pm_E G p s m args meth c cc nL RX9) (hI : pm_I G H0 M H locs) (ha : pm_is M a 8) (hdg : decode cc pc = .ok (.putfield 45, 3)) (hnm : meth.name = "<init>") (hb : pm_is M b 0) (kk : ∀ (H1 : Heap) (locs1 : List Loc) (M1 : pm_M), M1 = sR M a 6 (some b) → pm_X M M1 → pm_I G H0 M1 H1 locs1 → W p l e R s m args below meth c H1 locs1 cells slots Q (F0 m (pc + 3) ls rest)) : W p l e R s m args below meth c H locs cells slots Q (F0 m pc ls (.ref (H0.size + b) :: .ref (H0.size + a) :: rest)) := pm_putR (ty := tyX9 6) (k := 6) E hI ha rfl (by decide) (by decide) rfl (by decide) iX9 tyX9_ok nmX9 kl_X9_45 (by decide +kernel) rfl rfl (Or.inr ⟨rfl, rfl, hnm⟩) hb hdg (fun H1 locs1 h => kk H1 locs1 _ rfl pm_Xr h)
theorem gf_X9_52 (E : pm_E G p s m args meth c cc nL RX9) (hI : pm_I G H0 M H locs) (ha : pm_is M a 8) (hdg : decode cc pc = .ok (.getfield 52, 3)) (hq : mR M a 7 = some b) (kk : pm_is M b 2 → W p l e R s m args below meth c H locs cells slots Q (F0 m (pc + 3) ls (.ref (H0.size + b) :: rest))) : W p l e R s m args below meth c H locs cells slots Q (F0 m pc ls (.ref (H0.size + a) :: rest)) := pm_getR (k := 7) E hI ha rfl (by decide) (by decide) rfl (by decide) iX9 kl_X9_52 hdg hq kk
theorem pf_X9_52 (E : pm_E G p s m args meth c cc nL RX9) (hI : pm_I G H0 M H locs) (ha : pm_is M a 8) (hdg : decode cc pc = .ok (.putfield 52, 3)) (hnm : meth.name = "<init>") (hb : pm_is M b 2) (kk : ∀ (H1 : Heap) (locs1 : List Loc) (M1 : pm_M), M1 = sR M a 7 (some b) → pm_X M M1 → pm_I G H0 M1 H1 locs1 → W p l e R s m args below meth c H1 locs1 cells slots Q (F0 m (pc + 3) ls rest)) : W p l e R s m args below meth c H locs cells slots Q (F0 m pc ls (.ref (H0.size + b) :: .ref (H0.size + a) :: rest)) := pm_putR (ty := tyX9 7) (k := 7) E hI ha rfl (by decide) (by decide) rfl (by decide) iX9 tyX9_ok nmX9 kl_X9_52 (by decide +kernel) rfl rfl (Or.inr ⟨rfl, rfl, hnm⟩) hb hdg (fun H1 locs1 h => kk H1 locs1 _ rfl pm_Xr h)
theorem gf_X9_59 (E : pm_E G p s m args meth c cc nL RX9) (hI : pm_I G H0 M H locs) (ha : pm_is M a 8) (hdg : decode cc pc = .ok (.getfield 59, 3)) (hq : mR M a 8 = some b) (kk : pm_is M b 7 → W p l e R s m args below meth c H locs cells slots Q (F0 m (pc + 3) ls (.ref (H0.size + b) :: rest))) : W p l e R s m args below meth c H locs cells slots Q (F0 m pc ls (.ref (H0.size + a) :: rest)) := pm_getR (k := 8) E hI ha rfl (by decide) (by decide) rfl (by decide) iX9 kl_X9_59 hdg hq kk
theorem pf_X9_59 (E : pm_E G p s m args meth c cc nL RX9) (hI : pm_I G H0 M H locs) (ha : pm_is M a 8) (hdg : decode cc pc = .ok (.putfield 59, 3)) (hnm : meth.name = "<init>") (hb : pm_is M b 7) (kk : ∀ (H1 : Heap) (locs1 : List Loc) (M1 : pm_M), M1 = sR M a 8 (some b) → pm_X M M1 → pm_I G H0 M1 H1 locs1 → W p l e R s m args below meth c H1 locs1 cells slots Q (F0 m (pc + 3) ls rest)) : W p l e R s m args below meth c H locs cells slots Q (F0 m pc ls (.ref (H0.size + b) :: .ref (H0.size + a) :: rest)) := pm_putR (ty := tyX9 8) (k := 8) E hI ha rfl (by decide) (by decide) rfl (by decide) iX9 tyX9_ok nmX9 kl_X9_59 (by decide +kernel) rfl rfl (Or.inr ⟨rfl, rfl, hnm⟩) hb hdg (fun H1 locs1 h => kk H1 locs1 _ rfl pm_Xr h)
theorem gf_X9_100 (E : pm_E G p s m args meth c cc nL RX9) (hI : pm_I G H0 M H locs) (ha : pm_is M a 5) (hdg : decode cc pc = .ok (.getfield 100, 3)) (kk : W p l e R s m args below meth c H locs cells slots Q (F0 m (pc + 3) ls (.int (mI M a 1) :: rest))) : W p l e R s m args below meth c H locs cells slots Q (F0 m pc ls (.ref (H0.size + a) :: rest)) := pm_getIN (k := 1) E hI ha rfl (by decide) (by decide) rfl rfl iX6 kl_X9_100 hdg kk
theorem gf_X9_108 (E : pm_E G p s m args meth c cc nL RX9) (hI : pm_I G H0 M H locs) (ha : pm_is M a 5) (hdg : decode cc pc = .ok (.getfield 108, 3)) (hq : mR M a 0 = some b) (kk : pm_is M b 12 → W p l e R s m args below meth c H locs cells slots Q (F0 m (pc + 3) ls (.ref (H0.size + b) :: rest))) : W p l e R s m args below meth c H locs cells slots Q (F0 m pc ls (.ref (H0.size + a) :: rest)) := pm_getRN (k := 0) E hI ha rfl (by decide) (by decide) rfl (by decide) iX6 kl_X9_108 hdg hq kk
theorem gf_X9_118 (E : pm_E G p s m args meth c cc nL RX9) (hI : pm_I G H0 M H locs) (ha : pm_is M a 8) (hdg : decode cc pc = .ok (.getfield 118, 3)) (kk : W p l e R s m args below meth c H locs cells slots Q (F0 m (pc + 3) ls (.int (mI M a 11) :: rest))) : W p l e R s m args below meth c H locs cells slots Q (F0 m pc ls (.ref (H0.size + a) :: rest)) := pm_getI (k := 11) E hI ha rfl (by decide) (by decide) rfl rfl iX9 kl_X9_118 hdg kk
theorem pf_X9_118 (E : pm_E G p s m args meth c cc nL RX9) (hI : pm_I G H0 M H locs) (ha : pm_is M a 8) (hdg : decode cc pc = .ok (.putfield 118, 3)) (kk : ∀ (H1 : Heap) (locs1 : List Loc) (M1 : pm_M), M1 = sI M a 11 v → pm_X M M1 → pm_I G H0 M1 H1 locs1 → W p l e R s m args below meth c H1 locs1 cells slots Q (F0 m (pc + 3) ls rest)) : W p l e R s m args below meth c H locs cells slots Q (F0 m pc ls (.int v :: .ref (H0.size + a) :: rest)) := pm_putI (k := 11) E hI ha rfl (by decide) (by decide) rfl rfl iX9 tyX9_ok nmX9 kl_X9_118 (by decide +kernel) (Or.inl rfl) hdg (fun H1 locs1 h => kk H1 locs1 _ rfl pm_Xi h)
theorem gf_X9_129 (E : pm_E G p s m args meth c cc nL RX9) (hI : pm_I G H0 M H locs) (ha : pm_is M a 3) (hdg : decode cc pc = .ok (.getfield 129, 3)) (kk : W p l e R s m args below meth c H locs cells slots Q (F0 m (pc + 3) ls (.int (mI M a 2) :: rest))) : W p l e R s m args below meth c H locs cells slots Q (F0 m pc ls (.ref (H0.size + a) :: rest)) := pm_getIN (k := 2) E hI ha rfl (by decide) (by decide) rfl rfl iX4 kl_X9_129 hdg kk
theorem gf_X9_135 (E : pm_E G p s m args meth c cc nL RX9) (hI : pm_I G H0 M H locs) (ha : pm_is M a 8) (hdg : decode cc pc = .ok (.getfield 135, 3)) (kk : W p l e R s m args below meth c H locs cells slots Q (F0 m (pc + 3) ls (.int (mI M a 10) :: rest))) : W p l e R s m args below meth c H locs cells slots Q (F0 m pc ls (.ref (H0.size + a) :: rest)) := pm_getI (k := 10) E hI ha rfl (by decide) (by decide) rfl rfl iX9 kl_X9_135 hdg kk
theorem pf_X9_135 (E : pm_E G p s m args meth c cc nL RX9) (hI : pm_I G H0 M H locs) (ha : pm_is M a 8) (hdg : decode cc pc = .ok (.putfield 135, 3)) (kk : ∀ (H1 : Heap) (locs1 : List Loc) (M1 : pm_M), M1 = sI M a 10 v → pm_X M M1 → pm_I G H0 M1 H1 locs1 → W p l e R s m args below meth c H1 locs1 cells slots Q (F0 m (pc + 3) ls rest)) : W p l e R s m args below meth c H locs cells slots Q (F0 m pc ls (.int v :: .ref (H0.size + a) :: rest)) := pm_putI (k := 10) E hI ha rfl (by decide) (by decide) rfl rfl iX9 tyX9_ok nmX9 kl_X9_135 (by decide +kernel) (Or.inl rfl) hdg (fun H1 locs1 h => kk H1 locs1 _ rfl pm_Xi h)
theorem gf_X9_149 (E : pm_E G p s m args meth c cc nL RX9) (hI : pm_I G H0 M H locs) (ha : pm_is M a 6) (hdg : decode cc pc = .ok (.getfield 149, 3)) (kk : W p l e R s m args below meth c H locs cells slots Q (F0 m (pc + 3) ls (.int (mI M a 3) :: rest))) : W p l e R s m args below meth c H locs cells slots Q (F0 m pc ls (.ref (H0.size + a) :: rest)) := pm_getIN (k := 3) E hI ha rfl (by decide) (by decide) rfl rfl iX7 kl_X9_149 hdg kk
theorem gf_X9_152 (E : pm_E G p s m args meth c cc nL RX9) (hI : pm_I G H0 M H locs) (ha : pm_is M a 6) (hdg : decode cc pc = .ok (.getfield 152, 3)) (kk : W p l e R s m args below meth c H locs cells slots Q (F0 m (pc + 3) ls (.int (mI M a 4) :: rest))) : W p l e R s m args below meth c H locs cells slots Q (F0 m pc ls (.ref (H0.size + a) :: rest)) := pm_getIN (k := 4) E hI ha rfl (by decide) (by decide) rfl rfl iX7 kl_X9_152 hdg kk
theorem gf_X9_155 (E : pm_E G p s m args meth c cc nL RX9) (hI : pm_I G H0 M H locs) (ha : pm_is M a 6) (hdg : decode cc pc = .ok (.getfield 155, 3)) (kk : W p l e R s m args below meth c H locs cells slots Q (F0 m (pc + 3) ls (.int (mI M a 5) :: rest))) : W p l e R s m args below meth c H locs cells slots Q (F0 m pc ls (.ref (H0.size + a) :: rest)) := pm_getIN (k := 5) E hI ha rfl (by decide) (by decide) rfl rfl iX7 kl_X9_155 hdg kk
theorem gf_X9_162 (E : pm_E G p s m args meth c cc nL RX9) (hI : pm_I G H0 M H locs) (ha : pm_is M a 4) (hdg : decode cc pc = .ok (.getfield 162, 3)) (kk : W p l e R s m args below meth c H locs cells slots Q (F0 m (pc + 3) ls (.int (mI M a 0) :: rest))) : W p l e R s m args below meth c H locs cells slots Q (F0 m pc ls (.ref (H0.size + a) :: rest)) := pm_getIN (k := 0) E hI ha rfl (by decide) (by decide) rfl rfl iX5 kl_X9_162 hdg kk
theorem pf_X9_162 (E : pm_E G p s m args meth c cc nL RX9) (hI : pm_I G H0 M H locs) (ha : pm_is M a 4) (hdg : decode cc pc = .ok (.putfield 162, 3)) (kk : ∀ (H1 : Heap) (locs1 : List Loc) (M1 : pm_M), M1 = sI M a 0 v → pm_X M M1 → pm_I G H0 M1 H1 locs1 → W p l e R s m args below meth c H1 locs1 cells slots Q (F0 m (pc + 3) ls rest)) : W p l e R s m args below meth c H locs cells slots Q (F0 m pc ls (.int v :: .ref (H0.size + a) :: rest)) := pm_putIN (k := 0) E hI ha rfl (by decide) (by decide) rfl rfl iX5 tyX5_ok nmX5 kl_X9_162 (by decide +kernel) (Or.inl rfl) hdg (fun H1 locs1 h => kk H1 locs1 _ rfl pm_Xi h)
theorem gf_X9_172 (E : pm_E G p s m args meth c cc nL RX9) (hI : pm_I G H0 M H locs) (ha : pm_is M a 4) (hdg : decode cc pc = .ok (.getfield 172, 3)) (kk : W p l e R s m args below meth c H locs cells slots Q (F0 m (pc + 3) ls (.int (mI M a 1) :: rest))) : W p l e R s m args below meth c H locs cells slots Q (F0 m pc ls (.ref (H0.size + a) :: rest)) := pm_getIN (k := 1) E hI ha rfl (by decide) (by decide) rfl rfl iX5 kl_X9_172 hdg kk
theorem pf_X9_172 (E : pm_E G p s m args meth c cc nL RX9) (hI : pm_I G H0 M H locs) (ha : pm_is M a 4) (hdg : decode cc pc = .ok (.putfield 172, 3)) (kk : ∀ (H1 : Heap) (locs1 : List Loc) (M1 : pm_M), M1 = sI M a 1 v → pm_X M M1 → pm_I G H0 M1 H1 locs1 → W p l e R s m args below meth c H1 locs1 cells slots Q (F0 m (pc + 3) ls rest)) : W p l e R s m args below meth c H locs cells slots Q (F0 m pc ls (.int v :: .ref (H0.size + a) :: rest)) := pm_putIN (k := 1) E hI ha rfl (by decide) (by decide) rfl rfl iX5 tyX5_ok nmX5 kl_X9_172 (by decide +kernel) (Or.inl rfl) hdg (fun H1 locs1 h => kk H1 locs1 _ rfl pm_Xi h)
theorem gf_X9_175 (E : pm_E G p s m args meth c cc nL RX9) (hI : pm_I G H0 M H locs) (ha : pm_is M a 4) (hdg : decode cc pc = .ok (.getfield 175, 3)) (kk : W p l e R s m args below meth c H locs cells slots Q (F0 m (pc + 3) ls (.int (mI M a 2) :: rest))) : W p l e R s m args below meth c H locs cells slots Q (F0 m pc ls (.ref (H0.size + a) :: rest)) := pm_getIN (k := 2) E hI ha rfl (by decide) (by decide) rfl rfl iX5 kl_X9_175 hdg kk
theorem pf_X9_175 (E : pm_E G p s m args meth c cc nL RX9) (hI : pm_I G H0 M H locs) (ha : pm_is M a 4) (hdg : decode cc pc = .ok (.putfield 175, 3)) (kk : ∀ (H1 : Heap) (locs1 : List Loc) (M1 : pm_M), M1 = sI M a 2 v → pm_X M M1 → pm_I G H0 M1 H1 locs1 → W p l e R s m args below meth c H1 locs1 cells slots Q (F0 m (pc + 3) ls rest)) : W p l e R s m args below meth c H locs cells slots Q (F0 m pc ls (.int v :: .ref (H0.size + a) :: rest)) := pm_putIN (k := 2) E hI ha rfl (by decide) (by decide) rfl rfl iX5 tyX5_ok nmX5 kl_X9_175 (by decide +kernel) (Or.inl rfl) hdg (fun H1 locs1 h => kk H1 locs1 _ rfl pm_Xi h)
theorem gf_X9_178 (E : pm_E G p s m args meth c cc nL RX9) (hI : pm_I G H0 M H locs) (ha : pm_is M a 4) (hdg : decode cc pc = .ok (.getfield 178, 3)) (kk : W p l e R s m args below meth c H locs cells slots Q (F0 m (pc + 3) ls (.int (mI M a 3) :: rest))) : W p l e R s m args below meth c H locs cells slots Q (F0 m pc ls (.ref (H0.size + a) :: rest)) := pm_getIN (k := 3) E hI ha rfl (by decide) (by decide) rfl rfl iX5 kl_X9_178 hdg kk
theorem pf_X9_178 (E : pm_E G p s m args meth c cc nL RX9) (hI : pm_I G H0 M H locs) (ha : pm_is M a 4) (hdg : decode cc pc = .ok (.putfield 178, 3)) (kk : ∀ (H1 : Heap) (locs1 : List Loc) (M1 : pm_M), M1 = sI M a 3 v → pm_X M M1 → pm_I G H0 M1 H1 locs1 → W p l e R s m args below meth c H1 locs1 cells slots Q (F0 m (pc + 3) ls rest)) : W p l e R s m args below meth c H locs cells slots Q (F0 m pc ls (.int v :: .ref (H0.size + a) :: rest)) := pm_putIN (k := 3) E hI ha rfl (by decide) (by decide) rfl rfl iX5 tyX5_ok nmX5 kl_X9_178 (by decide +kernel) (Or.inl rfl) hdg (fun H1 locs1 h => kk H1 locs1 _ rfl pm_Xi h)
theorem gf_X9_187 (E : pm_E G p s m args meth c cc nL RX9) (hI : pm_I G H0 M H locs) (ha : pm_is M a 8) (hdg : decode cc pc = .ok (.getfield 187, 3)) (kk : W p l e R s m args below meth c H locs cells slots Q (F0 m (pc + 3) ls (.int (mI M a 9) :: rest))) : W p l e R s m args below meth c H locs cells slots Q (F0 m pc ls (.ref (H0.size + a) :: rest)) := pm_getI (k := 9) E hI ha rfl (by decide) (by decide) rfl rfl iX9 kl_X9_187 hdg kk
theorem pf_X9_187 (E : pm_E G p s m args meth c cc nL RX9) (hI : pm_I G H0 M H locs) (ha : pm_is M a 8) (hdg : decode cc pc = .ok (.putfield 187, 3)) (kk : ∀ (H1 : Heap) (locs1 : List Loc) (M1 : pm_M), M1 = sI M a 9 v → pm_X M M1 → pm_I G H0 M1 H1 locs1 → W p l e R s m args below meth c H1 locs1 cells slots Q (F0 m (pc + 3) ls rest)) : W p l e R s m args below meth c H locs cells slots Q (F0 m pc ls (.int v :: .ref (H0.size + a) :: rest)) := pm_putI (k := 9) E hI ha rfl (by decide) (by decide) rfl rfl iX9 tyX9_ok nmX9 kl_X9_187 (by decide +kernel) (Or.inl rfl) hdg (fun H1 locs1 h => kk H1 locs1 _ rfl pm_Xi h)
theorem ps_iast (E : pm_E G p s m args meth c cc nL own) (hI : pm_I G H0 M H locs) (ha : pm_is M a 11) (hin : vp_in i (mN M a)) (hdg : decode cc pc = .ok (.iastore, 1)) (kk : ∀ (H1 : Heap) (locs1 : List Loc) (M1 : pm_M), M1 = sI M a i.toNatClampNeg x → pm_X M M1 → pm_I G H0 M1 H1 locs1 → W p l e R s m args below meth c H1 locs1 cells slots Q (F0 m (pc + 1) ls rest)) : W p l e R s m args below meth c H locs cells slots Q (F0 m pc ls (.int x :: .int i :: .ref (H0.size + a) :: rest)) := pm_iast E hI ha hin hdg (fun H1 locs1 h => kk H1 locs1 _ rfl pm_Xi h)
theorem ps_bast (E : pm_E G p s m args meth c cc nL own) (hI : pm_I G H0 M H locs) (ha : pm_is M a 10) (hin : vp_in i (mN M a)) (hdg : decode cc pc = .ok (.bastore, 1)) (kk : ∀ (H1 : Heap) (locs1 : List Loc) (M1 : pm_M), M1 = sI M a i.toNatClampNeg (vp_nar .byte x) → pm_X M M1 → pm_I G H0 M1 H1 locs1 → W p l e R s m args below meth c H1 locs1 cells slots Q (F0 m (pc + 1) ls rest)) : W p l e R s m args below meth c H locs cells slots Q (F0 m pc ls (.int x :: .int i :: .ref (H0.size + a) :: rest)) := pm_bast E hI ha hin hdg (fun H1 locs1 h => kk H1 locs1 _ rfl pm_Xi h)
theorem ps_zast (E : pm_E G p s m args meth c cc nL own) (hI : pm_I G H0 M H locs) (ha : pm_is M a 13) (hin : vp_in i (mN M a)) (hdg : decode cc pc = .ok (.bastore, 1)) (kk : ∀ (H1 : Heap) (locs1 : List Loc) (M1 : pm_M), M1 = sI M a i.toNatClampNeg (vp_nar .boolean x) → pm_X M M1 → pm_I G H0 M1 H1 locs1 → W p l e R s m args below meth c H1 locs1 cells slots Q (F0 m (pc + 1) ls rest)) : W p l e R s m args below meth c H locs cells slots Q (F0 m pc ls (.int x :: .int i :: .ref (H0.size + a) :: rest)) := pm_zast E hI ha hin hdg (fun H1 locs1 h => kk H1 locs1 _ rfl pm_Xi h)
theorem ps_last {x : Int64} (E : pm_E G p s m args meth c cc nL own) (hI : pm_I G H0 M H locs) (ha : pm_is M a 12) (hin : vp_in i (mN M a)) (hdg : decode cc pc = .ok (.lastore, 1)) (kk : ∀ (H1 : Heap) (locs1 : List Loc) (M1 : pm_M), M1 = sL M a i.toNatClampNeg x → pm_X M M1 → pm_I G H0 M1 H1 locs1 → W p l e R s m args below meth c H1 locs1 cells slots Q (F0 m (pc + 1) ls rest)) : W p l e R s m args below meth c H locs cells slots Q (F0 m pc ls (.long x :: .int i :: .ref (H0.size + a) :: rest)) := pm_last E hI ha hin hdg (fun H1 locs1 h => kk H1 locs1 _ rfl pm_Xl h)
theorem ps_aastRule (E : pm_E G p s m args meth c cc nL own) (hI : pm_I G H0 M H locs) (ha : pm_is M a 14) (hv : pm_is M b 4) (hin : vp_in i (mN M a)) (hdg : decode cc pc = .ok (.aastore, 1)) (kk : ∀ (H1 : Heap) (locs1 : List Loc) (M1 : pm_M), M1 = sR M a i.toNatClampNeg (some b) → pm_X M M1 → pm_I G H0 M1 H1 locs1 → W p l e R s m args below meth c H1 locs1 cells slots Q (F0 m (pc + 1) ls rest)) : W p l e R s m args below meth c H locs cells slots Q (F0 m pc ls (.ref (H0.size + b) :: .int i :: .ref (H0.size + a) :: rest)) := pm_aast (r := (RX5, TX5, 5)) 4 E hI ha (by decide) rfl hv (by decide) rfl rfl hin hdg (fun H1 locs1 h => kk H1 locs1 _ rfl pm_Xr h)
theorem ps_aastSlot (E : pm_E G p s m args meth c cc nL own) (hI : pm_I G H0 M H locs) (ha : pm_is M a 15) (hv : pm_is M b 5) (hin : vp_in i (mN M a)) (hdg : decode cc pc = .ok (.aastore, 1)) (kk : ∀ (H1 : Heap) (locs1 : List Loc) (M1 : pm_M), M1 = sR M a i.toNatClampNeg (some b) → pm_X M M1 → pm_I G H0 M1 H1 locs1 → W p l e R s m args below meth c H1 locs1 cells slots Q (F0 m (pc + 1) ls rest)) : W p l e R s m args below meth c H locs cells slots Q (F0 m pc ls (.ref (H0.size + b) :: .int i :: .ref (H0.size + a) :: rest)) := pm_aast (r := (RX6, TX6, 3)) 5 E hI ha (by decide) rfl hv (by decide) rfl rfl hin hdg (fun H1 locs1 h => kk H1 locs1 _ rfl pm_Xr h)
theorem ps_aaldRule (E : pm_E G p s m args meth c cc nL own) (hI : pm_I G H0 M H locs) (ha : pm_is M a 14) (hin : vp_in i (mN M a)) (hdg : decode cc pc = .ok (.aaload, 1)) (kk : ∀ x : Option Nat, x = mR M a i.toNatClampNeg → (∀ b, x = some b → pm_is M b 4) → W p l e R s m args below meth c H locs cells slots Q (F0 m (pc + 1) ls (pm_rf H0.size x :: rest))) : W p l e R s m args below meth c H locs cells slots Q (F0 m pc ls (.int i :: .ref (H0.size + a) :: rest)) := pm_aald 4 E hI ha (by decide) rfl rfl hin hdg kk
theorem ps_aaldSlot (E : pm_E G p s m args meth c cc nL own) (hI : pm_I G H0 M H locs) (ha : pm_is M a 15) (hin : vp_in i (mN M a)) (hdg : decode cc pc = .ok (.aaload, 1)) (kk : ∀ x : Option Nat, x = mR M a i.toNatClampNeg → (∀ b, x = some b → pm_is M b 5) → W p l e R s m args below meth c H locs cells slots Q (F0 m (pc + 1) ls (pm_rf H0.size x :: rest))) : W p l e R s m args below meth c H locs cells slots Q (F0 m pc ls (.int i :: .ref (H0.size + a) :: rest)) := pm_aald 5 E hI ha (by decide) rfl rfl hin hdg kk
theorem ps_aaldInts (E : pm_E G p s m args meth c cc nL own) (hI : pm_I G H0 M H locs) (ha : pm_is M a 16) (hin : vp_in i (mN M a)) (hdg : decode cc pc = .ok (.aaload, 1)) (kk : ∀ x : Option Nat, x = mR M a i.toNatClampNeg → (∀ b, x = some b → pm_is M b 11) → W p l e R s m args below meth c H locs cells slots Q (F0 m (pc + 1) ls (pm_rf H0.size x :: rest))) : W p l e R s m args below meth c H locs cells slots Q (F0 m pc ls (.int i :: .ref (H0.size + a) :: rest)) := pm_aald 6 E hI ha (by decide) rfl rfl hin hdg kk
theorem ps_alenB (E : pm_E G p s m args meth c cc nL own) (hI : pm_I G H0 M H locs) (ha : pm_is M a 10) (hdg : decode cc pc = .ok (.arraylength, 1)) (kk : W p l e R s m args below meth c H locs cells slots Q (F0 m (pc + 1) ls (.int (nI (mN M a)) :: rest))) : W p l e R s m args below meth c H locs cells slots Q (F0 m pc ls (.ref (H0.size + a) :: rest)) := pm_alen 0 E hI ha (by decide) rfl hdg kk
theorem ps_alenI (E : pm_E G p s m args meth c cc nL own) (hI : pm_I G H0 M H locs) (ha : pm_is M a 11) (hdg : decode cc pc = .ok (.arraylength, 1)) (kk : W p l e R s m args below meth c H locs cells slots Q (F0 m (pc + 1) ls (.int (nI (mN M a)) :: rest))) : W p l e R s m args below meth c H locs cells slots Q (F0 m pc ls (.ref (H0.size + a) :: rest)) := pm_alen 1 E hI ha (by decide) rfl hdg kk
theorem ps_alenJ (E : pm_E G p s m args meth c cc nL own) (hI : pm_I G H0 M H locs) (ha : pm_is M a 12) (hdg : decode cc pc = .ok (.arraylength, 1)) (kk : W p l e R s m args below meth c H locs cells slots Q (F0 m (pc + 1) ls (.int (nI (mN M a)) :: rest))) : W p l e R s m args below meth c H locs cells slots Q (F0 m pc ls (.ref (H0.size + a) :: rest)) := pm_alen 2 E hI ha (by decide) rfl hdg kk
theorem ps_alenZ (E : pm_E G p s m args meth c cc nL own) (hI : pm_I G H0 M H locs) (ha : pm_is M a 13) (hdg : decode cc pc = .ok (.arraylength, 1)) (kk : W p l e R s m args below meth c H locs cells slots Q (F0 m (pc + 1) ls (.int (nI (mN M a)) :: rest))) : W p l e R s m args below meth c H locs cells slots Q (F0 m pc ls (.ref (H0.size + a) :: rest)) := pm_alen 3 E hI ha (by decide) rfl hdg kk
theorem ps_alenRule (E : pm_E G p s m args meth c cc nL own) (hI : pm_I G H0 M H locs) (ha : pm_is M a 14) (hdg : decode cc pc = .ok (.arraylength, 1)) (kk : W p l e R s m args below meth c H locs cells slots Q (F0 m (pc + 1) ls (.int (nI (mN M a)) :: rest))) : W p l e R s m args below meth c H locs cells slots Q (F0 m pc ls (.ref (H0.size + a) :: rest)) := pm_alen 4 E hI ha (by decide) rfl hdg kk
theorem ps_alenSlot (E : pm_E G p s m args meth c cc nL own) (hI : pm_I G H0 M H locs) (ha : pm_is M a 15) (hdg : decode cc pc = .ok (.arraylength, 1)) (kk : W p l e R s m args below meth c H locs cells slots Q (F0 m (pc + 1) ls (.int (nI (mN M a)) :: rest))) : W p l e R s m args below meth c H locs cells slots Q (F0 m pc ls (.ref (H0.size + a) :: rest)) := pm_alen 5 E hI ha (by decide) rfl hdg kk
theorem ps_alenInts (E : pm_E G p s m args meth c cc nL own) (hI : pm_I G H0 M H locs) (ha : pm_is M a 16) (hdg : decode cc pc = .ok (.arraylength, 1)) (kk : W p l e R s m args below meth c H locs cells slots Q (F0 m (pc + 1) ls (.int (nI (mN M a)) :: rest))) : W p l e R s m args below meth c H locs cells slots Q (F0 m pc ls (.ref (H0.size + a) :: rest)) := pm_alen 6 E hI ha (by decide) rfl hdg kk
theorem nw_L_7 (E : pm_E G p s m args meth c cc nL RL) (hI : pm_I G H0 M H locs) (hcells : cells + 1 ≤ R.cells) (hslots : slots + 12 ≤ R.slots) (hdg : decode cc pc = .ok (.new 7, 3)) (kk : ∀ (H1 : Heap) (M1 : pm_M), M1 = sN M 8 0 → pm_X M M1 → pm_is M1 (mZ M) 8 → pm_I G H0 M1 H1 locs → W p l e R s m args below meth c H1 locs (cells + 1) (slots + 12) Q (F0 m (pc + 3) ls (.ref (H0.size + mZ M) :: rest))) : W p l e R s m args below meth c H locs cells slots Q (F0 m pc ls rest) := pm_new (t := 8) (C := RX9) (T := TX9) (N := 12) (ty := tyX9) E hI rfl (by decide) rfl iX9 tyX9_ok (by decide +kernel) kl_L_7 kn_X9 ki_X9 hcells hslots hdg (fun H1 h => kk H1 _ rfl pm_X.n pm_is.new h)
theorem nw_L_10 (E : pm_E G p s m args meth c cc nL RL) (hI : pm_I G H0 M H locs) (hcells : cells + 1 ≤ R.cells) (hslots : slots + 26 ≤ R.slots) (hdg : decode cc pc = .ok (.new 10, 3)) (kk : ∀ (H1 : Heap) (M1 : pm_M), M1 = sN M 9 0 → pm_X M M1 → pm_is M1 (mZ M) 9 → pm_I G H0 M1 H1 locs → W p l e R s m args below meth c H1 locs (cells + 1) (slots + 26) Q (F0 m (pc + 3) ls (.ref (H0.size + mZ M) :: rest))) : W p l e R s m args below meth c H locs cells slots Q (F0 m pc ls rest) := pm_new (t := 9) (C := RX10) (T := TX10) (N := 26) (ty := tyX10) E hI rfl (by decide) rfl iX10 tyX10_ok (by decide +kernel) kl_L_10 kn_X10 ki_X10 hcells hslots hdg (fun H1 h => kk H1 _ rfl pm_X.n pm_is.new h)
theorem nw_X9_9 (E : pm_E G p s m args meth c cc nL RX9) (hI : pm_I G H0 M H locs) (hcells : cells + 1 ≤ R.cells) (hslots : slots + 3 ≤ R.slots) (hdg : decode cc pc = .ok (.new 9, 3)) (kk : ∀ (H1 : Heap) (M1 : pm_M), M1 = sN M 5 0 → pm_X M M1 → pm_is M1 (mZ M) 5 → pm_I G H0 M1 H1 locs → W p l e R s m args below meth c H1 locs (cells + 1) (slots + 3) Q (F0 m (pc + 3) ls (.ref (H0.size + mZ M) :: rest))) : W p l e R s m args below meth c H locs cells slots Q (F0 m pc ls rest) := pm_new (t := 5) (C := RX6) (T := TX6) (N := 3) (ty := tyX6) E hI rfl (by decide) rfl iX6 tyX6_ok (by decide +kernel) kl_X9_9 kn_X6 ki_X6 hcells hslots hdg (fun H1 h => kk H1 _ rfl pm_X.n pm_is.new h)
theorem nw_X9_15 (E : pm_E G p s m args meth c cc nL RX9) (hI : pm_I G H0 M H locs) (hcells : cells + 1 ≤ R.cells) (hslots : slots + 5 ≤ R.slots) (hdg : decode cc pc = .ok (.new 15, 3)) (kk : ∀ (H1 : Heap) (M1 : pm_M), M1 = sN M 4 0 → pm_X M M1 → pm_is M1 (mZ M) 4 → pm_I G H0 M1 H1 locs → W p l e R s m args below meth c H1 locs (cells + 1) (slots + 5) Q (F0 m (pc + 3) ls (.ref (H0.size + mZ M) :: rest))) : W p l e R s m args below meth c H locs cells slots Q (F0 m pc ls rest) := pm_new (t := 4) (C := RX5) (T := TX5) (N := 5) (ty := tyX5) E hI rfl (by decide) rfl iX5 tyX5_ok (by decide +kernel) kl_X9_15 kn_X5 ki_X5 hcells hslots hdg (fun H1 h => kk H1 _ rfl pm_X.n pm_is.new h)
theorem nw_X9_28 (E : pm_E G p s m args meth c cc nL RX9) (hI : pm_I G H0 M H locs) (hcells : cells + 1 ≤ R.cells) (hslots : slots + 3 ≤ R.slots) (hdg : decode cc pc = .ok (.new 28, 3)) (kk : ∀ (H1 : Heap) (M1 : pm_M), M1 = sN M 3 0 → pm_X M M1 → pm_is M1 (mZ M) 3 → pm_I G H0 M1 H1 locs → W p l e R s m args below meth c H1 locs (cells + 1) (slots + 3) Q (F0 m (pc + 3) ls (.ref (H0.size + mZ M) :: rest))) : W p l e R s m args below meth c H locs cells slots Q (F0 m pc ls rest) := pm_new (t := 3) (C := RX4) (T := TX4) (N := 3) (ty := tyX4) E hI rfl (by decide) rfl iX4 tyX4_ok (by decide +kernel) kl_X9_28 kn_X4 ki_X4 hcells hslots hdg (fun H1 h => kk H1 _ rfl pm_X.n pm_is.new h)
theorem nw_X9_35 (E : pm_E G p s m args meth c cc nL RX9) (hI : pm_I G H0 M H locs) (hcells : cells + 1 ≤ R.cells) (hslots : slots + 6 ≤ R.slots) (hdg : decode cc pc = .ok (.new 35, 3)) (kk : ∀ (H1 : Heap) (M1 : pm_M), M1 = sN M 6 0 → pm_X M M1 → pm_is M1 (mZ M) 6 → pm_I G H0 M1 H1 locs → W p l e R s m args below meth c H1 locs (cells + 1) (slots + 6) Q (F0 m (pc + 3) ls (.ref (H0.size + mZ M) :: rest))) : W p l e R s m args below meth c H locs cells slots Q (F0 m pc ls rest) := pm_new (t := 6) (C := RX7) (T := TX7) (N := 6) (ty := tyX7) E hI rfl (by decide) rfl iX7 tyX7_ok (by decide +kernel) kl_X9_35 kn_X7 ki_X7 hcells hslots hdg (fun H1 h => kk H1 _ rfl pm_X.n pm_is.new h)
theorem nw_X9_42 (E : pm_E G p s m args meth c cc nL RX9) (hI : pm_I G H0 M H locs) (hcells : cells + 1 ≤ R.cells) (hslots : slots + 3 ≤ R.slots) (hdg : decode cc pc = .ok (.new 42, 3)) (kk : ∀ (H1 : Heap) (M1 : pm_M), M1 = sN M 0 0 → pm_X M M1 → pm_is M1 (mZ M) 0 → pm_I G H0 M1 H1 locs → W p l e R s m args below meth c H1 locs (cells + 1) (slots + 3) Q (F0 m (pc + 3) ls (.ref (H0.size + mZ M) :: rest))) : W p l e R s m args below meth c H locs cells slots Q (F0 m pc ls rest) := pm_new (t := 0) (C := RX0) (T := TX0) (N := 3) (ty := tyX0) E hI rfl (by decide) rfl iX0 tyX0_ok (by decide +kernel) kl_X9_42 kn_X0 ki_X0 hcells hslots hdg (fun H1 h => kk H1 _ rfl pm_X.n pm_is.new h)
theorem nw_X9_49 (E : pm_E G p s m args meth c cc nL RX9) (hI : pm_I G H0 M H locs) (hcells : cells + 1 ≤ R.cells) (hslots : slots + 2 ≤ R.slots) (hdg : decode cc pc = .ok (.new 49, 3)) (kk : ∀ (H1 : Heap) (M1 : pm_M), M1 = sN M 2 0 → pm_X M M1 → pm_is M1 (mZ M) 2 → pm_I G H0 M1 H1 locs → W p l e R s m args below meth c H1 locs (cells + 1) (slots + 2) Q (F0 m (pc + 3) ls (.ref (H0.size + mZ M) :: rest))) : W p l e R s m args below meth c H locs cells slots Q (F0 m pc ls rest) := pm_new (t := 2) (C := RX3) (T := TX3) (N := 2) (ty := tyX3) E hI rfl (by decide) rfl iX3 tyX3_ok (by decide +kernel) kl_X9_49 kn_X3 ki_X3 hcells hslots hdg (fun H1 h => kk H1 _ rfl pm_X.n pm_is.new h)
theorem nw_X9_56 (E : pm_E G p s m args meth c cc nL RX9) (hI : pm_I G H0 M H locs) (hcells : cells + 1 ≤ R.cells) (hslots : slots + 5 ≤ R.slots) (hdg : decode cc pc = .ok (.new 56, 3)) (kk : ∀ (H1 : Heap) (M1 : pm_M), M1 = sN M 7 0 → pm_X M M1 → pm_is M1 (mZ M) 7 → pm_I G H0 M1 H1 locs → W p l e R s m args below meth c H1 locs (cells + 1) (slots + 5) Q (F0 m (pc + 3) ls (.ref (H0.size + mZ M) :: rest))) : W p l e R s m args below meth c H locs cells slots Q (F0 m pc ls rest) := pm_new (t := 7) (C := RX8) (T := TX8) (N := 5) (ty := tyX8) E hI rfl (by decide) rfl iX8 tyX8_ok (by decide +kernel) kl_X9_56 kn_X8 ki_X8 hcells hslots hdg (fun H1 h => kk H1 _ rfl pm_X.n pm_is.new h)
theorem nw_X9_261 (E : pm_E G p s m args meth c cc nL RX9) (hI : pm_I G H0 M H locs) (hcells : cells + 1 ≤ R.cells) (hslots : slots + 5 ≤ R.slots) (hdg : decode cc pc = .ok (.new 261, 3)) (kk : ∀ (H1 : Heap) (M1 : pm_M), M1 = sN M 1 0 → pm_X M M1 → pm_is M1 (mZ M) 1 → pm_I G H0 M1 H1 locs → W p l e R s m args below meth c H1 locs (cells + 1) (slots + 5) Q (F0 m (pc + 3) ls (.ref (H0.size + mZ M) :: rest))) : W p l e R s m args below meth c H locs cells slots Q (F0 m pc ls rest) := pm_new (t := 1) (C := RX2) (T := TX2) (N := 5) (ty := tyX2) E hI rfl (by decide) rfl iX2 tyX2_ok (by decide +kernel) kl_X9_261 kn_X2 ki_X2 hcells hslots hdg (fun H1 h => kk H1 _ rfl pm_X.n pm_is.new h)
theorem newB {nn : Int32} {N : Nat} (E : pm_E G p s m args meth c cc nL own) (hI : pm_I G H0 M H locs) (hn : ¬ nn < 0) (hN : nn.toNatClampNeg = N) (hbytes : N ≤ 100000) (hcells : cells + 1 ≤ R.cells) (hslots : slots + N ≤ R.slots) (hdg : decode cc pc = .ok (.newarray .byte, 2)) (kk : ∀ (H1 : Heap) (M1 : pm_M), M1 = sN M 10 N → pm_X M M1 → pm_is M1 (mZ M) 10 → pm_I G H0 M1 H1 locs → W p l e R s m args below meth c H1 locs (cells + 1) (slots + N) Q (F0 m (pc + 2) ls (.ref (H0.size + mZ M) :: rest))) : W p l e R s m args below meth c H locs cells slots Q (F0 m pc ls (.int nn :: rest)) := pm_newa (t := 10) (N := N) (ty := .byte) 0 E hI rfl rfl (by decide) rfl rfl kA_byte hn hN (pm_bytes hbytes (by decide)) hcells hslots hdg (fun H1 h => kk H1 _ rfl pm_X.n pm_is.new h)
theorem newI {nn : Int32} {N : Nat} (E : pm_E G p s m args meth c cc nL own) (hI : pm_I G H0 M H locs) (hn : ¬ nn < 0) (hN : nn.toNatClampNeg = N) (hbytes : N ≤ 100000) (hcells : cells + 1 ≤ R.cells) (hslots : slots + N ≤ R.slots) (hdg : decode cc pc = .ok (.newarray .int, 2)) (kk : ∀ (H1 : Heap) (M1 : pm_M), M1 = sN M 11 N → pm_X M M1 → pm_is M1 (mZ M) 11 → pm_I G H0 M1 H1 locs → W p l e R s m args below meth c H1 locs (cells + 1) (slots + N) Q (F0 m (pc + 2) ls (.ref (H0.size + mZ M) :: rest))) : W p l e R s m args below meth c H locs cells slots Q (F0 m pc ls (.int nn :: rest)) := pm_newa (t := 11) (N := N) (ty := .int) 1 E hI rfl rfl (by decide) rfl rfl kA_int hn hN (pm_bytes hbytes (by decide)) hcells hslots hdg (fun H1 h => kk H1 _ rfl pm_X.n pm_is.new h)
theorem newJ {nn : Int32} {N : Nat} (E : pm_E G p s m args meth c cc nL own) (hI : pm_I G H0 M H locs) (hn : ¬ nn < 0) (hN : nn.toNatClampNeg = N) (hbytes : N ≤ 100000) (hcells : cells + 1 ≤ R.cells) (hslots : slots + N ≤ R.slots) (hdg : decode cc pc = .ok (.newarray .long, 2)) (kk : ∀ (H1 : Heap) (M1 : pm_M), M1 = sN M 12 N → pm_X M M1 → pm_is M1 (mZ M) 12 → pm_I G H0 M1 H1 locs → W p l e R s m args below meth c H1 locs (cells + 1) (slots + N) Q (F0 m (pc + 2) ls (.ref (H0.size + mZ M) :: rest))) : W p l e R s m args below meth c H locs cells slots Q (F0 m pc ls (.int nn :: rest)) := pm_newa (t := 12) (N := N) (ty := .long) 2 E hI rfl rfl (by decide) rfl rfl kA_long hn hN (pm_bytes hbytes (by decide)) hcells hslots hdg (fun H1 h => kk H1 _ rfl pm_X.n pm_is.new h)
theorem newZ {nn : Int32} {N : Nat} (E : pm_E G p s m args meth c cc nL own) (hI : pm_I G H0 M H locs) (hn : ¬ nn < 0) (hN : nn.toNatClampNeg = N) (hbytes : N ≤ 100000) (hcells : cells + 1 ≤ R.cells) (hslots : slots + N ≤ R.slots) (hdg : decode cc pc = .ok (.newarray .boolean, 2)) (kk : ∀ (H1 : Heap) (M1 : pm_M), M1 = sN M 13 N → pm_X M M1 → pm_is M1 (mZ M) 13 → pm_I G H0 M1 H1 locs → W p l e R s m args below meth c H1 locs (cells + 1) (slots + N) Q (F0 m (pc + 2) ls (.ref (H0.size + mZ M) :: rest))) : W p l e R s m args below meth c H locs cells slots Q (F0 m pc ls (.int nn :: rest)) := pm_newa (t := 13) (N := N) (ty := .boolean) 3 E hI rfl rfl (by decide) rfl rfl kA_boolean hn hN (pm_bytes hbytes (by decide)) hcells hslots hdg (fun H1 h => kk H1 _ rfl pm_X.n pm_is.new h)
end PMF
end
section
theorem pm_rf_cat (z : Nat) (x : Option Nat) : (pm_rf z x).category = 1 := by cases x <;> rfl
def pm_isC (M : pm_M) (q : Nat) : Prop := q < mZ M ∧ (mT M q = 0 ∨ mT M q = 1 ∨ mT M q = 2 ∨ mT M q = 6 ∨ mT M q = 7)
theorem pm_isC.of {M : pm_M} {q t : Nat} (h : pm_is M q t) (ht : t = 0 ∨ t = 1 ∨ t = 2 ∨ t = 6 ∨ t = 7) : pm_isC M q := ⟨h.1, by rw [h.2]; exact ht⟩
theorem pm_isC.x {M M' : pm_M} {q : Nat} (h : pm_isC M q) (g : pm_X M M') : pm_isC M' q := ⟨Nat.lt_of_lt_of_le h.1 g.1, by rw [(g.2 q h.1).1]; exact h.2⟩
def pm_Pi (P : Int32 → pm_M → Prop) : Option Value → pm_M → Prop := fun o M' => ∃ r : Int32, o = some (.int r) ∧ P r M'
def pm_Pl (P : Int64 → pm_M → Prop) : Option Value → pm_M → Prop := fun o M' => ∃ r : Int64, o = some (.long r) ∧ P r M'
def pm_Pv (P : pm_M → Prop) : Option Value → pm_M → Prop := fun o M' => o = none ∧ P M'
def pm_Po (z t : Nat) (P : Option Nat → pm_M → Prop) : Option Value → pm_M → Prop := fun o M' => ∃ x : Option Nat, o = some (pm_rf z x) ∧ (∀ b, x = some b → pm_is M' b t) ∧ P x M'
def pm_Pc (z : Nat) (P : Nat → pm_M → Prop) : Option Value → pm_M → Prop := fun o M' => ∃ q : Nat, o = some (.ref (z + q)) ∧ pm_isC M' q ∧ P q M'
theorem pm_nb {v : Int32} (h : v = 0 ∨ v = 1) : narrow .boolean (.int v) = .int v := by rcases h with rfl | rfl <;> rfl
theorem pm_room {n s r : Nat} (h : n ≤ 4096) (hs : s + 4096 ≤ r) : s + n ≤ r := by omega
theorem pm_wide {n s k : Nat} (h : n ≤ 4096) (hs : s + 4096 = k) : s + n ≤ k := by omega
theorem pm_cases {x : Int32} {P : Prop} (lo n : Nat) (h1 : ∀ j : Nat, j < n → x = nI (lo + j) → P) (h2 : (∀ j : Nat, j < n → ¬ x = nI (lo + j)) → P) : P := by
  by_cases h : ∃ j, j < n ∧ x = nI (lo + j)
  · obtain ⟨j, hj, hx⟩ := h
    exact h1 j hj hx
  · exact h2 (fun j hj hx => h ⟨j, hj, hx⟩)
theorem pm_out {x : Int32} {lo n : Nat} {hi : Int} (h : ∀ j : Nat, j < n → ¬ x = nI (lo + j)) (hn : lo + n < 2 ^ 31 := by decide) (hh : hi = (lo : Int) + n - 1 := by decide) : x.toInt < (lo : Int) ∨ hi < x.toInt := by
  by_cases h1 : x.toInt < (lo : Int)
  · exact Or.inl h1
  · right
    by_cases h2 : hi < x.toInt
    · exact h2
    · exfalso
      refine h (x.toInt - lo).toNat (by omega) ?_
      apply Int32.toInt_inj.mp
      rw [nI_toInt (by omega)]
      omega
section PMH
variable {p : Program} {l : Launch} {e : Env} {R : Room} {s : State} {m : MethodId} {args : Array Value} {below : List Frame} {meth : Method} {c : Code} {H : Heap} {locs : List Loc} {cells slots : Nat} {Q : State → Prop} {G : pm_G} {H0 : Heap} {M : pm_M}
theorem pm_nrm {cells' slots' : Nat} {g g2 : JFrame} (h1 : cells = cells') (h2 : slots = slots') (h3 : g = g2) (kk : W p l e R s m args below meth c H locs cells' slots' Q g2) : W p l e R s m args below meth c H locs cells slots Q g := by
  subst h1; subst h2; subst h3; exact kk
theorem pm_nrm2 {A B : Prop} (f : A → B) (a : A) : B := f a
theorem pm_C_mono {y : MethodName} {bytes : ByteArray} {maxL : Nat} {ret : Option FieldType} {rm : Room} {avs : List Value} {P P' : Option Value → pm_M → Prop} (hp : ∀ o M', P o M' → P' o M') (h : pm_C l G H0 y bytes maxL ret rm avs M P) : pm_C l G H0 y bytes maxL ret rm avs M P' := by
  unfold pm_C Met at h ⊢
  refine MetFree.mono h (fun _ _ q => q) (fun _ _ _ _ _ q => q) (fun a st o t hP hq => ?_)
  obtain ⟨⟨r, M', e1, e2, e3, e4⟩, h2⟩ := hq
  exact ⟨⟨r, M', e1, hp _ _ e2, e3, e4⟩, h2⟩
theorem pm_Pi_pure {y : MethodName} {bytes : ByteArray} {maxL : Nat} {ret : Option FieldType} {rm : Room} {avs : List Value} {K : Int32 → pm_M → Prop} (h : pm_C l G H0 y bytes maxL ret rm avs M (pm_Pi (fun r9 M9 => M = M9 ∧ K r9 M))) : pm_C l G H0 y bytes maxL ret rm avs M (pm_Pi K) := by
  have hp : ∀ o M', pm_Pi (fun r9 M9 => M = M9 ∧ K r9 M) o M' → pm_Pi K o M' := by
    intro o M' h
    obtain ⟨r, h1, h2, h3⟩ := h
    exact ⟨r, h1, by rw [← h2]; exact h3⟩
  exact pm_C_mono hp h
/-- as pm_start, by the method's own name -/
theorem pm_startF {y : MethodName} {bytes : ByteArray} {maxL : Nat} {ret : Option FieldType} {rm : Room} {avs : List Value} {Post : Option Value → pm_M → Prop} (hy : plainFor y = true) (hlen : (lg_sl avs).length ≤ maxL)
    (body : ∀ (p : Program) (e : Env) (s : State) (m : MethodId) (args : Array Value) (below : List Frame) (meth : Method) (c : Code) (H : Heap) (ls : Array Slot), pm_E G p s m args meth c bytes maxL y.cls → meth.sig.returnType = ret → meth.name = y.name → pm_I G H0 M H [] → lv_has ls maxL (lv_args 0 avs) →
      W p l e rm s m args below meth c H [] 0 0 (pm_Z G H0 M Post below args s rm.cells rm.slots) (F0 m 0 ls [])) : pm_C l G H0 y bytes maxL ret rm avs M Post := by
  unfold pm_C Met
  refine MetFree.of_bodySF (code := bytes) (maxLocals := maxL) (ret := ret) hy ?_ ?_
  · intro args s m h hn
    obtain ⟨meth, c, h1, h2, h3, h4, h5, h6, -, -⟩ := Cond.code_spec hn (atoms_spec (ws := [Cond.code y bytes maxL ret]) h _ List.mem_cons_self)
    exact ⟨meth, c, h1, h2, h3, h4, h5, h6⟩
  · intro p e s m args below meth c s₁ B hml hv _
    obtain ⟨rfl, hI, hK⟩ := hv
    have hown : s.vm.findClass y.cls = some m.cls := findClass_of_methodNamed B.named
    have hl := lv_entry avs (n := maxL) hlen
    have hh0 : s₁.heap = s.heap := by rw [B.state]; rfl
    have hb := body p e s m avs.toArray below meth c s.heap _ ⟨B.exec, B.bytes, hml, hown, pm_tbl_ok hK, hK, B.notSynchronized⟩ B.returns (name_of_methodNamed B.named B.method).1 hI hl
    obtain ⟨t, a1, o, b1, b2, b3⟩ := hb s₁ hh0 (Stand.of_body B)
    rw [lg_entry_eq]
    exact ⟨t, o, a1, b1, b2, ⟨b3.1, b3.2⟩⟩
end PMH
end
section
/-! new int[12][6] -/
def mo (cA : ClassId) (z i : Nat) : Cell := arrV cA 12 (fun j => if j < i then .ref (z + 1 + j) else .null)
def mi (cI : ClassId) : Cell := arrV cI 6 (fun _ => .int 0)
def mf (T : State) (cA cI : ClassId) : Nat → State
  | 0 => T.pushCell (mo cA T.heap.size 0)
  | i + 1 => ((mf T cA cI i).pushCell (mi cI)).setCell T.heap.size (mo cA T.heap.size (i + 1))
theorem mo_step (cA : ClassId) (z i : Nat) : (mo cA z i).setSlot i (.ref (z + 1 + i)) = mo cA z (i + 1) := by
  unfold mo
  rw [arrV_store]
  congr 1
  funext j
  unfold updV
  by_cases e : j = i
  · subst e; simp
  · by_cases h : j < i
    · simp [e, h, Nat.lt_succ_of_lt h]
    · simp [e, h, show ¬ j < i + 1 by omega]
theorem mf_facts (T : State) (cA cI : ClassId) : ∀ i, (mf T cA cI i).heap.size = T.heap.size + 1 + i ∧ (mf T cA cI i).heap[T.heap.size]? = some (mo cA T.heap.size i) ∧ (mf T cA cI i).vm = T.vm ∧ (mf T cA cI i).slotsUsed = T.slotsUsed + 12 + i * 6 := by
  intro i
  induction i with
  | zero => exact ⟨by simp [mf], by simp [mf], rfl, by simp [mf, mo, arrV_size]⟩
  | succ i ih =>
    obtain ⟨a, b, d, u⟩ := ih
    have hlt : T.heap.size < (mf T cA cI i).heap.size := by omega
    have hb' : ((mf T cA cI i).pushCell (mi cI)).heap[T.heap.size]? = some (mo cA T.heap.size i) := by rw [State.heap_pushCell_of_lt (h := hlt)]; exact b
    refine ⟨?_, State.heap_setCell_self hb', by simp [mf, d], ?_⟩
    · show (((mf T cA cI i).pushCell (mi cI)).setCell T.heap.size (mo cA T.heap.size (i + 1))).heap.size = _
      rw [size_setCell, size_pushCell, a]
      exact Nat.add_assoc _ _ _
    · simp [mf, u, mi, arrV_size, Nat.succ_mul]; omega
theorem mf_top (T : State) (f : JFrame) (cA cI : ClassId) : ∀ i, mf (T.setTop f) cA cI i = (mf T cA cI i).setTop f := by
  intro i
  induction i with
  | zero => rfl
  | succ i ih => simp only [mf, ih, State.heap_setTop, State.pushCell_setTop, State.setCell_setTop]
theorem mf_old (T : State) (cA cI : ClassId) {a : Addr} (ha : a < T.heap.size) : ∀ i, (mf T cA cI i).heap[a]? = T.heap[a]? := by
  intro i
  induction i with
  | zero => exact State.heap_pushCell_of_lt _ _ ha
  | succ i ih =>
    have f1 := (mf_facts T cA cI i).1
    have hlt : a < (mf T cA cI i).heap.size := by rw [f1]; exact Nat.lt_of_lt_of_le ha (by omega)
    show (((mf T cA cI i).pushCell (mi cI)).setCell T.heap.size _).heap[a]? = _
    rw [State.heap_setCell_other (Nat.ne_of_gt ha), State.heap_pushCell_of_lt (h := hlt)]
    exact ih
theorem mf_row (T : State) (cA cI : ClassId) : ∀ i j, j < i → (mf T cA cI i).heap[T.heap.size + 1 + j]? = some (mi cI) := by
  intro i
  induction i with
  | zero => intro j h; omega
  | succ i ih =>
    intro j h
    have f1 := (mf_facts T cA cI i).1
    show (((mf T cA cI i).pushCell (mi cI)).setCell T.heap.size _).heap[T.heap.size + 1 + j]? = _
    rw [State.heap_setCell_other (show T.heap.size ≠ T.heap.size + 1 + j by omega)]
    by_cases hj : j < i
    · have hlt : T.heap.size + 1 + j < (mf T cA cI i).heap.size := by omega
      rw [State.heap_pushCell_of_lt (h := hlt)]
      exact ih j hj
    · have e : j = i := by omega
      subst e
      rw [← f1]
      exact State.heap_pushCell_size _ _
section MNW
variable {E : CtlPost} {e : Env} {d : Bool} {acts : List Action} {s : State}
theorem mn_arr {c comp : ClassId} {k : Class} {type : FieldType} {len : Nat} {init : Value} (hk : s.vm.classes[c]? = some k) (hkind : k.kind = .array comp type)
    (hlimit : ¬ len > e.platform.arrayLengthLimit) (hheap : ¬ len * componentBytes type > e.platform.maxHeapBytes) (hfit : fits type init = true) (hdef : init.isDefault = true) {Q : Addr → Pre}
    (h1 : s.heap.size < e.platform.maxCells) (h2 : s.slotsUsed + len ≤ e.platform.maxSlots)
    (hq : Q s.heap.size d acts (s.pushCell (arrV c len (fun _ => init)))) : wp (Jvm.newArray c len init) Q E e d acts s := by
  have hfits : ∀ i v, (Array.replicate len init)[i]? = some v → s.fitsSlot c .none i v = true := by
    intro i v hv
    simp only [Array.getElem?_replicate] at hv
    split at hv
    · cases hv; simp [State.fitsSlot, State.slotType?, hk, hkind, hfit]
    · cases hv
  have hda : allocActs (Array.replicate len init) s.heap.size acts = acts := by
    have hall : ((Array.replicate len init).all (·.isDefault)) = true := by
      rw [Array.all_replicate]; split <;> simp [hdef]
    unfold allocActs; rw [if_pos hall]
  rw [← arrV_new] at hq
  simp only [Jvm.newArray, Jvm.arrayFits, wp_bind', Jvm.W.ask, Jvm.W.ite, hlimit, if_false, wp_pure', Jvm.W.theClass, hk, hkind, hheap, Jvm.W.alloc, Jvm.W.stop, Option.some.injEq, exists_eq_left', Array.size_replicate, hda]
  rw [if_neg (by omega)]
  exact ⟨h1, h2, hfits, hq⟩
end MNW
section MNX
variable {E : CtlPost} {e : Env} {d : Bool} {acts : List Action} {s : State}
theorem mn_make1 {comp cc : ClassId} {kc : Class} (hkc : s.vm.classes[comp]? = some kc) (hkindc : kc.kind = .array cc .int) (hl2 : ¬ 6 > e.platform.arrayLengthLimit) (hh2 : ¬ 6 * componentBytes .int > e.platform.maxHeapBytes)
    (h1 : s.heap.size < e.platform.maxCells) (h2 : s.slotsUsed + 6 ≤ e.platform.maxSlots) {Q : Addr → Pre} (hq : Q s.heap.size d acts (s.pushCell (mi comp))) : wp (multianewarray.make comp [(6 : Int32)]) Q E e d acts s := by
  have hm : ¬ (6 : Int32) < 0 := by decide
  rw [multianewarray.make]
  simp only [wp_bind', Jvm.W.ite, hm, if_false, wp_pure', Jvm.W.theClass, hkc, hkindc, Option.some.injEq, exists_eq_left']
  exact mn_arr hkc hkindc hl2 hh2 rfl rfl h1 h2 hq
theorem mn_make2 {c comp cc : ClassId} {k kc : Class} (hk : s.vm.classes[c]? = some k) (hkind : k.kind = .array comp (.array .int)) (hkc : s.vm.classes[comp]? = some kc) (hkindc : kc.kind = .array cc .int)
    (hl1 : ¬ 12 > e.platform.arrayLengthLimit) (hh1 : ¬ 12 * componentBytes (.array .int) > e.platform.maxHeapBytes) (hl2 : ¬ 6 > e.platform.arrayLengthLimit) (hh2 : ¬ 6 * componentBytes .int > e.platform.maxHeapBytes)
    (hc : s.heap.size + 1 + 12 ≤ e.platform.maxCells) (hs : s.slotsUsed + 12 + 72 ≤ e.platform.maxSlots) {Q : Addr → Pre} (hq : ∀ d' acts', Q s.heap.size d' acts' (mf s c comp 12)) : wp (multianewarray.make c [(12 : Int32), (6 : Int32)]) Q E e d acts s := by
  have hn : ¬ (12 : Int32) < 0 := by decide
  have hfind : ([(6 : Int32)].find? (· < 0)) = none := by decide
  rw [multianewarray.make]
  simp only [wp_bind', Jvm.W.ite, hn, if_false, wp_pure', Jvm.W.theClass, hk, hkind, Option.some.injEq, exists_eq_left']
  refine mn_arr (len := 12) hk hkind hl1 hh1 rfl rfl (by omega) (by omega) ?_
  simp only [hfind]
  rw [ite_self, wp_bind', Std.Legacy.Range.forIn_eq_forIn_range']
  have hsz : ([:(12 : Int32).toNatClampNeg] : Std.Legacy.Range).size = 12 := by decide
  rw [hsz]
  show wp (forIn (List.range' 0 12 1) PUnit.unit _) _ E e d acts _
  refine wp_forIn_inv (fun rest s' => ∃ i, i ≤ 12 ∧ rest = List.range' i (12 - i) ∧ s' = mf s c comp i) _ _ ⟨0, Nat.zero_le _, rfl, by simp only [mf, mo]; congr 2⟩ ?_ ?_
  · rintro x rest s' d' acts' Q' ⟨i, hi, hl, rfl⟩ hnext
    have hlt : i < 12 := by
      rcases Nat.lt_or_ge i 12 with h | h
      · exact h
      · rw [show 12 - i = 0 from by omega] at hl; simp at hl
    obtain ⟨rfl, hrest⟩ : x = i ∧ rest = List.range' (i + 1) (12 - (i + 1)) := by
      rw [show 12 - i = (12 - (i + 1)) + 1 from by omega, List.range'_succ] at hl
      exact ⟨(List.cons.inj hl).1, (List.cons.inj hl).2⟩
    obtain ⟨f1, f2, f3, f4⟩ := mf_facts s c comp x
    simp only [wp_bind']
    refine mn_make1 (by rw [f3]; exact hkc) hkindc hl2 hh2 (by rw [f1]; omega) (by rw [f4]; omega) ?_
    have hlt0 : s.heap.size < (mf s c comp x).heap.size := by rw [f1]; omega
    simp only [wp_bind', Jvm.W.writeLoc, wp_pure']
    refine ⟨mo c s.heap.size x, by rw [State.heap_pushCell_of_lt (h := hlt0)]; exact f2, by simp [mo, arrV], by unfold mo; rw [arrV_size]; exact hlt, ?_, hnext _ _ _ ⟨x + 1, hlt, hrest, ?_⟩⟩
    · show State.fitsSlot _ c .none x _ = true
      simp [State.fitsSlot, State.slotType?, f3, hk, hkind, fits]
    · rw [f1, mo_step]; rfl
  · rintro s' d' acts' ⟨i, hi, hl, rfl⟩
    have hiN : i = 12 := by
      rcases Nat.lt_or_ge i 12 with h | h
      · rw [show 12 - i = (12 - (i + 1)) + 1 from by omega, List.range'_succ] at hl; cases hl
      · omega
    subst hiN
    simp only [wp_pure']
    exact hq _ _
end MNX
section PMM
variable {p : Program} {l : Launch} {e : Env} {R : Room} {s : State} {m : MethodId} {args : Array Value} {below : List Frame} {meth : Method} {c : Code} {H : Heap} {locs : List Loc} {cells slots : Nat} {Q : State → Prop}
variable {cc : ByteArray} {pc nL index : Nat} {ls : Array Slot} {rest : List Value} {G : pm_G} {H0 : Heap} {M : pm_M} {T : State}
theorem mn_stand (X : Stand p l e R s m args below meth c T locs cells slots) (cA cI : ClassId) : ∀ i, Stand p l e R s m args below meth c (mf T cA cI i) locs (cells + 1 + i) (slots + 12 + i * 6) := by
  intro i
  induction i with
  | zero =>
    have h := X.pushed (mo cA T.heap.size 0)
    rw [show (mo cA T.heap.size 0).slots.size = 12 from arrV_size _ _ _] at h
    simpa [mf] using h
  | succ i ih =>
    obtain ⟨f1, f2, f3, f4⟩ := mf_facts T cA cI i
    have hlt0 : T.heap.size < (mf T cA cI i).heap.size := by rw [f1]; omega
    have hcell : ((mf T cA cI i).pushCell (mi cI)).heap[T.heap.size]? = some (mo cA T.heap.size i) := by rw [State.heap_pushCell_of_lt (h := hlt0)]; exact f2
    have h := (ih.pushed (mi cI)).stored hcell i (.ref (T.heap.size + 1 + i))
    rw [show (mi cI).slots.size = 6 from arrV_size _ _ _, mo_step] at h
    have h2 := Stand.forget (locs := locs) h (fun q hq => by
      rw [List.mem_singleton.mp hq]
      exact X.same.2.1)
    have e3 : slots + 12 + (i + 1) * 6 = slots + 12 + i * 6 + 6 := by omega
    rw [e3]
    exact h2
end PMM
end
section
section PMN2
variable {p : Program} {l : Launch} {e : Env} {R : Room} {s : State} {m : MethodId} {args : Array Value} {below : List Frame} {meth : Method} {c : Code} {H : Heap} {locs : List Loc} {cells slots : Nat} {Q : State → Prop}
variable {cc : ByteArray} {pc nL index : Nat} {ls : Array Slot} {rest : List Value} {G : pm_G} {H0 : Heap} {M : pm_M} {T : State}
theorem mn_step (X : Stand p l e R s m args below meth c T locs cells slots) (hexec : p.tables.exec = Jvm.exec) {own : String} {cA cI cc : ClassId} {kA kC : Class} (hown : s.vm.findClass own = some m.cls) (hclink : (Cond.classLink own index "[[I").before args s = true)
    (hnameA : s.vm.findClass "[[I" = some cA) (hkA : s.vm.classes[cA]? = some kA) (hkindA : kA.kind = .array cI (.array .int)) (hkC : s.vm.classes[cI]? = some kC) (hkindC : kC.kind = .array cc .int)
    {g : JFrame} (hg : g.method = m) (hdg : decode c.code g.pc = .ok (.multianewarray index 2, 4)) {rest : List Value} (hstack : g.stack = .int 6 :: .int 12 :: rest) (hcells : cells + 13 ≤ R.cells) (hslots : slots + 84 ≤ R.slots) :
    ∃ vm₁ : Vm, Stand p l e R s m args below meth c (mf (T.setVm vm₁) cA cI 12) locs (cells + 13) (slots + 84) ∧
      ∀ target, Steps p.tables e below ((mf (T.setVm vm₁) cA cI 12).setTop { g with pc := g.pc + 4, stack := .ref T.heap.size :: rest }) target → Steps p.tables e below (T.setTop g) target := by
  subst hg
  have hpl : e.platform.magicAccessors = ({} : Platform).magicAccessors := by rw [X.admits.platform]
  obtain ⟨c0, hfc0, hcl⟩ := Cond.classLink_spec hown hclink e.platform hpl
  cases hnameA.symm.trans hfc0
  obtain ⟨hg₁, hwarm₁, hready₁⟩ := State.classEntry (e := e) X.warmed hcl
  generalize T.vm.noted g.method.cls index (.cls cA) = vm₁ at hg₁ hwarm₁ hready₁
  have hal : s.vm.Alike vm₁ := hwarm₁.alike
  obtain ⟨kA₁, hkA₁, heA⟩ := hal.2.2 _ _ hkA
  obtain ⟨kC₁, hkC₁, heC⟩ := hal.2.2 _ _ hkC
  have hkindA₁ : kA₁.kind = .array cI (.array .int) := by rw [heA]; exact hkindA
  have hkindC₁ : kC₁.kind = .array cc .int := by rw [heC]; exact hkindC
  have X₁ := X.noted hwarm₁
  obtain ⟨hr1, hr2⟩ := X.roomAbove (a := 13) (b := 84) hcells hslots
  have XF := mn_stand X₁ cA cI 12
  refine ⟨vm₁, XF, fun target hrest => ?_⟩
  have hl1 : ¬ 12 > e.platform.arrayLengthLimit := by rw [Launch.admits_arrayLengthLimit X.admits]; omega
  have hh1 : ¬ 12 * componentBytes (.array .int) > e.platform.maxHeapBytes := by rw [Launch.admits_maxHeapBytes X.admits]; decide
  have hl2 : ¬ 6 > e.platform.arrayLengthLimit := by rw [Launch.admits_arrayLengthLimit X.admits]; omega
  have hh2 : ¬ 6 * componentBytes .int > e.platform.maxHeapBytes := by rw [Launch.admits_maxHeapBytes X.admits]; decide
  jvm_step X.here [hexec, hdg]
  simp only [multianewarray.sem, wp_bind', Jvm.W.resolveClassAt_links (State.method?_setTop g X.here.top) hg₁]
  rw [Jvm.W.popN, if_neg (by decide)]
  refine ⟨g, State.topJava?_setTop' (s := T.setVm vm₁) g X.here.top, [.int 12, .int 6], rest, rfl, hstack, ?_⟩
  simp only [List.mapM_cons, List.mapM_nil, wp_bind', wp_pure']
  refine mn_make2 hkA₁ hkindA₁ hkC₁ hkindC₁ hl1 hh1 hl2 hh2 (by show T.heap.size + 1 + _ ≤ _; omega) (by show T.slotsUsed + _ + _ ≤ _; omega) (fun d' acts' => ?_)
  have eS : ((T.setTop g).setVm vm₁).setTop { g with stack := rest } = (T.setVm vm₁).setTop { g with stack := rest } := by
    show ((T.setVm vm₁).setTop g).setTop _ = _
    rw [State.setTop_setTop]
  rw [eS, mf_top]
  simp only [wp_bind', Jvm.W.mark, Jvm.W.pushRef, State.topJava?_setTop' _ XF.here.top, Option.some.injEq, exists_eq_left', State.setTop_setTop, State.heap_setTop]
  intro acts
  simp [jvm, XF.here.top]
  exact hrest
theorem sM_old {n k b : Nat} (h : b < mZ M) : pm_cell G H0.size (sM M n k) b = pm_cell G H0.size M b := by
  have hb : ¬ mZ M ≤ b := Nat.not_le.mpr h
  exact pm_cell_same (funext fun _ => if_neg hb) (funext fun _ => if_neg hb) (funext fun _ => if_neg hb) (if_neg hb) (if_neg hb)
theorem pm_mnew (E : pm_E G p s m args meth c cc nL RX8) (hI : pm_I G H0 M H locs) (hl : Cond.classLink RX8 index "[[I" ∈ pm_tbl) (hcells : cells + 13 ≤ R.cells) (hslots : slots + 84 ≤ R.slots) (hdg : decode cc pc = .ok (.multianewarray index 2, 4))
    (kk : ∀ (H1 : Heap) (M1 : pm_M), M1 = sM M 12 6 → pm_X M M1 → pm_is M1 (mZ M) 16 → pm_I G H0 M1 H1 locs → W p l e R s m args below meth c H1 locs (cells + 13) (slots + 84) Q (F0 m (pc + 4) ls (.ref (H0.size + mZ M) :: rest))) : W p l e R s m args below meth c H locs cells slots Q (F0 m pc ls (.int 6 :: .int 12 :: rest)) := by
  obtain ⟨hx, hb, hml, hown, hts, hK, hlk⟩ := E
  obtain ⟨kA, hkA, hkindA⟩ := hK.2.2.2.2.2.2
  have hnameA : s.vm.findClass "[[I" = some (G.2 16) := (hK.1.2 6 _ rfl).2
  obtain ⟨-, kC, hkC, cc', hkindC⟩ := (hK.1.2 1 _ rfl).1 0 (fun _ => .null)
  obtain ⟨hsz, hP, hS, hT⟩ := hI
  intro T hTH X
  obtain ⟨vm₁, X', step⟩ := mn_step X hx hown (hts _ hl) hnameA hkA hkindA hkC hkindC (g := F0 m pc ls (.int 6 :: .int 12 :: rest)) rfl (by rw [hb]; exact hdg) rfl hcells hslots
  obtain ⟨f1, f2, -, -⟩ := mf_facts (T.setVm vm₁) (G.2 16) (G.2 11) 12
  have hTh : (T.setVm vm₁).heap = H := hTH
  have fo : ∀ q, q < H.size → (mf (T.setVm vm₁) (G.2 16) (G.2 11) 12).heap[q]? = H[q]? := fun q hq => by
    rw [mf_old (T.setVm vm₁) (G.2 16) (G.2 11) (a := q) (by rw [hTh]; exact hq) 12, hTh]
  have fr : ∀ j, j < 12 → (mf (T.setVm vm₁) (G.2 16) (G.2 11) 12).heap[H.size + 1 + j]? = some (mi (G.2 11)) := fun j hj => by
    have := mf_row (T.setVm vm₁) (G.2 16) (G.2 11) 12 j hj
    rw [hTh] at this
    exact this
  rw [hTh] at f1 f2
  generalize mf (T.setVm vm₁) (G.2 16) (G.2 11) 12 = F at X' step f1 f2 fo fr
  have hX1 : pm_X M (sM M 12 6) := pm_X.m
  have hI1 : pm_I G H0 (sM M 12 6) F.heap locs := by
    refine ⟨by rw [f1, hsz]; show _ = H0.size + (mZ M + 1 + 12); omega, fun k q hk => ?_, ⟨Nat.le_trans hS.1 (by rw [f1]; omega), fun q g1 g2 => ?_, hS.2.2⟩, fun a k b ha hr => ?_⟩
    · obtain ⟨hkz, rfl⟩ := pm_get' hk
      by_cases h1 : k < mZ M
      · rw [sM_old h1]
        exact (hP k _ (pm_get h1)).kept (fo _ (by rw [hsz]; show H0.size + k < _; omega))
      · by_cases h2 : k = mZ M
        · subst h2
          have hT1 : mT (sM M 12 6) (mZ M) = 16 := by show (if mZ M ≤ mZ M then (if mZ M = mZ M then 16 else 11) else _) = 16; simp
          have hN1 : mN (sM M 12 6) (mZ M) = 12 := by show (if mZ M ≤ mZ M then (if mZ M = mZ M then 12 else 6) else _) = 12; simp
          rw [pm_cell_r hT1 (by decide), hN1]
          show F.heap[H0.size + mZ M]? = some (vp_cell _ _)
          rw [← hsz, f2, vp_cell_q]
          unfold mo
          congr 2
          funext j
          have hR1 : mR (sM M 12 6) (mZ M) j = if j < 12 then some (mZ M + 1 + j) else none := by show (if mZ M ≤ mZ M then (if mZ M = mZ M ∧ j < 12 then some (mZ M + 1 + j) else none) else _) = _; simp
          rw [hR1, hsz]
          by_cases hj : j < 12
          · rw [if_pos hj, if_pos hj]
            show Value.ref (H0.size + mZ M + 1 + j) = Value.ref (H0.size + (mZ M + 1 + j))
            rw [show H0.size + mZ M + 1 + j = H0.size + (mZ M + 1 + j) by omega]
          · rw [if_neg hj, if_neg hj]
            rfl
        · have hkz' : k < mZ M + 1 + 12 := hkz
          have hT1 : mT (sM M 12 6) k = 11 := by show (if mZ M ≤ k then (if k = mZ M then 16 else 11) else _) = 11; rw [if_pos (by omega), if_neg h2]
          have hN1 : mN (sM M 12 6) k = 6 := by show (if mZ M ≤ k then (if k = mZ M then 12 else 6) else _) = 6; rw [if_pos (by omega), if_neg h2]
          have hI0 : mI (sM M 12 6) k = fun _ => 0 := by funext j; show (if mZ M ≤ k then 0 else _) = (0 : Int32); rw [if_pos (by omega)]
          rw [pm_cell_i hT1 (by decide), hN1, hI0]
          show F.heap[H0.size + k]? = some (vp_cell _ _)
          rw [show H0.size + k = H.size + 1 + (k - mZ M - 1) by omega, fr _ (by omega), vp_cell_i]
          rfl
    · rw [fo q (Nat.lt_of_lt_of_le g1 hS.1)]
      exact hS.2.1 q g1 g2
    · by_cases h1 : a < mZ M
      · have h2 : mR M a k = some b := by rw [← hr]; exact (if_neg (Nat.not_le.mpr h1)).symm
        have h3 := (hT a k b h1 h2).x hX1
        rw [(hX1.2 a h1).1]
        exact h3
      · have hr2 : (if a = mZ M ∧ k < 12 then some (mZ M + 1 + k) else none) = some b := by
          rw [← hr]
          exact (if_pos (Nat.not_lt.mp h1)).symm
        by_cases h2 : a = mZ M ∧ k < 12
        · rw [if_pos h2] at hr2
          cases hr2
          have hT1 : mT (sM M 12 6) a = 16 := by rw [h2.1]; show (if mZ M ≤ mZ M then (if mZ M = mZ M then 16 else 11) else _) = 16; simp
          rw [hT1]
          refine ⟨by show _ < mZ M + 1 + 12; omega, ?_⟩
          show (if mZ M ≤ mZ M + 1 + k then (if mZ M + 1 + k = mZ M then 16 else 11) else _) = 11
          rw [if_pos (by omega), if_neg (by omega)]
        · rw [if_neg h2] at hr2
          cases hr2
  have his : pm_is (sM M 12 6) (mZ M) 16 := ⟨by show _ < mZ M + 1 + 12; omega, by show (if mZ M ≤ mZ M then (if mZ M = mZ M then 16 else 11) else _) = 16; simp⟩
  obtain ⟨t, a1, b1⟩ := kk _ _ rfl hX1 his hI1 _ rfl X'
  refine ⟨t, step t ?_, b1⟩
  have e : T.heap.size = H0.size + mZ M := by rw [hTH]; exact hsz
  rw [e]
  exact a1
end PMN2
end
