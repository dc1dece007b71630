section
-- ===== PART A: goes FIRST, ahead of the names: the tables' words, and 'selects' of the private methods out of them =====
/-- a private method of a class that the tables say can be made, by its rows of tables_1 -/
def lw_okq (q : MethodName × Nat) : Prop := (q.1.cls ≠ "java/lang/invoke/MethodHandle" ∧ q.1.cls ≠ "java/lang/invoke/VarHandle") ∧ Cond.instantiable q.1.cls q.2 ∈ tables_1 ∧ Cond.privateMethod q.1 ∈ tables_1 ∧ Cond.instanceMethod q.1 ∈ tables_1
theorem lw_p0 : lw_okq (⟨"MuseumYear$Told", "beAsAtFirst", "()V"⟩, 5) := ⟨⟨by decide +kernel, by decide +kernel⟩, List.mem_of_getElem? (i := 22) (by decide +kernel), List.mem_of_getElem? (i := 28) (by decide +kernel), List.mem_of_getElem? (i := 29) (by decide +kernel)⟩
theorem lw_p1 : lw_okq (⟨"MuseumYear$Wishes", "beAsAtFirst", "()V"⟩, 5) := ⟨⟨by decide +kernel, by decide +kernel⟩, List.mem_of_getElem? (i := 70) (by decide +kernel), List.mem_of_getElem? (i := 76) (by decide +kernel), List.mem_of_getElem? (i := 77) (by decide +kernel)⟩
theorem lw_p2 : lw_okq (⟨"MuseumYear$Reader", "advance", "()V"⟩, 10) := ⟨⟨by decide +kernel, by decide +kernel⟩, List.mem_of_getElem? (i := 104) (by decide +kernel), List.mem_of_getElem? (i := 307) (by decide +kernel), List.mem_of_getElem? (i := 308) (by decide +kernel)⟩
theorem lw_p3 : lw_okq (⟨"MuseumYear$Reader", "advanceOverNumber", "()V"⟩, 10) := ⟨⟨by decide +kernel, by decide +kernel⟩, List.mem_of_getElem? (i := 104) (by decide +kernel), List.mem_of_getElem? (i := 314) (by decide +kernel), List.mem_of_getElem? (i := 315) (by decide +kernel)⟩
theorem lw_p4 : lw_okq (⟨"MuseumYear$Reader", "readItem", "()Z"⟩, 10) := ⟨⟨by decide +kernel, by decide +kernel⟩, List.mem_of_getElem? (i := 104) (by decide +kernel), List.mem_of_getElem? (i := 321) (by decide +kernel), List.mem_of_getElem? (i := 322) (by decide +kernel)⟩
theorem lw_p5 : lw_okq (⟨"MuseumYear$Reader", "readCases", "()Z"⟩, 10) := ⟨⟨by decide +kernel, by decide +kernel⟩, List.mem_of_getElem? (i := 104) (by decide +kernel), List.mem_of_getElem? (i := 325) (by decide +kernel), List.mem_of_getElem? (i := 326) (by decide +kernel)⟩
theorem lw_p6 : lw_okq (⟨"MuseumYear$Reader", "nextIsNumber", "(II)Z"⟩, 10) := ⟨⟨by decide +kernel, by decide +kernel⟩, List.mem_of_getElem? (i := 104) (by decide +kernel), List.mem_of_getElem? (i := 329) (by decide +kernel), List.mem_of_getElem? (i := 330) (by decide +kernel)⟩
theorem lw_p7 : lw_okq (⟨"MuseumYear$Reader", "isNumber", "(II)Z"⟩, 10) := ⟨⟨by decide +kernel, by decide +kernel⟩, List.mem_of_getElem? (i := 104) (by decide +kernel), List.mem_of_getElem? (i := 333) (by decide +kernel), List.mem_of_getElem? (i := 334) (by decide +kernel)⟩
theorem lw_p8 : lw_okq (⟨"MuseumYear$Reader", "nextIsEnd", "()Z"⟩, 10) := ⟨⟨by decide +kernel, by decide +kernel⟩, List.mem_of_getElem? (i := 104) (by decide +kernel), List.mem_of_getElem? (i := 337) (by decide +kernel), List.mem_of_getElem? (i := 338) (by decide +kernel)⟩
theorem lw_p9 : lw_okq (⟨"MuseumYear$Reader", "readLights", "()Z"⟩, 10) := ⟨⟨by decide +kernel, by decide +kernel⟩, List.mem_of_getElem? (i := 104) (by decide +kernel), List.mem_of_getElem? (i := 341) (by decide +kernel), List.mem_of_getElem? (i := 342) (by decide +kernel)⟩
theorem lw_p10 : lw_okq (⟨"MuseumYear$Reader", "readThing", "()Z"⟩, 10) := ⟨⟨by decide +kernel, by decide +kernel⟩, List.mem_of_getElem? (i := 104) (by decide +kernel), List.mem_of_getElem? (i := 345) (by decide +kernel), List.mem_of_getElem? (i := 346) (by decide +kernel)⟩
theorem lw_p11 : lw_okq (⟨"MuseumYear$Reader", "readBarred", "()Z"⟩, 10) := ⟨⟨by decide +kernel, by decide +kernel⟩, List.mem_of_getElem? (i := 104) (by decide +kernel), List.mem_of_getElem? (i := 349) (by decide +kernel), List.mem_of_getElem? (i := 350) (by decide +kernel)⟩
theorem lw_p12 : lw_okq (⟨"MuseumYear$Reader", "readLoan", "()Z"⟩, 10) := ⟨⟨by decide +kernel, by decide +kernel⟩, List.mem_of_getElem? (i := 104) (by decide +kernel), List.mem_of_getElem? (i := 361) (by decide +kernel), List.mem_of_getElem? (i := 362) (by decide +kernel)⟩
theorem lw_p13 : lw_okq (⟨"MuseumYear", "isThing", "(I)Z"⟩, 11) := ⟨⟨by decide +kernel, by decide +kernel⟩, List.mem_of_getElem? (i := 14) (by decide +kernel), List.mem_of_getElem? (i := 393) (by decide +kernel), List.mem_of_getElem? (i := 394) (by decide +kernel)⟩
theorem lw_p14 : lw_okq (⟨"MuseumYear", "isSeason", "(I)Z"⟩, 11) := ⟨⟨by decide +kernel, by decide +kernel⟩, List.mem_of_getElem? (i := 14) (by decide +kernel), List.mem_of_getElem? (i := 401) (by decide +kernel), List.mem_of_getElem? (i := 402) (by decide +kernel)⟩
theorem lw_p15 : lw_okq (⟨"MuseumYear", "isCase", "(I)Z"⟩, 11) := ⟨⟨by decide +kernel, by decide +kernel⟩, List.mem_of_getElem? (i := 14) (by decide +kernel), List.mem_of_getElem? (i := 409) (by decide +kernel), List.mem_of_getElem? (i := 410) (by decide +kernel)⟩
def lw_privs_1 : List (MethodName × Nat) := [(⟨"MuseumYear$Told", "beAsAtFirst", "()V"⟩, 5), (⟨"MuseumYear$Wishes", "beAsAtFirst", "()V"⟩, 5), (⟨"MuseumYear$Reader", "advance", "()V"⟩, 10), (⟨"MuseumYear$Reader", "advanceOverNumber", "()V"⟩, 10), (⟨"MuseumYear$Reader", "readItem", "()Z"⟩, 10), (⟨"MuseumYear$Reader", "readCases", "()Z"⟩, 10), (⟨"MuseumYear$Reader", "nextIsNumber", "(II)Z"⟩, 10), (⟨"MuseumYear$Reader", "isNumber", "(II)Z"⟩, 10), (⟨"MuseumYear$Reader", "nextIsEnd", "()Z"⟩, 10), (⟨"MuseumYear$Reader", "readLights", "()Z"⟩, 10), (⟨"MuseumYear$Reader", "readThing", "()Z"⟩, 10), (⟨"MuseumYear$Reader", "readBarred", "()Z"⟩, 10), (⟨"MuseumYear$Reader", "readLoan", "()Z"⟩, 10), (⟨"MuseumYear", "isThing", "(I)Z"⟩, 11), (⟨"MuseumYear", "isSeason", "(I)Z"⟩, 11), (⟨"MuseumYear", "isCase", "(I)Z"⟩, 11)]
theorem lw_r1 : ∀ q ∈ lw_privs_1, lw_okq q := List.forall_mem_cons.mpr ⟨lw_p0, List.forall_mem_cons.mpr ⟨lw_p1, List.forall_mem_cons.mpr ⟨lw_p2, List.forall_mem_cons.mpr ⟨lw_p3, List.forall_mem_cons.mpr ⟨lw_p4, List.forall_mem_cons.mpr ⟨lw_p5, List.forall_mem_cons.mpr ⟨lw_p6, List.forall_mem_cons.mpr ⟨lw_p7, List.forall_mem_cons.mpr ⟨lw_p8, List.forall_mem_cons.mpr ⟨lw_p9, List.forall_mem_cons.mpr ⟨lw_p10, List.forall_mem_cons.mpr ⟨lw_p11, List.forall_mem_cons.mpr ⟨lw_p12, List.forall_mem_cons.mpr ⟨lw_p13, List.forall_mem_cons.mpr ⟨lw_p14, List.forall_mem_cons.mpr ⟨lw_p15, fun _ h => absurd h List.not_mem_nil⟩⟩⟩⟩⟩⟩⟩⟩⟩⟩⟩⟩⟩⟩⟩⟩
theorem lw_p16 : lw_okq (⟨"MuseumYear", "rememberWishes", "()V"⟩, 11) := ⟨⟨by decide +kernel, by decide +kernel⟩, List.mem_of_getElem? (i := 14) (by decide +kernel), List.mem_of_getElem? (i := 421) (by decide +kernel), List.mem_of_getElem? (i := 422) (by decide +kernel)⟩
theorem lw_p17 : lw_okq (⟨"MuseumYear$Search", "prepare", "(IIZ)V"⟩, 17) := ⟨⟨by decide +kernel, by decide +kernel⟩, List.mem_of_getElem? (i := 172) (by decide +kernel), List.mem_of_getElem? (i := 481) (by decide +kernel), List.mem_of_getElem? (i := 482) (by decide +kernel)⟩
theorem lw_p18 : lw_okq (⟨"MuseumYear$Search", "openSeason", "(III)V"⟩, 17) := ⟨⟨by decide +kernel, by decide +kernel⟩, List.mem_of_getElem? (i := 172) (by decide +kernel), List.mem_of_getElem? (i := 496) (by decide +kernel), List.mem_of_getElem? (i := 497) (by decide +kernel)⟩
theorem lw_p19 : lw_okq (⟨"MuseumYear$Search", "thingsThatBear", "(I)I"⟩, 17) := ⟨⟨by decide +kernel, by decide +kernel⟩, List.mem_of_getElem? (i := 172) (by decide +kernel), List.mem_of_getElem? (i := 500) (by decide +kernel), List.mem_of_getElem? (i := 501) (by decide +kernel)⟩
theorem lw_p20 : lw_okq (⟨"MuseumYear$Search", "withPartner", "(II)I"⟩, 17) := ⟨⟨by decide +kernel, by decide +kernel⟩, List.mem_of_getElem? (i := 172) (by decide +kernel), List.mem_of_getElem? (i := 512) (by decide +kernel), List.mem_of_getElem? (i := 513) (by decide +kernel)⟩
theorem lw_p21 : lw_okq (⟨"MuseumYear$Search", "countRuns", "()V"⟩, 17) := ⟨⟨by decide +kernel, by decide +kernel⟩, List.mem_of_getElem? (i := 172) (by decide +kernel), List.mem_of_getElem? (i := 516) (by decide +kernel), List.mem_of_getElem? (i := 517) (by decide +kernel)⟩
theorem lw_p22 : lw_okq (⟨"MuseumYear$Search", "leavesAt", "(III)I"⟩, 17) := ⟨⟨by decide +kernel, by decide +kernel⟩, List.mem_of_getElem? (i := 172) (by decide +kernel), List.mem_of_getElem? (i := 521) (by decide +kernel), List.mem_of_getElem? (i := 522) (by decide +kernel)⟩
theorem lw_p23 : lw_okq (⟨"MuseumYear$Search", "fill", "(III)V"⟩, 17) := ⟨⟨by decide +kernel, by decide +kernel⟩, List.mem_of_getElem? (i := 172) (by decide +kernel), List.mem_of_getElem? (i := 526) (by decide +kernel), List.mem_of_getElem? (i := 527) (by decide +kernel)⟩
theorem lw_p24 : lw_okq (⟨"MuseumYear$Search", "take", "(I)V"⟩, 17) := ⟨⟨by decide +kernel, by decide +kernel⟩, List.mem_of_getElem? (i := 172) (by decide +kernel), List.mem_of_getElem? (i := 530) (by decide +kernel), List.mem_of_getElem? (i := 531) (by decide +kernel)⟩
theorem lw_p25 : lw_okq (⟨"MuseumYear$Search", "besideFirst", "(I)I"⟩, 17) := ⟨⟨by decide +kernel, by decide +kernel⟩, List.mem_of_getElem? (i := 172) (by decide +kernel), List.mem_of_getElem? (i := 535) (by decide +kernel), List.mem_of_getElem? (i := 536) (by decide +kernel)⟩
theorem lw_p26 : lw_okq (⟨"MuseumYear$Search", "place", "(IIII)V"⟩, 17) := ⟨⟨by decide +kernel, by decide +kernel⟩, List.mem_of_getElem? (i := 172) (by decide +kernel), List.mem_of_getElem? (i := 539) (by decide +kernel), List.mem_of_getElem? (i := 540) (by decide +kernel)⟩
theorem lw_p27 : lw_okq (⟨"MuseumYear$Search", "changesBeside", "(I)I"⟩, 17) := ⟨⟨by decide +kernel, by decide +kernel⟩, List.mem_of_getElem? (i := 172) (by decide +kernel), List.mem_of_getElem? (i := 543) (by decide +kernel), List.mem_of_getElem? (i := 544) (by decide +kernel)⟩
theorem lw_p28 : lw_okq (⟨"MuseumYear$Year", "rankOf", "(I)I"⟩, 7) := ⟨⟨by decide +kernel, by decide +kernel⟩, List.mem_of_getElem? (i := 166) (by decide +kernel), List.mem_of_getElem? (i := 607) (by decide +kernel), List.mem_of_getElem? (i := 608) (by decide +kernel)⟩
theorem lw_p29 : lw_okq (⟨"MuseumYear", "isAllThatWasSeen", "(I)Z"⟩, 11) := ⟨⟨by decide +kernel, by decide +kernel⟩, List.mem_of_getElem? (i := 14) (by decide +kernel), List.mem_of_getElem? (i := 647) (by decide +kernel), List.mem_of_getElem? (i := 648) (by decide +kernel)⟩
theorem lw_p30 : lw_okq (⟨"MuseumYearModel", "begins", "()V"⟩, 34) := ⟨⟨by decide +kernel, by decide +kernel⟩, List.mem_of_getElem? (i := 668) (by decide +kernel), List.mem_of_getElem? (i := 674) (by decide +kernel), List.mem_of_getElem? (i := 675) (by decide +kernel)⟩
theorem lw_p31 : lw_okq (⟨"MuseumYearModel", "settles", "()V"⟩, 34) := ⟨⟨by decide +kernel, by decide +kernel⟩, List.mem_of_getElem? (i := 668) (by decide +kernel), List.mem_of_getElem? (i := 678) (by decide +kernel), List.mem_of_getElem? (i := 679) (by decide +kernel)⟩
def lw_privs_2 : List (MethodName × Nat) := [(⟨"MuseumYear", "rememberWishes", "()V"⟩, 11), (⟨"MuseumYear$Search", "prepare", "(IIZ)V"⟩, 17), (⟨"MuseumYear$Search", "openSeason", "(III)V"⟩, 17), (⟨"MuseumYear$Search", "thingsThatBear", "(I)I"⟩, 17), (⟨"MuseumYear$Search", "withPartner", "(II)I"⟩, 17), (⟨"MuseumYear$Search", "countRuns", "()V"⟩, 17), (⟨"MuseumYear$Search", "leavesAt", "(III)I"⟩, 17), (⟨"MuseumYear$Search", "fill", "(III)V"⟩, 17), (⟨"MuseumYear$Search", "take", "(I)V"⟩, 17), (⟨"MuseumYear$Search", "besideFirst", "(I)I"⟩, 17), (⟨"MuseumYear$Search", "place", "(IIII)V"⟩, 17), (⟨"MuseumYear$Search", "changesBeside", "(I)I"⟩, 17), (⟨"MuseumYear$Year", "rankOf", "(I)I"⟩, 7), (⟨"MuseumYear", "isAllThatWasSeen", "(I)Z"⟩, 11), (⟨"MuseumYearModel", "begins", "()V"⟩, 34), (⟨"MuseumYearModel", "settles", "()V"⟩, 34)]
theorem lw_r2 : ∀ q ∈ lw_privs_2, lw_okq q := List.forall_mem_cons.mpr ⟨lw_p16, List.forall_mem_cons.mpr ⟨lw_p17, List.forall_mem_cons.mpr ⟨lw_p18, List.forall_mem_cons.mpr ⟨lw_p19, List.forall_mem_cons.mpr ⟨lw_p20, List.forall_mem_cons.mpr ⟨lw_p21, List.forall_mem_cons.mpr ⟨lw_p22, List.forall_mem_cons.mpr ⟨lw_p23, List.forall_mem_cons.mpr ⟨lw_p24, List.forall_mem_cons.mpr ⟨lw_p25, List.forall_mem_cons.mpr ⟨lw_p26, List.forall_mem_cons.mpr ⟨lw_p27, List.forall_mem_cons.mpr ⟨lw_p28, List.forall_mem_cons.mpr ⟨lw_p29, List.forall_mem_cons.mpr ⟨lw_p30, List.forall_mem_cons.mpr ⟨lw_p31, fun _ h => absurd h List.not_mem_nil⟩⟩⟩⟩⟩⟩⟩⟩⟩⟩⟩⟩⟩⟩⟩⟩
theorem lw_p32 : lw_okq (⟨"MuseumYearModel", "advances", "()V"⟩, 34) := ⟨⟨by decide +kernel, by decide +kernel⟩, List.mem_of_getElem? (i := 668) (by decide +kernel), List.mem_of_getElem? (i := 801) (by decide +kernel), List.mem_of_getElem? (i := 802) (by decide +kernel)⟩
theorem lw_p33 : lw_okq (⟨"MuseumYearModel", "letterAt", "(I)I"⟩, 34) := ⟨⟨by decide +kernel, by decide +kernel⟩, List.mem_of_getElem? (i := 668) (by decide +kernel), List.mem_of_getElem? (i := 805) (by decide +kernel), List.mem_of_getElem? (i := 806) (by decide +kernel)⟩
theorem lw_p34 : lw_okq (⟨"MuseumYearModel", "isWell", "()Z"⟩, 34) := ⟨⟨by decide +kernel, by decide +kernel⟩, List.mem_of_getElem? (i := 668) (by decide +kernel), List.mem_of_getElem? (i := 809) (by decide +kernel), List.mem_of_getElem? (i := 810) (by decide +kernel)⟩
theorem lw_p35 : lw_okq (⟨"MuseumYearModel", "mayBegin", "()Z"⟩, 34) := ⟨⟨by decide +kernel, by decide +kernel⟩, List.mem_of_getElem? (i := 668) (by decide +kernel), List.mem_of_getElem? (i := 813) (by decide +kernel), List.mem_of_getElem? (i := 814) (by decide +kernel)⟩
theorem lw_p36 : lw_okq (⟨"MuseumYearModel", "takes", "(Z)I"⟩, 34) := ⟨⟨by decide +kernel, by decide +kernel⟩, List.mem_of_getElem? (i := 668) (by decide +kernel), List.mem_of_getElem? (i := 817) (by decide +kernel), List.mem_of_getElem? (i := 818) (by decide +kernel)⟩
theorem lw_p37 : lw_okq (⟨"MuseumYearModel", "readsItem", "(I)V"⟩, 34) := ⟨⟨by decide +kernel, by decide +kernel⟩, List.mem_of_getElem? (i := 668) (by decide +kernel), List.mem_of_getElem? (i := 821) (by decide +kernel), List.mem_of_getElem? (i := 822) (by decide +kernel)⟩
theorem lw_p38 : lw_okq (⟨"MuseumYearModel", "number", "(II)I"⟩, 34) := ⟨⟨by decide +kernel, by decide +kernel⟩, List.mem_of_getElem? (i := 668) (by decide +kernel), List.mem_of_getElem? (i := 825) (by decide +kernel), List.mem_of_getElem? (i := 826) (by decide +kernel)⟩
theorem lw_p39 : lw_okq (⟨"MuseumYearModel", "readsLights", "()V"⟩, 34) := ⟨⟨by decide +kernel, by decide +kernel⟩, List.mem_of_getElem? (i := 668) (by decide +kernel), List.mem_of_getElem? (i := 829) (by decide +kernel), List.mem_of_getElem? (i := 830) (by decide +kernel)⟩
theorem lw_p40 : lw_okq (⟨"MuseumYearModel", "isThing", "(I)Z"⟩, 34) := ⟨⟨by decide +kernel, by decide +kernel⟩, List.mem_of_getElem? (i := 668) (by decide +kernel), List.mem_of_getElem? (i := 840) (by decide +kernel), List.mem_of_getElem? (i := 841) (by decide +kernel)⟩
theorem lw_p41 : lw_okq (⟨"MuseumYearModel", "isSeason", "(I)Z"⟩, 34) := ⟨⟨by decide +kernel, by decide +kernel⟩, List.mem_of_getElem? (i := 668) (by decide +kernel), List.mem_of_getElem? (i := 848) (by decide +kernel), List.mem_of_getElem? (i := 849) (by decide +kernel)⟩
theorem lw_p42 : lw_okq (⟨"MuseumYearModel", "isCase", "(I)Z"⟩, 34) := ⟨⟨by decide +kernel, by decide +kernel⟩, List.mem_of_getElem? (i := 668) (by decide +kernel), List.mem_of_getElem? (i := 856) (by decide +kernel), List.mem_of_getElem? (i := 857) (by decide +kernel)⟩
theorem lw_p43 : lw_okq (⟨"MuseumYearModel", "notes", "()V"⟩, 34) := ⟨⟨by decide +kernel, by decide +kernel⟩, List.mem_of_getElem? (i := 668) (by decide +kernel), List.mem_of_getElem? (i := 864) (by decide +kernel), List.mem_of_getElem? (i := 865) (by decide +kernel)⟩
theorem lw_p44 : lw_okq (⟨"MuseumYearModel", "isPlan", "()Z"⟩, 34) := ⟨⟨by decide +kernel, by decide +kernel⟩, List.mem_of_getElem? (i := 668) (by decide +kernel), List.mem_of_getElem? (i := 888) (by decide +kernel), List.mem_of_getElem? (i := 889) (by decide +kernel)⟩
theorem lw_p45 : lw_okq (⟨"MuseumYearModel", "tries", "(IZ)V"⟩, 34) := ⟨⟨by decide +kernel, by decide +kernel⟩, List.mem_of_getElem? (i := 668) (by decide +kernel), List.mem_of_getElem? (i := 892) (by decide +kernel), List.mem_of_getElem? (i := 893) (by decide +kernel)⟩
theorem lw_p46 : lw_okq (⟨"MuseumYearModel", "fits", "(IIZ)Z"⟩, 34) := ⟨⟨by decide +kernel, by decide +kernel⟩, List.mem_of_getElem? (i := 668) (by decide +kernel), List.mem_of_getElem? (i := 896) (by decide +kernel), List.mem_of_getElem? (i := 897) (by decide +kernel)⟩
theorem lw_p47 : lw_okq (⟨"MuseumYearModel", "mayStand", "(II)Z"⟩, 34) := ⟨⟨by decide +kernel, by decide +kernel⟩, List.mem_of_getElem? (i := 668) (by decide +kernel), List.mem_of_getElem? (i := 900) (by decide +kernel), List.mem_of_getElem? (i := 901) (by decide +kernel)⟩
def lw_privs_3 : List (MethodName × Nat) := [(⟨"MuseumYearModel", "advances", "()V"⟩, 34), (⟨"MuseumYearModel", "letterAt", "(I)I"⟩, 34), (⟨"MuseumYearModel", "isWell", "()Z"⟩, 34), (⟨"MuseumYearModel", "mayBegin", "()Z"⟩, 34), (⟨"MuseumYearModel", "takes", "(Z)I"⟩, 34), (⟨"MuseumYearModel", "readsItem", "(I)V"⟩, 34), (⟨"MuseumYearModel", "number", "(II)I"⟩, 34), (⟨"MuseumYearModel", "readsLights", "()V"⟩, 34), (⟨"MuseumYearModel", "isThing", "(I)Z"⟩, 34), (⟨"MuseumYearModel", "isSeason", "(I)Z"⟩, 34), (⟨"MuseumYearModel", "isCase", "(I)Z"⟩, 34), (⟨"MuseumYearModel", "notes", "()V"⟩, 34), (⟨"MuseumYearModel", "isPlan", "()Z"⟩, 34), (⟨"MuseumYearModel", "tries", "(IZ)V"⟩, 34), (⟨"MuseumYearModel", "fits", "(IIZ)Z"⟩, 34), (⟨"MuseumYearModel", "mayStand", "(II)Z"⟩, 34)]
theorem lw_r3 : ∀ q ∈ lw_privs_3, lw_okq q := List.forall_mem_cons.mpr ⟨lw_p32, List.forall_mem_cons.mpr ⟨lw_p33, List.forall_mem_cons.mpr ⟨lw_p34, List.forall_mem_cons.mpr ⟨lw_p35, List.forall_mem_cons.mpr ⟨lw_p36, List.forall_mem_cons.mpr ⟨lw_p37, List.forall_mem_cons.mpr ⟨lw_p38, List.forall_mem_cons.mpr ⟨lw_p39, List.forall_mem_cons.mpr ⟨lw_p40, List.forall_mem_cons.mpr ⟨lw_p41, List.forall_mem_cons.mpr ⟨lw_p42, List.forall_mem_cons.mpr ⟨lw_p43, List.forall_mem_cons.mpr ⟨lw_p44, List.forall_mem_cons.mpr ⟨lw_p45, List.forall_mem_cons.mpr ⟨lw_p46, List.forall_mem_cons.mpr ⟨lw_p47, fun _ h => absurd h List.not_mem_nil⟩⟩⟩⟩⟩⟩⟩⟩⟩⟩⟩⟩⟩⟩⟩⟩
theorem lw_p48 : lw_okq (⟨"MuseumYearModel", "isOn", "(I)Z"⟩, 34) := ⟨⟨by decide +kernel, by decide +kernel⟩, List.mem_of_getElem? (i := 668) (by decide +kernel), List.mem_of_getElem? (i := 904) (by decide +kernel), List.mem_of_getElem? (i := 905) (by decide +kernel)⟩
theorem lw_p49 : lw_okq (⟨"MuseumYearModel", "changeAt", "(I)I"⟩, 34) := ⟨⟨by decide +kernel, by decide +kernel⟩, List.mem_of_getElem? (i := 668) (by decide +kernel), List.mem_of_getElem? (i := 908) (by decide +kernel), List.mem_of_getElem? (i := 909) (by decide +kernel)⟩
theorem lw_p50 : lw_okq (⟨"MuseumYearModel", "weighs", "(Z)V"⟩, 34) := ⟨⟨by decide +kernel, by decide +kernel⟩, List.mem_of_getElem? (i := 668) (by decide +kernel), List.mem_of_getElem? (i := 912) (by decide +kernel), List.mem_of_getElem? (i := 913) (by decide +kernel)⟩
theorem lw_p51 : lw_okq (⟨"MuseumYearModel", "seasonsOf", "(I)I"⟩, 34) := ⟨⟨by decide +kernel, by decide +kernel⟩, List.mem_of_getElem? (i := 668) (by decide +kernel), List.mem_of_getElem? (i := 925) (by decide +kernel), List.mem_of_getElem? (i := 926) (by decide +kernel)⟩
theorem lw_p52 : lw_okq (⟨"MuseumYearModel", "manyOf", "(I)I"⟩, 34) := ⟨⟨by decide +kernel, by decide +kernel⟩, List.mem_of_getElem? (i := 668) (by decide +kernel), List.mem_of_getElem? (i := 937) (by decide +kernel), List.mem_of_getElem? (i := 938) (by decide +kernel)⟩
theorem lw_p53 : lw_okq (⟨"MuseumYearModel", "without", "(I)I"⟩, 34) := ⟨⟨by decide +kernel, by decide +kernel⟩, List.mem_of_getElem? (i := 668) (by decide +kernel), List.mem_of_getElem? (i := 949) (by decide +kernel), List.mem_of_getElem? (i := 950) (by decide +kernel)⟩
def lw_privs_4 : List (MethodName × Nat) := [(⟨"MuseumYearModel", "isOn", "(I)Z"⟩, 34), (⟨"MuseumYearModel", "changeAt", "(I)I"⟩, 34), (⟨"MuseumYearModel", "weighs", "(Z)V"⟩, 34), (⟨"MuseumYearModel", "seasonsOf", "(I)I"⟩, 34), (⟨"MuseumYearModel", "manyOf", "(I)I"⟩, 34), (⟨"MuseumYearModel", "without", "(I)I"⟩, 34)]
theorem lw_r4 : ∀ q ∈ lw_privs_4, lw_okq q := List.forall_mem_cons.mpr ⟨lw_p48, List.forall_mem_cons.mpr ⟨lw_p49, List.forall_mem_cons.mpr ⟨lw_p50, List.forall_mem_cons.mpr ⟨lw_p51, List.forall_mem_cons.mpr ⟨lw_p52, List.forall_mem_cons.mpr ⟨lw_p53, fun _ h => absurd h List.not_mem_nil⟩⟩⟩⟩⟩⟩
def lw_privs : List (MethodName × Nat) := lw_privs_1 ++ (lw_privs_2 ++ (lw_privs_3 ++ (lw_privs_4)))
def lw_tbl : List Cond := k2_sels lw_privs ++ tables_1
theorem lw_privs_ok : ∀ q ∈ lw_privs, lw_okq q := by
  show ∀ q ∈ lw_privs_1 ++ (lw_privs_2 ++ (lw_privs_3 ++ (lw_privs_4))), lw_okq q
  exact List.forall_mem_append.mpr ⟨lw_r1, List.forall_mem_append.mpr ⟨lw_r2, List.forall_mem_append.mpr ⟨lw_r3, lw_r4⟩⟩⟩
end
section
def RX0 : String := "MuseumYear$History"
def TX0 : u_T := fun k => match k with
  | 0 => ("MuseumYear$History", "past", "[LMuseumYear$Wishes;", true)
  | 1 => ("MuseumYear$History", "next", "I", false)
  | _ => ("MuseumYear$History", "held", "I", false)
def tyX0 : Nat → FieldType := fun k => match k with
  | 0 => .array (.object "MuseumYear$Wishes")
  | 1 => .int
  | _ => .int
abbrev wsX00 : List Cond := u_ws RX0 TX0 3
theorem nmX0 : ∀ a, a < 3 → ∀ b, b < 3 → a ≠ b → (TX0 a).2.1 ≠ (TX0 b).2.1 := by decide +kernel
theorem tyX0_ok : ∀ k, k < 3 → parseFieldDescriptor (TX0 k).2.2.1 = some (tyX0 k) := by decide +kernel
abbrev cX0_init : ByteArray := prog_2_method_1_code
def yX0_init : MethodName := ⟨RX0, "<init>", "()V"⟩
abbrev cX0_known : ByteArray := prog_2_method_2_code
def yX0_known : MethodName := ⟨RX0, "known", "()I"⟩
abbrev cX0_loseAll : ByteArray := prog_2_method_3_code
def yX0_loseAll : MethodName := ⟨RX0, "loseAll", "()V"⟩
abbrev cX0_remember : ByteArray := prog_2_method_4_code
def yX0_remember : MethodName := ⟨RX0, "remember", "(LMuseumYear$Wishes;)V"⟩
abbrev cX0_restore : ByteArray := prog_2_method_5_code
def yX0_restore : MethodName := ⟨RX0, "restore", "(LMuseumYear$Wishes;)V"⟩
def RX1 : String := "MuseumYear$Reader"
def TX1 : u_T := fun k => match k with
  | 0 => ("MuseumYear$Reader", "told", "LMuseumYear$Told;", true)
  | 1 => ("MuseumYear$Reader", "wishes", "LMuseumYear$Wishes;", true)
  | 2 => ("MuseumYear$Reader", "text", "[I", true)
  | 3 => ("MuseumYear$Reader", "length", "I", false)
  | 4 => ("MuseumYear$Reader", "at", "I", false)
  | 5 => ("MuseumYear$Reader", "start", "I", false)
  | 6 => ("MuseumYear$Reader", "kind", "I", false)
  | 7 => ("MuseumYear$Reader", "value", "I", false)
  | 8 => ("MuseumYear$Reader", "casesAreTold", "Z", false)
  | _ => ("MuseumYear$Reader", "lightsAreTold", "Z", false)
def tyX1 : Nat → FieldType := fun k => match k with
  | 0 => .object "MuseumYear$Told"
  | 1 => .object "MuseumYear$Wishes"
  | 2 => .array .int
  | 3 => .int
  | 4 => .int
  | 5 => .int
  | 6 => .int
  | 7 => .int
  | 8 => .boolean
  | _ => .boolean
abbrev wsX10 : List Cond := u_ws RX1 TX1 10
theorem nmX1 : ∀ a, a < 10 → ∀ b, b < 10 → a ≠ b → (TX1 a).2.1 ≠ (TX1 b).2.1 := by decide +kernel
theorem tyX1_ok : ∀ k, k < 10 → parseFieldDescriptor (TX1 k).2.2.1 = some (tyX1 k) := by decide +kernel
abbrev cX1_init : ByteArray := prog_3_method_1_code
def yX1_init : MethodName := ⟨RX1, "<init>", "([I)V"⟩
abbrev cX1_place : ByteArray := prog_3_method_2_code
def yX1_place : MethodName := ⟨RX1, "place", "()I"⟩
abbrev cX1_readAll : ByteArray := prog_3_method_3_code
def yX1_readAll : MethodName := ⟨RX1, "readAll", "(I)I"⟩
abbrev cX1_readItem : ByteArray := prog_3_method_4_code
def yX1_readItem : MethodName := ⟨RX1, "readItem", "()Z"⟩
abbrev cX1_readCases : ByteArray := prog_3_method_5_code
def yX1_readCases : MethodName := ⟨RX1, "readCases", "()Z"⟩
abbrev cX1_readLights : ByteArray := prog_3_method_6_code
def yX1_readLights : MethodName := ⟨RX1, "readLights", "()Z"⟩
abbrev cX1_readThing : ByteArray := prog_3_method_7_code
def yX1_readThing : MethodName := ⟨RX1, "readThing", "()Z"⟩
abbrev cX1_readBarred : ByteArray := prog_3_method_8_code
def yX1_readBarred : MethodName := ⟨RX1, "readBarred", "()Z"⟩
abbrev cX1_readLoan : ByteArray := prog_3_method_9_code
def yX1_readLoan : MethodName := ⟨RX1, "readLoan", "()Z"⟩
abbrev cX1_nextIsEnd : ByteArray := prog_3_method_10_code
def yX1_nextIsEnd : MethodName := ⟨RX1, "nextIsEnd", "()Z"⟩
abbrev cX1_nextIsNumber : ByteArray := prog_3_method_11_code
def yX1_nextIsNumber : MethodName := ⟨RX1, "nextIsNumber", "(II)Z"⟩
abbrev cX1_isNumber : ByteArray := prog_3_method_12_code
def yX1_isNumber : MethodName := ⟨RX1, "isNumber", "(II)Z"⟩
abbrev cX1_advance : ByteArray := prog_3_method_13_code
def yX1_advance : MethodName := ⟨RX1, "advance", "()V"⟩
abbrev cX1_advanceOverNumber : ByteArray := prog_3_method_14_code
def yX1_advanceOverNumber : MethodName := ⟨RX1, "advanceOverNumber", "()V"⟩
abbrev cX1_isFigure : ByteArray := prog_3_method_15_code
def yX1_isFigure : MethodName := ⟨RX1, "isFigure", "(I)Z"⟩
abbrev cX1_isSign : ByteArray := prog_3_method_16_code
def yX1_isSign : MethodName := ⟨RX1, "isSign", "(I)Z"⟩
def RX2 : String := "MuseumYear$Search"
def TX2 : u_T := fun k => match k with
  | 0 => ("MuseumYear$Search", "told", "LMuseumYear$Told;", true)
  | 1 => ("MuseumYear$Search", "wishes", "LMuseumYear$Wishes;", true)
  | 2 => ("MuseumYear$Search", "open", "[I", true)
  | 3 => ("MuseumYear$Search", "lightIn", "[I", true)
  | 4 => ("MuseumYear$Search", "cap", "[I", true)
  | 5 => ("MuseumYear$Search", "foes", "[I", true)
  | 6 => ("MuseumYear$Search", "had", "[I", true)
  | 7 => ("MuseumYear$Search", "tried", "[I", true)
  | 8 => ("MuseumYear$Search", "best", "[I", true)
  | 9 => ("MuseumYear$Search", "runsFrom", "[I", true)
  | 10 => ("MuseumYear$Search", "changesAfter", "[I", true)
  | 11 => ("MuseumYear$Search", "slots", "I", false)
  | 12 => ("MuseumYear$Search", "anyWillDo", "Z", false)
  | 13 => ("MuseumYear$Search", "orderIsFree", "Z", false)
  | 14 => ("MuseumYear$Search", "found", "Z", false)
  | 15 => ("MuseumYear$Search", "bestMost", "I", false)
  | _ => ("MuseumYear$Search", "limit", "I", false)
def tyX2 : Nat → FieldType := fun k => match k with
  | 0 => .object "MuseumYear$Told"
  | 1 => .object "MuseumYear$Wishes"
  | 2 => .array .int
  | 3 => .array .int
  | 4 => .array .int
  | 5 => .array .int
  | 6 => .array .int
  | 7 => .array .int
  | 8 => .array .int
  | 9 => .array .int
  | 10 => .array .int
  | 11 => .int
  | 12 => .boolean
  | 13 => .boolean
  | 14 => .boolean
  | 15 => .int
  | _ => .int
abbrev wsX20 : List Cond := u_ws RX2 TX2 17
theorem nmX2 : ∀ a, a < 17 → ∀ b, b < 17 → a ≠ b → (TX2 a).2.1 ≠ (TX2 b).2.1 := by decide +kernel
theorem tyX2_ok : ∀ k, k < 17 → parseFieldDescriptor (TX2 k).2.2.1 = some (tyX2 k) := by decide +kernel
abbrev cX2_init : ByteArray := prog_4_method_1_code
def yX2_init : MethodName := ⟨RX2, "<init>", "(LMuseumYear$Told;LMuseumYear$Wishes;)V"⟩
abbrev cX2_bestMost : ByteArray := prog_4_method_2_code
def yX2_bestMost : MethodName := ⟨RX2, "bestMost", "()I"⟩
abbrev cX2_copyBestTo : ByteArray := prog_4_method_3_code
def yX2_copyBestTo : MethodName := ⟨RX2, "copyBestTo", "([I)V"⟩
abbrev cX2_canBeFilled : ByteArray := prog_4_method_4_code
def yX2_canBeFilled : MethodName := ⟨RX2, "canBeFilled", "(II)Z"⟩
abbrev cX2_fewestChanges : ByteArray := prog_4_method_5_code
def yX2_fewestChanges : MethodName := ⟨RX2, "fewestChanges", "(IIZ)I"⟩
abbrev cX2_prepare : ByteArray := prog_4_method_6_code
def yX2_prepare : MethodName := ⟨RX2, "prepare", "(IIZ)V"⟩
abbrev cX2_openSeason : ByteArray := prog_4_method_7_code
def yX2_openSeason : MethodName := ⟨RX2, "openSeason", "(III)V"⟩
abbrev cX2_withPartner : ByteArray := prog_4_method_8_code
def yX2_withPartner : MethodName := ⟨RX2, "withPartner", "(II)I"⟩
abbrev cX2_thingsThatBear : ByteArray := prog_4_method_9_code
def yX2_thingsThatBear : MethodName := ⟨RX2, "thingsThatBear", "(I)I"⟩
abbrev cX2_countRuns : ByteArray := prog_4_method_10_code
def yX2_countRuns : MethodName := ⟨RX2, "countRuns", "()V"⟩
abbrev cX2_leavesAt : ByteArray := prog_4_method_11_code
def yX2_leavesAt : MethodName := ⟨RX2, "leavesAt", "(III)I"⟩
abbrev cX2_fill : ByteArray := prog_4_method_12_code
def yX2_fill : MethodName := ⟨RX2, "fill", "(III)V"⟩
abbrev cX2_besideFirst : ByteArray := prog_4_method_13_code
def yX2_besideFirst : MethodName := ⟨RX2, "besideFirst", "(I)I"⟩
abbrev cX2_place : ByteArray := prog_4_method_14_code
def yX2_place : MethodName := ⟨RX2, "place", "(IIII)V"⟩
abbrev cX2_changesBeside : ByteArray := prog_4_method_15_code
def yX2_changesBeside : MethodName := ⟨RX2, "changesBeside", "(I)I"⟩
abbrev cX2_take : ByteArray := prog_4_method_16_code
def yX2_take : MethodName := ⟨RX2, "take", "(I)V"⟩
def RX3 : String := "MuseumYear$Told"
def TX3 : u_T := fun k => match k with
  | 0 => ("MuseumYear$Told", "things", "I", false)
  | 1 => ("MuseumYear$Told", "seasons", "I", false)
  | 2 => ("MuseumYear$Told", "cases", "I", false)
  | 3 => ("MuseumYear$Told", "bears", "[I", true)
  | _ => ("MuseumYear$Told", "lights", "[I", true)
def tyX3 : Nat → FieldType := fun k => match k with
  | 0 => .int
  | 1 => .int
  | 2 => .int
  | 3 => .array .int
  | _ => .array .int
abbrev wsX30 : List Cond := u_ws RX3 TX3 5
theorem nmX3 : ∀ a, a < 5 → ∀ b, b < 5 → a ≠ b → (TX3 a).2.1 ≠ (TX3 b).2.1 := by decide +kernel
theorem tyX3_ok : ∀ k, k < 5 → parseFieldDescriptor (TX3 k).2.2.1 = some (tyX3 k) := by decide +kernel
abbrev cX3_init : ByteArray := prog_5_method_1_code
def yX3_init : MethodName := ⟨RX3, "<init>", "()V"⟩
abbrev cX3_beAsAtFirst : ByteArray := prog_5_method_2_code
def yX3_beAsAtFirst : MethodName := ⟨RX3, "beAsAtFirst", "()V"⟩
abbrev cX3_takeFrom : ByteArray := prog_5_method_3_code
def yX3_takeFrom : MethodName := ⟨RX3, "takeFrom", "(LMuseumYear$Told;)V"⟩
abbrev cX3_slotOf : ByteArray := prog_5_method_4_code
def yX3_slotOf : MethodName := ⟨RX3, "slotOf", "(II)I"⟩
abbrev cX3_rankByLight : ByteArray := prog_5_method_5_code
def yX3_rankByLight : MethodName := ⟨RX3, "rankByLight", "(I)I"⟩
abbrev cX3_lightOver : ByteArray := prog_5_method_6_code
def yX3_lightOver : MethodName := ⟨RX3, "lightOver", "(I)I"⟩
def RX4 : String := "MuseumYear$Wishes"
def TX4 : u_T := fun k => match k with
  | 0 => ("MuseumYear$Wishes", "down", "[I", true)
  | 1 => ("MuseumYear$Wishes", "loanFrom", "[I", true)
  | 2 => ("MuseumYear$Wishes", "loanTo", "[I", true)
  | 3 => ("MuseumYear$Wishes", "barred", "[I", true)
  | _ => ("MuseumYear$Wishes", "rulesOn", "I", false)
def tyX4 : Nat → FieldType := fun k => match k with
  | 0 => .array .int
  | 1 => .array .int
  | 2 => .array .int
  | 3 => .array .int
  | _ => .int
abbrev wsX40 : List Cond := u_ws RX4 TX4 5
theorem nmX4 : ∀ a, a < 5 → ∀ b, b < 5 → a ≠ b → (TX4 a).2.1 ≠ (TX4 b).2.1 := by decide +kernel
theorem tyX4_ok : ∀ k, k < 5 → parseFieldDescriptor (TX4 k).2.2.1 = some (tyX4 k) := by decide +kernel
abbrev cX4_init : ByteArray := prog_6_method_1_code
def yX4_init : MethodName := ⟨RX4, "<init>", "()V"⟩
abbrev cX4_beAsAtFirst : ByteArray := prog_6_method_2_code
def yX4_beAsAtFirst : MethodName := ⟨RX4, "beAsAtFirst", "()V"⟩
abbrev cX4_takeFrom : ByteArray := prog_6_method_3_code
def yX4_takeFrom : MethodName := ⟨RX4, "takeFrom", "(LMuseumYear$Wishes;)V"⟩
abbrev cX4_loanAsNumber : ByteArray := prog_6_method_4_code
def yX4_loanAsNumber : MethodName := ⟨RX4, "loanAsNumber", "(I)I"⟩
abbrev cX4_awayNow : ByteArray := prog_6_method_5_code
def yX4_awayNow : MethodName := ⟨RX4, "awayNow", "(I)I"⟩
abbrev cX4_wantedNow : ByteArray := prog_6_method_6_code
def yX4_wantedNow : MethodName := ⟨RX4, "wantedNow", "(I)I"⟩
abbrev cX4_barredNow : ByteArray := prog_6_method_7_code
def yX4_barredNow : MethodName := ⟨RX4, "barredNow", "(I)I"⟩
abbrev cX4_isBarred : ByteArray := prog_6_method_8_code
def yX4_isBarred : MethodName := ⟨RX4, "isBarred", "(II)Z"⟩
abbrev cX4_turnPair : ByteArray := prog_6_method_9_code
def yX4_turnPair : MethodName := ⟨RX4, "turnPair", "(II)V"⟩
abbrev cX4_barredPairs : ByteArray := prog_6_method_10_code
def yX4_barredPairs : MethodName := ⟨RX4, "barredPairs", "()I"⟩
abbrev cX4_isOn : ByteArray := prog_6_method_11_code
def yX4_isOn : MethodName := ⟨RX4, "isOn", "(I)Z"⟩
def RX5 : String := "MuseumYear$Year"
def TX5 : u_T := fun k => match k with
  | 0 => ("MuseumYear$Year", "told", "LMuseumYear$Told;", true)
  | 1 => ("MuseumYear$Year", "wishes", "LMuseumYear$Wishes;", true)
  | 2 => ("MuseumYear$Year", "search", "LMuseumYear$Search;", true)
  | 3 => ("MuseumYear$Year", "filled", "[I", true)
  | 4 => ("MuseumYear$Year", "without", "[I", true)
  | 5 => ("MuseumYear$Year", "changes", "I", false)
  | _ => ("MuseumYear$Year", "most", "I", false)
def tyX5 : Nat → FieldType := fun k => match k with
  | 0 => .object "MuseumYear$Told"
  | 1 => .object "MuseumYear$Wishes"
  | 2 => .object "MuseumYear$Search"
  | 3 => .array .int
  | 4 => .array .int
  | 5 => .int
  | _ => .int
abbrev wsX50 : List Cond := u_ws RX5 TX5 7
theorem nmX5 : ∀ a, a < 7 → ∀ b, b < 7 → a ≠ b → (TX5 a).2.1 ≠ (TX5 b).2.1 := by decide +kernel
theorem tyX5_ok : ∀ k, k < 7 → parseFieldDescriptor (TX5 k).2.2.1 = some (tyX5 k) := by decide +kernel
abbrev cX5_init : ByteArray := prog_7_method_1_code
def yX5_init : MethodName := ⟨RX5, "<init>", "(LMuseumYear$Told;LMuseumYear$Wishes;)V"⟩
abbrev cX5_growStale : ByteArray := prog_7_method_2_code
def yX5_growStale : MethodName := ⟨RX5, "growStale", "()V"⟩
abbrev cX5_hasPlan : ByteArray := prog_7_method_3_code
def yX5_hasPlan : MethodName := ⟨RX5, "hasPlan", "()Z"⟩
abbrev cX5_changesNow : ByteArray := prog_7_method_4_code
def yX5_changesNow : MethodName := ⟨RX5, "changesNow", "()I"⟩
abbrev cX5_changesWithout : ByteArray := prog_7_method_5_code
def yX5_changesWithout : MethodName := ⟨RX5, "changesWithout", "(I)I"⟩
abbrev cX5_mostLight : ByteArray := prog_7_method_6_code
def yX5_mostLight : MethodName := ⟨RX5, "mostLight", "()I"⟩
abbrev cX5_thingIn : ByteArray := prog_7_method_7_code
def yX5_thingIn : MethodName := ⟨RX5, "thingIn", "(I)I"⟩
abbrev cX5_thingsIn : ByteArray := prog_7_method_8_code
def yX5_thingsIn : MethodName := ⟨RX5, "thingsIn", "(I)I"⟩
abbrev cX5_seasonsOf : ByteArray := prog_7_method_9_code
def yX5_seasonsOf : MethodName := ⟨RX5, "seasonsOf", "(I)I"⟩
abbrev cX5_thingOfRank : ByteArray := prog_7_method_10_code
def yX5_thingOfRank : MethodName := ⟨RX5, "thingOfRank", "(I)I"⟩
abbrev cX5_rankOf : ByteArray := prog_7_method_11_code
def yX5_rankOf : MethodName := ⟨RX5, "rankOf", "(I)I"⟩
abbrev cX5_leastMore : ByteArray := prog_7_method_12_code
def yX5_leastMore : MethodName := ⟨RX5, "leastMore", "()I"⟩
def RX6 : String := "MuseumYear"
def TX6 : u_T := fun k => match k with
  | 0 => ("MuseumYear", "letters", "[I", true)
  | 1 => ("MuseumYear", "written", "I", false)
  | 2 => ("MuseumYear", "told", "LMuseumYear$Told;", true)
  | 3 => ("MuseumYear", "wishes", "LMuseumYear$Wishes;", true)
  | 4 => ("MuseumYear", "reader", "LMuseumYear$Reader;", true)
  | 5 => ("MuseumYear", "history", "LMuseumYear$History;", true)
  | 6 => ("MuseumYear", "images", "[LMuseumYear$Wishes;", true)
  | 7 => ("MuseumYear", "imagesKept", "I", false)
  | 8 => ("MuseumYear", "seen", "[I", true)
  | 9 => ("MuseumYear", "seenSoFar", "I", false)
  | _ => ("MuseumYear", "year", "LMuseumYear$Year;", true)
def tyX6 : Nat → FieldType := fun k => match k with
  | 0 => .array .int
  | 1 => .int
  | 2 => .object "MuseumYear$Told"
  | 3 => .object "MuseumYear$Wishes"
  | 4 => .object "MuseumYear$Reader"
  | 5 => .object "MuseumYear$History"
  | 6 => .array (.object "MuseumYear$Wishes")
  | 7 => .int
  | 8 => .array .int
  | 9 => .int
  | _ => .object "MuseumYear$Year"
abbrev wsX60 : List Cond := u_ws RX6 TX6 11
theorem nmX6 : ∀ a, a < 11 → ∀ b, b < 11 → a ≠ b → (TX6 a).2.1 ≠ (TX6 b).2.1 := by decide +kernel
theorem tyX6_ok : ∀ k, k < 11 → parseFieldDescriptor (TX6 k).2.2.1 = some (tyX6 k) := by decide +kernel
abbrev cX6_init : ByteArray := prog_1_method_1_code
def yX6_init : MethodName := ⟨RX6, "<init>", "()V"⟩
abbrev cX6_type : ByteArray := prog_1_method_2_code
def yX6_type : MethodName := ⟨RX6, "type", "(I)I"⟩
abbrev cX6_clear : ByteArray := prog_1_method_3_code
def yX6_clear : MethodName := ⟨RX6, "clear", "()I"⟩
abbrev cX6_house : ByteArray := prog_1_method_4_code
def yX6_house : MethodName := ⟨RX6, "house", "()I"⟩
abbrev cX6_thing : ByteArray := prog_1_method_5_code
def yX6_thing : MethodName := ⟨RX6, "thing", "(II)I"⟩
abbrev cX6_light : ByteArray := prog_1_method_6_code
def yX6_light : MethodName := ⟨RX6, "light", "(I)I"⟩
abbrev cX6_down : ByteArray := prog_1_method_7_code
def yX6_down : MethodName := ⟨RX6, "down", "(II)I"⟩
abbrev cX6_sets : ByteArray := prog_1_method_8_code
def yX6_sets : MethodName := ⟨RX6, "sets", "(III)I"⟩
abbrev cX6_lends : ByteArray := prog_1_method_9_code
def yX6_lends : MethodName := ⟨RX6, "lends", "(III)I"⟩
abbrev cX6_pairs : ByteArray := prog_1_method_10_code
def yX6_pairs : MethodName := ⟨RX6, "pairs", "(II)I"⟩
abbrev cX6_rules : ByteArray := prog_1_method_11_code
def yX6_rules : MethodName := ⟨RX6, "rules", "(I)I"⟩
abbrev cX6_undo : ByteArray := prog_1_method_12_code
def yX6_undo : MethodName := ⟨RX6, "undo", "()I"⟩
abbrev cX6_plan : ByteArray := prog_1_method_13_code
def yX6_plan : MethodName := ⟨RX6, "plan", "(II)I"⟩
abbrev cX6_cost : ByteArray := prog_1_method_14_code
def yX6_cost : MethodName := ⟨RX6, "cost", "(I)I"⟩
abbrev cX6_spent : ByteArray := prog_1_method_15_code
def yX6_spent : MethodName := ⟨RX6, "spent", "(II)I"⟩
abbrev cX6_shown : ByteArray := prog_1_method_16_code
def yX6_shown : MethodName := ⟨RX6, "shown", "(I)I"⟩
abbrev cX6_often : ByteArray := prog_1_method_17_code
def yX6_often : MethodName := ⟨RX6, "often", "(I)I"⟩
abbrev cX6_needed : ByteArray := prog_1_method_18_code
def yX6_needed : MethodName := ⟨RX6, "needed", "()I"⟩
abbrev cX6_dearth : ByteArray := prog_1_method_19_code
def yX6_dearth : MethodName := ⟨RX6, "dearth", "(I)I"⟩
abbrev cX6_sees : ByteArray := prog_1_method_20_code
def yX6_sees : MethodName := ⟨RX6, "sees", "(I)I"⟩
abbrev cX6_forget : ByteArray := prog_1_method_21_code
def yX6_forget : MethodName := ⟨RX6, "forget", "()I"⟩
abbrev cX6_unseen : ByteArray := prog_1_method_22_code
def yX6_unseen : MethodName := ⟨RX6, "unseen", "()I"⟩
abbrev cX6_keep : ByteArray := prog_1_method_23_code
def yX6_keep : MethodName := ⟨RX6, "keep", "(I)I"⟩
abbrev cX6_back : ByteArray := prog_1_method_24_code
def yX6_back : MethodName := ⟨RX6, "back", "(I)I"⟩
abbrev cX6_count : ByteArray := prog_1_method_25_code
def yX6_count : MethodName := ⟨RX6, "count", "(I)I"⟩
abbrev cX6_isThing : ByteArray := prog_1_method_26_code
def yX6_isThing : MethodName := ⟨RX6, "isThing", "(I)Z"⟩
abbrev cX6_isSeason : ByteArray := prog_1_method_27_code
def yX6_isSeason : MethodName := ⟨RX6, "isSeason", "(I)Z"⟩
abbrev cX6_isCase : ByteArray := prog_1_method_28_code
def yX6_isCase : MethodName := ⟨RX6, "isCase", "(I)Z"⟩
abbrev cX6_rememberWishes : ByteArray := prog_1_method_29_code
def yX6_rememberWishes : MethodName := ⟨RX6, "rememberWishes", "()V"⟩
abbrev cX6_isAllThatWasSeen : ByteArray := prog_1_method_30_code
def yX6_isAllThatWasSeen : MethodName := ⟨RX6, "isAllThatWasSeen", "(I)Z"⟩
def RX7 : String := "MuseumYearModel"
def TX7 : u_T := fun k => match k with
  | 0 => ("MuseumYearModel", "thrown", "I", false)
  | 1 => ("MuseumYearModel", "text", "[I", true)
  | 2 => ("MuseumYearModel", "typed", "I", false)
  | 3 => ("MuseumYearModel", "spot", "I", false)
  | 4 => ("MuseumYearModel", "token", "I", false)
  | 5 => ("MuseumYearModel", "place", "I", false)
  | 6 => ("MuseumYearModel", "value", "I", false)
  | 7 => ("MuseumYearModel", "fault", "I", false)
  | 8 => ("MuseumYearModel", "things", "I", false)
  | 9 => ("MuseumYearModel", "seasons", "I", false)
  | 10 => ("MuseumYearModel", "cases", "I", false)
  | 11 => ("MuseumYearModel", "lights", "[I", true)
  | 12 => ("MuseumYearModel", "bears", "[I", true)
  | 13 => ("MuseumYearModel", "draftThings", "I", false)
  | 14 => ("MuseumYearModel", "draftSeasons", "I", false)
  | 15 => ("MuseumYearModel", "draftCases", "I", false)
  | 16 => ("MuseumYearModel", "isCases", "Z", false)
  | 17 => ("MuseumYearModel", "isLights", "Z", false)
  | 18 => ("MuseumYearModel", "draftLights", "[I", true)
  | 19 => ("MuseumYearModel", "draftBears", "[I", true)
  | 20 => ("MuseumYearModel", "draft", "[I", true)
  | 21 => ("MuseumYearModel", "s", "[I", true)
  | 22 => ("MuseumYearModel", "undos", "[I", true)
  | 23 => ("MuseumYearModel", "undoMany", "I", false)
  | 24 => ("MuseumYearModel", "kept", "[I", true)
  | 25 => ("MuseumYearModel", "isKept", "[Z", true)
  | 26 => ("MuseumYearModel", "seen", "[I", true)
  | 27 => ("MuseumYearModel", "seenMany", "I", false)
  | 28 => ("MuseumYearModel", "pick", "[I", true)
  | 29 => ("MuseumYearModel", "changes", "[I", true)
  | 30 => ("MuseumYearModel", "spent", "[I", true)
  | 31 => ("MuseumYearModel", "best", "[I", true)
  | 32 => ("MuseumYearModel", "least", "I", false)
  | _ => ("MuseumYearModel", "leastMost", "I", false)
def tyX7 : Nat → FieldType := fun k => match k with
  | 0 => .int
  | 1 => .array .int
  | 2 => .int
  | 3 => .int
  | 4 => .int
  | 5 => .int
  | 6 => .int
  | 7 => .int
  | 8 => .int
  | 9 => .int
  | 10 => .int
  | 11 => .array .int
  | 12 => .array .int
  | 13 => .int
  | 14 => .int
  | 15 => .int
  | 16 => .boolean
  | 17 => .boolean
  | 18 => .array .int
  | 19 => .array .int
  | 20 => .array .int
  | 21 => .array .int
  | 22 => .array .int
  | 23 => .int
  | 24 => .array .int
  | 25 => .array .boolean
  | 26 => .array .int
  | 27 => .int
  | 28 => .array .int
  | 29 => .array .int
  | 30 => .array .int
  | 31 => .array .int
  | 32 => .int
  | _ => .int
abbrev wsX70 : List Cond := u_ws RX7 TX7 34
theorem nmX7 : ∀ a, a < 34 → ∀ b, b < 34 → a ≠ b → (TX7 a).2.1 ≠ (TX7 b).2.1 := by decide +kernel
theorem tyX7_ok : ∀ k, k < 34 → parseFieldDescriptor (TX7 k).2.2.1 = some (tyX7 k) := by decide +kernel
abbrev cX7_init : ByteArray := prog_9_method_1_code
def yX7_init : MethodName := ⟨RX7, "<init>", "()V"⟩
abbrev cX7_in : ByteArray := prog_9_method_3_code
def yX7_in : MethodName := ⟨RX7, "in", "(III)Z"⟩
abbrev cX7_has : ByteArray := prog_9_method_4_code
def yX7_has : MethodName := ⟨RX7, "has", "(II)Z"⟩
abbrev cX7_type : ByteArray := prog_9_method_5_code
def yX7_type : MethodName := ⟨RX7, "type", "(I)I"⟩
abbrev cX7_clear : ByteArray := prog_9_method_6_code
def yX7_clear : MethodName := ⟨RX7, "clear", "()I"⟩
abbrev cX7_letterAt : ByteArray := prog_9_method_7_code
def yX7_letterAt : MethodName := ⟨RX7, "letterAt", "(I)I"⟩
abbrev cX7_advances : ByteArray := prog_9_method_8_code
def yX7_advances : MethodName := ⟨RX7, "advances", "()V"⟩
abbrev cX7_isWell : ByteArray := prog_9_method_9_code
def yX7_isWell : MethodName := ⟨RX7, "isWell", "()Z"⟩
abbrev cX7_takes : ByteArray := prog_9_method_10_code
def yX7_takes : MethodName := ⟨RX7, "takes", "(Z)I"⟩
abbrev cX7_number : ByteArray := prog_9_method_11_code
def yX7_number : MethodName := ⟨RX7, "number", "(II)I"⟩
abbrev cX7_begins : ByteArray := prog_9_method_12_code
def yX7_begins : MethodName := ⟨RX7, "begins", "()V"⟩
abbrev cX7_mayBegin : ByteArray := prog_9_method_13_code
def yX7_mayBegin : MethodName := ⟨RX7, "mayBegin", "()Z"⟩
abbrev cX7_readsLights : ByteArray := prog_9_method_14_code
def yX7_readsLights : MethodName := ⟨RX7, "readsLights", "()V"⟩
abbrev cX7_readsItem : ByteArray := prog_9_method_15_code
def yX7_readsItem : MethodName := ⟨RX7, "readsItem", "(I)V"⟩
abbrev cX7_house : ByteArray := prog_9_method_16_code
def yX7_house : MethodName := ⟨RX7, "house", "()I"⟩
abbrev cX7_settles : ByteArray := prog_9_method_17_code
def yX7_settles : MethodName := ⟨RX7, "settles", "()V"⟩
abbrev cX7_isThing : ByteArray := prog_9_method_18_code
def yX7_isThing : MethodName := ⟨RX7, "isThing", "(I)Z"⟩
abbrev cX7_isSeason : ByteArray := prog_9_method_19_code
def yX7_isSeason : MethodName := ⟨RX7, "isSeason", "(I)Z"⟩
abbrev cX7_isCase : ByteArray := prog_9_method_20_code
def yX7_isCase : MethodName := ⟨RX7, "isCase", "(I)Z"⟩
abbrev cX7_thing : ByteArray := prog_9_method_21_code
def yX7_thing : MethodName := ⟨RX7, "thing", "(II)I"⟩
abbrev cX7_light : ByteArray := prog_9_method_22_code
def yX7_light : MethodName := ⟨RX7, "light", "(I)I"⟩
abbrev cX7_down : ByteArray := prog_9_method_23_code
def yX7_down : MethodName := ⟨RX7, "down", "(II)I"⟩
abbrev cX7_notes : ByteArray := prog_9_method_24_code
def yX7_notes : MethodName := ⟨RX7, "notes", "()V"⟩
abbrev cX7_sets : ByteArray := prog_9_method_25_code
def yX7_sets : MethodName := ⟨RX7, "sets", "(III)I"⟩
abbrev cX7_lends : ByteArray := prog_9_method_26_code
def yX7_lends : MethodName := ⟨RX7, "lends", "(III)I"⟩
abbrev cX7_pairs : ByteArray := prog_9_method_27_code
def yX7_pairs : MethodName := ⟨RX7, "pairs", "(II)I"⟩
abbrev cX7_rules : ByteArray := prog_9_method_28_code
def yX7_rules : MethodName := ⟨RX7, "rules", "(I)I"⟩
abbrev cX7_undo : ByteArray := prog_9_method_29_code
def yX7_undo : MethodName := ⟨RX7, "undo", "()I"⟩
abbrev cX7_isOn : ByteArray := prog_9_method_30_code
def yX7_isOn : MethodName := ⟨RX7, "isOn", "(I)Z"⟩
abbrev cX7_mayStand : ByteArray := prog_9_method_31_code
def yX7_mayStand : MethodName := ⟨RX7, "mayStand", "(II)Z"⟩
abbrev cX7_changeAt : ByteArray := prog_9_method_32_code
def yX7_changeAt : MethodName := ⟨RX7, "changeAt", "(I)I"⟩
abbrev cX7_fits : ByteArray := prog_9_method_33_code
def yX7_fits : MethodName := ⟨RX7, "fits", "(IIZ)Z"⟩
abbrev cX7_weighs : ByteArray := prog_9_method_34_code
def yX7_weighs : MethodName := ⟨RX7, "weighs", "(Z)V"⟩
abbrev cX7_tries : ByteArray := prog_9_method_35_code
def yX7_tries : MethodName := ⟨RX7, "tries", "(IZ)V"⟩
abbrev cX7_isPlan : ByteArray := prog_9_method_36_code
def yX7_isPlan : MethodName := ⟨RX7, "isPlan", "()Z"⟩
abbrev cX7_plan : ByteArray := prog_9_method_37_code
def yX7_plan : MethodName := ⟨RX7, "plan", "(II)I"⟩
abbrev cX7_cost : ByteArray := prog_9_method_38_code
def yX7_cost : MethodName := ⟨RX7, "cost", "(I)I"⟩
abbrev cX7_seasonsOf : ByteArray := prog_9_method_39_code
def yX7_seasonsOf : MethodName := ⟨RX7, "seasonsOf", "(I)I"⟩
abbrev cX7_spent : ByteArray := prog_9_method_40_code
def yX7_spent : MethodName := ⟨RX7, "spent", "(II)I"⟩
abbrev cX7_shown : ByteArray := prog_9_method_41_code
def yX7_shown : MethodName := ⟨RX7, "shown", "(I)I"⟩
abbrev cX7_manyOf : ByteArray := prog_9_method_42_code
def yX7_manyOf : MethodName := ⟨RX7, "manyOf", "(I)I"⟩
abbrev cX7_often : ByteArray := prog_9_method_43_code
def yX7_often : MethodName := ⟨RX7, "often", "(I)I"⟩
abbrev cX7_needed : ByteArray := prog_9_method_44_code
def yX7_needed : MethodName := ⟨RX7, "needed", "()I"⟩
abbrev cX7_without : ByteArray := prog_9_method_45_code
def yX7_without : MethodName := ⟨RX7, "without", "(I)I"⟩
abbrev cX7_dearth : ByteArray := prog_9_method_46_code
def yX7_dearth : MethodName := ⟨RX7, "dearth", "(I)I"⟩
abbrev cX7_sees : ByteArray := prog_9_method_47_code
def yX7_sees : MethodName := ⟨RX7, "sees", "(I)I"⟩
abbrev cX7_forget : ByteArray := prog_9_method_48_code
def yX7_forget : MethodName := ⟨RX7, "forget", "()I"⟩
abbrev cX7_unseen : ByteArray := prog_9_method_49_code
def yX7_unseen : MethodName := ⟨RX7, "unseen", "()I"⟩
abbrev cX7_keep : ByteArray := prog_9_method_50_code
def yX7_keep : MethodName := ⟨RX7, "keep", "(I)I"⟩
abbrev cX7_back : ByteArray := prog_9_method_51_code
def yX7_back : MethodName := ⟨RX7, "back", "(I)I"⟩
abbrev cX7_count : ByteArray := prog_9_method_52_code
def yX7_count : MethodName := ⟨RX7, "count", "(I)I"⟩
def RJ6 : String := "java/lang/Integer"
abbrev cJ6_bitCount_0f7a4 : ByteArray := prog_10_method_49_code
def yJ6_bitCount_0f7a4 : MethodName := ⟨RJ6, "bitCount", "(I)I"⟩
def RJ9 : String := "java/lang/Math"
abbrev cJ9_max_7cf53 : ByteArray := prog_11_method_65_code
def yJ9_max_7cf53 : MethodName := ⟨RJ9, "max", "(II)I"⟩
abbrev cJ9_min_7cf53 : ByteArray := prog_11_method_69_code
def yJ9_min_7cf53 : MethodName := ⟨RJ9, "min", "(II)I"⟩
def RJ10 : String := "java/lang/System"
def RJ7 : String := "java/util/Arrays"
abbrev cJ7_fill_53178 : ByteArray := prog_13_method_103_code
def yJ7_fill_53178 : MethodName := ⟨RJ7, "fill", "([II)V"⟩
abbrev x_cl : List vw_C := [(RX0, TX0, 3), (RX1, TX1, 10), (RX2, TX2, 17), (RX3, TX3, 5), (RX4, TX4, 5), (RX5, TX5, 7), (RX6, TX6, 11), (RX7, TX7, 34)]
end
section
/-! THE PURE MACHINE: a heap is a list of shapes (tag, number, references) and a function of numbers; tag 0: an object of a class, 1: int[], 2: boolean[], 3: an array of objects -/
abbrev xS : Type := Nat × Nat × List (Option Nat)
abbrev xV : Type := Nat → Nat → Int32
abbrev xH : Type := List xS × xV
/-- pc, operation, next pc, three numbers, a value -/
abbrev xE : Type := Nat × Nat × Nat × Nat × Nat × Nat × Int32
abbrev xC : Type := Nat × List Value × List Value × xH
abbrev xR : Type := xC ⊕ (Option Int32 ⊕ (Nat × List Value × Nat × List Value × List Value))
def x_at : List xE → Nat → Option xE
  | [], _ => none
  | q :: r, pc => if q.1 = pc then some q else x_at r pc
def x_up (V : xV) (a k : Nat) (x : Int32) : xV := fun b => if b = a then upd (V b) k x else V b
def x_bin (b : Nat) (x y : Int32) : Option Int32 := match b with
  | 0 => some (x + y)
  | 1 => some (x - y)
  | 2 => some (x * y)
  | 3 => some (x &&& y)
  | 4 => some (x ||| y)
  | 5 => some (x ^^^ y)
  | 6 => some (x <<< (y &&& 31))
  | 7 => some (x >>> (y &&& 31))
  | 8 => some ((x.toUInt32 >>> (y.toUInt32 &&& Int32.toUInt32 31)).toInt32)
  | 9 => if y = 0 then none else some (x / y)
  | 10 => if y = 0 then none else some (x - x / y * y)
  | 11 => some (if x < y then y else x)
  | 12 => some (if y < x then y else x)
  | _ => none
def x_cmp (b : Nat) (x y : Int32) : Bool := match b with
  | 0 => decide (x = y)
  | 1 => decide (¬ x = y)
  | 2 => decide (x < y)
  | 3 => decide (y ≤ x)
  | 4 => decide (y < x)
  | _ => decide (x ≤ y)
def x_in (i : Int32) (n : Nat) : Bool := decide (¬ (i < 0 ∨ n ≤ i.toNatClampNeg))
def x_rv (n : Nat) (v : Value) : Bool := match v with
  | .ref x => decide (x < n)
  | _ => true
def x_ro (n : Nat) (o : Option Nat) : Bool := match o with
  | some q => decide (q < n)
  | none => true
def x_rok (n : Nat) (ls st : List Value) (S : List xS) : Bool := ls.all (x_rv n) && st.all (x_rv n) && S.all (fun q => q.2.2.all (x_ro n))
def x_sw : List (Int32 × Nat) → Int32 → Nat → Nat
  | [], _, d => d
  | q :: r, x, d => if q.1 = x then q.2 else x_sw r x d
def x_push (S : List xS) (V : xV) (q : xS) : xH := (S ++ [q], fun b => if b = S.length then fun _ => 0 else V b)
def x_new (nf : List Nat) (sws : List (List (Int32 × Nat))) (op nx a b c : Nat) (ls st : List Value) (h : xH) : Option xR := match op with
  | 29 => if x_rok h.1.length ls st h.1 then some (.inl (nx, ls, .ref h.1.length :: st, x_push h.1 h.2 (0, a, List.replicate (nf.getD a 0) none))) else none
  | 30 => match st with
    | .int n :: st => if x_rok h.1.length ls st h.1 ∧ ¬ n < 0 ∧ n.toNatClampNeg ≤ 1000 ∧ (b = 1 ∨ b = 2) then some (.inl (nx, ls, .ref h.1.length :: st, x_push h.1 h.2 (b, n.toNatClampNeg, []))) else none
    | _ => none
  | 31 => match st with
    | .int n :: st => if x_rok h.1.length ls st h.1 ∧ ¬ n < 0 ∧ n.toNatClampNeg ≤ 1000 then some (.inl (nx, ls, .ref h.1.length :: st, x_push h.1 h.2 (3, n.toNatClampNeg, List.replicate n.toNatClampNeg none))) else none
    | _ => none
  | 32 => match st with
    | .ref _ :: st => if st.length ≤ 4 then some (.inl (nx, ls, st, h)) else none
    | _ => none
  | 33 => match st with
    | .int n :: .int dp :: .ref y :: .int sp :: .ref x :: st => match h.1[x]?, h.1[y]? with
      | some (1, n0, _), some (1, n1, _) => if ¬ sp < 0 ∧ ¬ dp < 0 ∧ ¬ n < 0 ∧ sp.toNatClampNeg + n.toNatClampNeg ≤ n0 ∧ dp.toNatClampNeg + n.toNatClampNeg ≤ n1 ∧ st.length ≤ 4 then
          some (.inl (nx, ls, st, (h.1, fun q => if q = y then va_cpy (h.2 x) (h.2 y) sp.toNatClampNeg dp.toNatClampNeg n.toNatClampNeg else h.2 q))) else none
      | _, _ => none
    | _ => none
  | 34 => match st with
    | .int x :: st => some (.inl (x_sw (sws.getD c []) x a, ls, st, h))
    | _ => none
  | _ => none
def x_mem (nf : List Nat) (sws : List (List (Int32 × Nat))) (op nx a b c : Nat) (ls st : List Value) (h : xH) : Option xR := match op with
  | 13 => match st with
    | .ref x :: st => match h.1[x]? with
      | some (0, ci, _) => if ci = a then some (.inl (nx, ls, .int (h.2 x b) :: st, h)) else none
      | _ => none
    | _ => none
  | 14 => match st with
    | .ref x :: st => match h.1[x]? with
      | some (0, ci, rf) => if ci = a then (match rf[b]? with
        | some (some q) => some (.inl (nx, ls, .ref q :: st, h))
        | _ => none) else none
      | _ => none
    | _ => none
  | 15 => match st with
    | .int y :: .ref x :: st => match h.1[x]? with
      | some (0, ci, _) => if ci = a then some (.inl (nx, ls, st, (h.1, x_up h.2 x b y))) else none
      | _ => none
    | _ => none
  | 16 => match st with
    | .int y :: .ref x :: st => match h.1[x]? with
      | some (0, ci, _) => if ci = a ∧ (y = 0 ∨ y = 1) then some (.inl (nx, ls, st, (h.1, x_up h.2 x b y))) else none
      | _ => none
    | _ => none
  | 17 => match st with
    | .ref y :: .ref x :: st => match h.1[x]? with
      | some (0, ci, rf) => if ci = a ∧ b < rf.length then some (.inl (nx, ls, st, (h.1.set x (0, ci, rf.set b (some y)), h.2))) else none
      | _ => none
    | _ => none
  | 18 => match st with
    | .int i :: .ref x :: st => match h.1[x]? with
      | some (1, n, _) => if x_in i n then some (.inl (nx, ls, .int (h.2 x i.toNatClampNeg) :: st, h)) else none
      | _ => none
    | _ => none
  | 19 => match st with
    | .int y :: .int i :: .ref x :: st => match h.1[x]? with
      | some (1, n, _) => if x_in i n then some (.inl (nx, ls, st, (h.1, x_up h.2 x i.toNatClampNeg y))) else none
      | _ => none
    | _ => none
  | 20 => match st with
    | .int i :: .ref x :: st => match h.1[x]? with
      | some (2, n, _) => if x_in i n then some (.inl (nx, ls, .int (h.2 x i.toNatClampNeg) :: st, h)) else none
      | _ => none
    | _ => none
  | 21 => match st with
    | .int y :: .int i :: .ref x :: st => match h.1[x]? with
      | some (2, n, _) => if x_in i n ∧ (y = 0 ∨ y = 1) then some (.inl (nx, ls, st, (h.1, x_up h.2 x i.toNatClampNeg y))) else none
      | _ => none
    | _ => none
  | 22 => match st with
    | .int i :: .ref x :: st => match h.1[x]? with
      | some (3, n, rf) => if x_in i n then (match rf[i.toNatClampNeg]? with
        | some (some q) => some (.inl (nx, ls, .ref q :: st, h))
        | _ => none) else none
      | _ => none
    | _ => none
  | 23 => match st with
    | .ref y :: .int i :: .ref x :: st => match h.1[x]?, h.1[y]? with
      | some (3, n, rf), some (0, 4, _) => if x_in i n ∧ i.toNatClampNeg < rf.length then some (.inl (nx, ls, st, (h.1.set x (3, n, rf.set i.toNatClampNeg (some y)), h.2))) else none
      | _, _ => none
    | _ => none
  | 24 => match st with
    | .ref x :: st => match h.1[x]? with
      | some (k + 1, n, _) => if k < 2 then some (.inl (nx, ls, .int (Int32.ofNat n) :: st, h)) else none
      | _ => none
    | _ => none
  | 25 => if b ≤ st.length ∧ (st.drop b).length ≤ 4 ∧ (st.take b).all (fun v => v.category == 1) = true then some (.inr (.inr (a, (st.take b).reverse, nx, ls, st.drop b))) else none
  | 26 => if b ≤ st.length ∧ (st.drop b).length ≤ 4 ∧ (st.take b).all (fun v => v.category == 1) = true then (match (st.take b).reverse with
      | .ref x :: as => match h.1[x]? with
        | some (0, ci, _) => if ci = c then some (.inr (.inr (a, .ref x :: as, nx, ls, st.drop b))) else none
        | _ => none
      | _ => none) else none
  | 27 => match st with
    | [.int y] => if b = 0 ∨ y = 0 ∨ y = 1 then some (.inr (.inl (some y))) else none
    | _ => none
  | 28 => match st with
    | [] => some (.inr (.inl none))
    | _ => none
  | op => x_new nf sws op nx a b c ls st h
def x_step (nf : List Nat) (sws : List (List (Int32 × Nat))) (e : xE) (ls st : List Value) (h : xH) : Option xR := match e with
  | (_, op, nx, a, b, c, v) => match op with
    | 0 => some (.inl (nx, ls, .int v :: st, h))
    | 1 => match ls[a]? with
      | some (.int x) => some (.inl (nx, ls, .int x :: st, h))
      | _ => none
    | 2 => match ls[a]? with
      | some (.ref x) => some (.inl (nx, ls, .ref x :: st, h))
      | _ => none
    | 3 => match st with
      | .int x :: st => if a < ls.length then some (.inl (nx, ls.set a (.int x), st, h)) else none
      | _ => none
    | 4 => match st with
      | .ref x :: st => if a < ls.length then some (.inl (nx, ls.set a (.ref x), st, h)) else none
      | _ => none
    | 5 => match ls[a]? with
      | some (.int x) => some (.inl (nx, ls.set a (.int (x + v)), st, h))
      | _ => none
    | 6 => match st with
      | .int y :: .int x :: st => match x_bin b x y with
        | some z => if st.length ≤ 50 then some (.inl (nx, ls, .int z :: st, h)) else none
        | none => none
      | _ => none
    | 7 => match st with
      | .int y :: .int x :: st => some (.inl (if x_cmp b x y then a else nx, ls, st, h))
      | _ => none
    | 8 => match st with
      | .int x :: st => some (.inl (if x_cmp b x 0 then a else nx, ls, st, h))
      | _ => none
    | 9 => some (.inl (a, ls, st, h))
    | 10 => match st with
      | x :: st => if x.category = 1 then some (.inl (nx, ls, x :: x :: st, h)) else none
      | _ => none
    | 11 => match st with
      | x :: y :: st => if x.category = 1 ∧ y.category = 1 then some (.inl (nx, ls, x :: y :: x :: y :: st, h)) else none
      | _ => none
    | 12 => match st with
      | x :: st => if x.category = 1 then some (.inl (nx, ls, st, h)) else none
      | _ => none
    | op => x_mem nf sws op nx a b c ls st h
/-- a call of fuel n, depth d: nf and sws as above, mt: the methods' locals and code -/
def x_ex (nf : List Nat) (sws : List (List (Int32 × Nat))) (mt : List (Nat × List xE)) : Nat → Nat → List xE → Nat → List Value → List Value → xH → Option (Option Int32 × xH)
  | 0, _, _, _, _, _, _ => none
  | n + 1, d, code, pc, ls, st, h => match x_at code pc with
    | none => none
    | some e => match x_step nf sws e ls st h with
      | none => none
      | some (.inl (pc', ls', st', h')) => x_ex nf sws mt n d code pc' ls' st' h'
      | some (.inr (.inl r)) => some (r, h)
      | some (.inr (.inr (i, as, pc', ls', st'))) => match d, mt[i]? with
        | d' + 1, some (nl, code') => match x_ex nf sws mt n d' code' 0 (as ++ List.replicate (nl - as.length) (.long 0)) [] h with
          | none => none
          | some (r, h') => if h'.1.length = h.1.length ∨ x_rok h.1.length ls' st' h.1 then x_ex nf sws mt n (d' + 1) code pc' ls' (r.toList.map .int ++ st') h' else none
        | _, _ => none
end
section
def x_nf : List Nat := [3, 10, 17, 5, 5, 7, 11, 34]
/-- by class and field: 0 int, 1 boolean, 2 a reference -/
def x_kds : List (List Nat) := [[2, 0, 0], [2, 2, 2, 0, 0, 0, 0, 0, 1, 1], [2, 2, 2, 2, 2, 2, 2, 2, 2, 2, 2, 0, 1, 1, 1, 0, 0], [0, 0, 0, 2, 2], [2, 2, 2, 2, 0], [2, 2, 2, 2, 2, 0, 0], [2, 0, 2, 2, 2, 2, 2, 0, 2, 0, 2], [0, 2, 0, 0, 0, 0, 0, 0, 0, 0, 0, 2, 2, 0, 0, 0, 1, 1, 2, 2, 2, 2, 2, 0, 2, 2, 2, 0, 2, 2, 2, 2, 0, 0]]
def x_sws : List (List (Int32 × Nat)) := [[(97, 76), (99, 56), (108, 61), (116, 66), (120, 71)], [(0, 40), (1, 50), (2, 60), (3, 70)], [(0, 48), (1, 56), (2, 64), (3, 72), (4, 80), (5, 88), (6, 93), (7, 98)]]
def kX0_init : List xE := [(0, 2, 1, 0, 0, 0, 0), (1, 32, 4, 0, 0, 0, 0), (4, 2, 5, 0, 0, 0, 0), (5, 0, 7, 0, 0, 0, 10), (7, 31, 10, 4, 0, 0, 0), (10, 17, 13, 0, 0, 0, 0), (13, 2, 14, 0, 0, 0, 0), (14, 0, 15, 0, 0, 0, 0), (15, 15, 18, 0, 1, 0, 0), (18, 2, 19, 0, 0, 0, 0), (19, 0, 20, 0, 0, 0, 0), (20, 15, 23, 0, 2, 0, 0), (23, 0, 24, 0, 0, 0, 0), (24, 3, 25, 1, 0, 0, 0), (25, 1, 26, 1, 0, 0, 0), (26, 0, 28, 0, 0, 0, 10), (28, 7, 31, 50, 3, 0, 0), (31, 2, 32, 0, 0, 0, 0), (32, 14, 35, 0, 0, 0, 0), (35, 1, 36, 1, 0, 0, 0), (36, 29, 39, 4, 0, 0, 0), (39, 10, 40, 0, 0, 0, 0), (40, 26, 43, 43, 1, 4, 0), (43, 23, 44, 0, 0, 0, 0), (44, 5, 47, 1, 0, 0, 1), (47, 9, 50, 25, 0, 0, 0), (50, 28, 51, 0, 0, 0, 0)]
def kX0_known : List xE := [(0, 2, 1, 0, 0, 0, 0), (1, 13, 4, 0, 2, 0, 0), (4, 27, 5, 0, 0, 0, 0)]
def kX0_loseAll : List xE := [(0, 2, 1, 0, 0, 0, 0), (1, 0, 2, 0, 0, 0, 0), (2, 15, 5, 0, 2, 0, 0), (5, 28, 6, 0, 0, 0, 0)]
def kX0_remember : List xE := [(0, 2, 1, 0, 0, 0, 0), (1, 14, 4, 0, 0, 0, 0), (4, 2, 5, 0, 0, 0, 0), (5, 13, 8, 0, 1, 0, 0), (8, 22, 9, 0, 0, 0, 0), (9, 2, 10, 1, 0, 0, 0), (10, 26, 13, 45, 2, 4, 0), (13, 2, 14, 0, 0, 0, 0), (14, 2, 15, 0, 0, 0, 0), (15, 13, 18, 0, 1, 0, 0), (18, 0, 19, 0, 0, 0, 1), (19, 6, 20, 0, 0, 0, 0), (20, 0, 22, 0, 0, 0, 10), (22, 6, 23, 0, 10, 0, 0), (23, 15, 26, 0, 1, 0, 0), (26, 2, 27, 0, 0, 0, 0), (27, 2, 28, 0, 0, 0, 0), (28, 13, 31, 0, 2, 0, 0), (31, 0, 32, 0, 0, 0, 1), (32, 6, 33, 0, 0, 0, 0), (33, 0, 35, 0, 0, 0, 10), (35, 6, 38, 0, 12, 0, 0), (38, 15, 41, 0, 2, 0, 0), (41, 28, 42, 0, 0, 0, 0)]
def kX0_restore : List xE := [(0, 2, 1, 0, 0, 0, 0), (1, 13, 4, 0, 2, 0, 0), (4, 8, 7, 46, 5, 0, 0), (7, 2, 8, 0, 0, 0, 0), (8, 2, 9, 0, 0, 0, 0), (9, 13, 12, 0, 1, 0, 0), (12, 0, 14, 0, 0, 0, 10), (14, 6, 15, 0, 0, 0, 0), (15, 0, 16, 0, 0, 0, 1), (16, 6, 17, 0, 1, 0, 0), (17, 0, 19, 0, 0, 0, 10), (19, 6, 20, 0, 10, 0, 0), (20, 15, 23, 0, 1, 0, 0), (23, 2, 24, 0, 0, 0, 0), (24, 10, 25, 0, 0, 0, 0), (25, 13, 28, 0, 2, 0, 0), (28, 0, 29, 0, 0, 0, 1), (29, 6, 30, 0, 1, 0, 0), (30, 15, 33, 0, 2, 0, 0), (33, 2, 34, 1, 0, 0, 0), (34, 2, 35, 0, 0, 0, 0), (35, 14, 38, 0, 0, 0, 0), (38, 2, 39, 0, 0, 0, 0), (39, 13, 42, 0, 1, 0, 0), (42, 22, 43, 0, 0, 0, 0), (43, 26, 46, 45, 2, 4, 0), (46, 28, 47, 0, 0, 0, 0)]
def kX1_init : List xE := [(0, 2, 1, 0, 0, 0, 0), (1, 32, 4, 0, 0, 0, 0), (4, 2, 5, 0, 0, 0, 0), (5, 29, 8, 3, 0, 0, 0), (8, 10, 9, 0, 0, 0, 0), (9, 26, 12, 37, 1, 3, 0), (12, 17, 15, 1, 0, 0, 0), (15, 2, 16, 0, 0, 0, 0), (16, 29, 19, 4, 0, 0, 0), (19, 10, 20, 0, 0, 0, 0), (20, 26, 23, 43, 1, 4, 0), (23, 17, 26, 1, 1, 0, 0), (26, 2, 27, 0, 0, 0, 0), (27, 2, 28, 1, 0, 0, 0), (28, 17, 31, 1, 2, 0, 0), (31, 28, 32, 0, 0, 0, 0)]
def kX1_place : List xE := [(0, 2, 1, 0, 0, 0, 0), (1, 13, 4, 1, 5, 0, 0), (4, 27, 5, 0, 0, 0, 0)]
def kX1_readAll : List xE := [(0, 2, 1, 0, 0, 0, 0), (1, 1, 2, 1, 0, 0, 0), (2, 2, 3, 0, 0, 0, 0), (3, 14, 6, 1, 2, 0, 0), (6, 24, 7, 0, 0, 0, 0), (7, 6, 10, 0, 12, 0, 0), (10, 15, 13, 1, 3, 0, 0), (13, 2, 14, 0, 0, 0, 0), (14, 0, 15, 0, 0, 0, 0), (15, 15, 18, 1, 4, 0, 0), (18, 2, 19, 0, 0, 0, 0), (19, 0, 20, 0, 0, 0, 0), (20, 16, 23, 1, 8, 0, 0), (23, 2, 24, 0, 0, 0, 0), (24, 0, 25, 0, 0, 0, 0), (25, 16, 28, 1, 9, 0, 0), (28, 2, 29, 0, 0, 0, 0), (29, 14, 32, 1, 0, 0, 0), (32, 26, 35, 38, 1, 3, 0), (35, 2, 36, 0, 0, 0, 0), (36, 14, 39, 1, 1, 0, 0), (39, 26, 42, 44, 1, 4, 0), (42, 0, 43, 0, 0, 0, 0), (43, 3, 44, 2, 0, 0, 0), (44, 1, 45, 2, 0, 0, 0), (45, 2, 46, 0, 0, 0, 0), (46, 13, 49, 1, 3, 0, 0), (49, 7, 52, 81, 4, 0, 0), (52, 2, 53, 0, 0, 0, 0), (53, 26, 56, 17, 1, 1, 0), (56, 2, 57, 0, 0, 0, 0), (57, 13, 60, 1, 6, 0, 0), (60, 0, 61, 0, 0, 0, -1), (61, 7, 64, 66, 1, 0, 0), (64, 1, 65, 2, 0, 0, 0), (65, 27, 66, 0, 0, 0, 0), (66, 2, 67, 0, 0, 0, 0), (67, 26, 70, 8, 1, 1, 0), (70, 8, 73, 75, 1, 0, 0), (73, 0, 74, 0, 0, 0, -1), (74, 27, 75, 0, 0, 0, 0), (75, 5, 78, 2, 0, 0, 1), (78, 9, 81, 44, 0, 0, 0), (81, 0, 82, 0, 0, 0, -1), (82, 27, 83, 0, 0, 0, 0)]
def kX1_readItem : List xE := [(0, 2, 1, 0, 0, 0, 0), (1, 13, 4, 1, 6, 0, 0), (4, 34, 56, 81, 0, 0, 0), (56, 2, 57, 0, 0, 0, 0), (57, 26, 60, 9, 1, 1, 0), (60, 27, 61, 0, 1, 0, 0), (61, 2, 62, 0, 0, 0, 0), (62, 26, 65, 10, 1, 1, 0), (65, 27, 66, 0, 1, 0, 0), (66, 2, 67, 0, 0, 0, 0), (67, 26, 70, 11, 1, 1, 0), (70, 27, 71, 0, 1, 0, 0), (71, 2, 72, 0, 0, 0, 0), (72, 26, 75, 12, 1, 1, 0), (75, 27, 76, 0, 1, 0, 0), (76, 2, 77, 0, 0, 0, 0), (77, 26, 80, 13, 1, 1, 0), (80, 27, 81, 0, 1, 0, 0), (81, 0, 82, 0, 0, 0, 0), (82, 27, 83, 0, 1, 0, 0)]
def kX1_readCases : List xE := [(0, 2, 1, 0, 0, 0, 0), (1, 13, 4, 1, 8, 0, 0), (4, 8, 7, 26, 1, 0, 0), (7, 2, 8, 0, 0, 0, 0), (8, 14, 11, 1, 0, 0, 0), (11, 13, 14, 3, 0, 0, 0), (14, 8, 17, 26, 4, 0, 0), (17, 2, 18, 0, 0, 0, 0), (18, 0, 19, 0, 0, 0, 1), (19, 0, 20, 0, 0, 0, 2), (20, 26, 23, 15, 3, 1, 0), (23, 8, 26, 28, 1, 0, 0), (26, 0, 27, 0, 0, 0, 0), (27, 27, 28, 0, 1, 0, 0), (28, 2, 29, 0, 0, 0, 0), (29, 0, 30, 0, 0, 0, 1), (30, 16, 33, 1, 8, 0, 0), (33, 2, 34, 0, 0, 0, 0), (34, 14, 37, 1, 0, 0, 0), (37, 2, 38, 0, 0, 0, 0), (38, 13, 41, 1, 7, 0, 0), (41, 15, 44, 3, 2, 0, 0), (44, 2, 45, 0, 0, 0, 0), (45, 26, 48, 14, 1, 1, 0), (48, 27, 49, 0, 1, 0, 0)]
def kX1_readLights : List xE := [(0, 2, 1, 0, 0, 0, 0), (1, 13, 4, 1, 9, 0, 0), (4, 8, 7, 17, 1, 0, 0), (7, 2, 8, 0, 0, 0, 0), (8, 14, 11, 1, 0, 0, 0), (11, 13, 14, 3, 0, 0, 0), (14, 8, 17, 19, 5, 0, 0), (17, 0, 18, 0, 0, 0, 0), (18, 27, 19, 0, 1, 0, 0), (19, 2, 20, 0, 0, 0, 0), (20, 0, 21, 0, 0, 0, 1), (21, 16, 24, 1, 9, 0, 0), (24, 0, 25, 0, 0, 0, 0), (25, 3, 26, 1, 0, 0, 0), (26, 1, 27, 1, 0, 0, 0), (27, 0, 28, 0, 0, 0, 4), (28, 7, 31, 91, 3, 0, 0), (31, 2, 32, 0, 0, 0, 0), (32, 26, 35, 17, 1, 1, 0), (35, 2, 36, 0, 0, 0, 0), (36, 13, 39, 1, 6, 0, 0), (39, 0, 41, 0, 0, 0, 59), (41, 7, 44, 50, 1, 0, 0), (44, 1, 45, 1, 0, 0, 0), (45, 8, 48, 50, 5, 0, 0), (48, 0, 49, 0, 0, 0, 1), (49, 27, 50, 0, 1, 0, 0), (50, 2, 51, 0, 0, 0, 0), (51, 0, 52, 0, 0, 0, 0), (52, 0, 54, 0, 0, 0, 30), (54, 26, 57, 16, 3, 1, 0), (57, 8, 60, 62, 1, 0, 0), (60, 0, 61, 0, 0, 0, 0), (61, 27, 62, 0, 1, 0, 0), (62, 2, 63, 0, 0, 0, 0), (63, 14, 66, 1, 0, 0, 0), (66, 14, 69, 3, 4, 0, 0), (69, 1, 70, 1, 0, 0, 0), (70, 2, 71, 0, 0, 0, 0), (71, 13, 74, 1, 7, 0, 0), (74, 19, 75, 0, 0, 0, 0), (75, 2, 76, 0, 0, 0, 0), (76, 14, 79, 1, 0, 0, 0), (79, 1, 80, 1, 0, 0, 0), (80, 0, 81, 0, 0, 0, 1), (81, 6, 82, 0, 0, 0, 0), (82, 15, 85, 3, 1, 0, 0), (85, 5, 88, 1, 0, 0, 1), (88, 9, 91, 26, 0, 0, 0), (91, 2, 92, 0, 0, 0, 0), (92, 26, 95, 14, 1, 1, 0), (95, 27, 96, 0, 1, 0, 0)]
def kX1_readThing : List xE := [(0, 2, 1, 0, 0, 0, 0), (1, 14, 4, 1, 0, 0, 0), (4, 13, 7, 3, 0, 0, 0), (7, 0, 9, 0, 0, 0, 6), (9, 7, 12, 22, 3, 0, 0), (12, 2, 13, 0, 0, 0, 0), (13, 0, 14, 0, 0, 0, 0), (14, 0, 16, 0, 0, 0, 99), (16, 26, 19, 15, 3, 1, 0), (19, 8, 22, 24, 1, 0, 0), (22, 0, 23, 0, 0, 0, 0), (23, 27, 24, 0, 1, 0, 0), (24, 2, 25, 0, 0, 0, 0), (25, 14, 28, 1, 0, 0, 0), (28, 14, 31, 3, 3, 0, 0), (31, 2, 32, 0, 0, 0, 0), (32, 14, 35, 1, 0, 0, 0), (35, 13, 38, 3, 0, 0, 0), (38, 2, 39, 0, 0, 0, 0), (39, 13, 42, 1, 7, 0, 0), (42, 19, 43, 0, 0, 0, 0), (43, 2, 44, 0, 0, 0, 0), (44, 14, 47, 1, 0, 0, 0), (47, 10, 48, 0, 0, 0, 0), (48, 13, 51, 3, 0, 0, 0), (51, 0, 52, 0, 0, 0, 1), (52, 6, 53, 0, 0, 0, 0), (53, 15, 56, 3, 0, 0, 0), (56, 2, 57, 0, 0, 0, 0), (57, 26, 60, 14, 1, 1, 0), (60, 27, 61, 0, 1, 0, 0)]
def kX1_readBarred : List xE := [(0, 2, 1, 0, 0, 0, 0), (1, 0, 2, 0, 0, 0, 0), (2, 2, 3, 0, 0, 0, 0), (3, 14, 6, 1, 0, 0, 0), (6, 13, 9, 3, 0, 0, 0), (9, 0, 10, 0, 0, 0, 1), (10, 6, 11, 0, 1, 0, 0), (11, 26, 14, 15, 3, 1, 0), (14, 8, 17, 19, 1, 0, 0), (17, 0, 18, 0, 0, 0, 0), (18, 27, 19, 0, 1, 0, 0), (19, 2, 20, 0, 0, 0, 0), (20, 13, 23, 1, 7, 0, 0), (23, 3, 24, 1, 0, 0, 0), (24, 2, 25, 0, 0, 0, 0), (25, 0, 26, 0, 0, 0, 0), (26, 2, 27, 0, 0, 0, 0), (27, 14, 30, 1, 0, 0, 0), (30, 13, 33, 3, 0, 0, 0), (33, 0, 34, 0, 0, 0, 1), (34, 6, 35, 0, 1, 0, 0), (35, 26, 38, 15, 3, 1, 0), (38, 8, 41, 43, 1, 0, 0), (41, 0, 42, 0, 0, 0, 0), (42, 27, 43, 0, 1, 0, 0), (43, 2, 44, 0, 0, 0, 0), (44, 13, 47, 1, 7, 0, 0), (47, 3, 48, 2, 0, 0, 0), (48, 1, 49, 2, 0, 0, 0), (49, 1, 50, 1, 0, 0, 0), (50, 7, 53, 65, 0, 0, 0), (53, 2, 54, 0, 0, 0, 0), (54, 14, 57, 1, 1, 0, 0), (57, 1, 58, 1, 0, 0, 0), (58, 1, 59, 2, 0, 0, 0), (59, 26, 62, 50, 3, 4, 0), (62, 8, 65, 67, 0, 0, 0), (65, 0, 66, 0, 0, 0, 0), (66, 27, 67, 0, 1, 0, 0), (67, 2, 68, 0, 0, 0, 0), (68, 14, 71, 1, 1, 0, 0), (71, 1, 72, 1, 0, 0, 0), (72, 1, 73, 2, 0, 0, 0), (73, 26, 76, 51, 3, 4, 0), (76, 2, 77, 0, 0, 0, 0), (77, 26, 80, 14, 1, 1, 0), (80, 27, 81, 0, 1, 0, 0)]
def kX1_readLoan : List xE := [(0, 2, 1, 0, 0, 0, 0), (1, 0, 2, 0, 0, 0, 0), (2, 2, 3, 0, 0, 0, 0), (3, 14, 6, 1, 0, 0, 0), (6, 13, 9, 3, 0, 0, 0), (9, 0, 10, 0, 0, 0, 1), (10, 6, 11, 0, 1, 0, 0), (11, 26, 14, 15, 3, 1, 0), (14, 8, 17, 19, 1, 0, 0), (17, 0, 18, 0, 0, 0, 0), (18, 27, 19, 0, 1, 0, 0), (19, 2, 20, 0, 0, 0, 0), (20, 13, 23, 1, 7, 0, 0), (23, 3, 24, 1, 0, 0, 0), (24, 2, 25, 0, 0, 0, 0), (25, 0, 26, 0, 0, 0, 0), (26, 2, 27, 0, 0, 0, 0), (27, 14, 30, 1, 0, 0, 0), (30, 13, 33, 3, 1, 0, 0), (33, 0, 34, 0, 0, 0, 1), (34, 6, 35, 0, 1, 0, 0), (35, 26, 38, 15, 3, 1, 0), (38, 8, 41, 43, 1, 0, 0), (41, 0, 42, 0, 0, 0, 0), (42, 27, 43, 0, 1, 0, 0), (43, 2, 44, 0, 0, 0, 0), (44, 13, 47, 1, 7, 0, 0), (47, 3, 48, 2, 0, 0, 0), (48, 2, 49, 0, 0, 0, 0), (49, 1, 50, 2, 0, 0, 0), (50, 2, 51, 0, 0, 0, 0), (51, 14, 54, 1, 0, 0, 0), (54, 13, 57, 3, 1, 0, 0), (57, 0, 58, 0, 0, 0, 1), (58, 6, 59, 0, 1, 0, 0), (59, 26, 62, 15, 3, 1, 0), (62, 8, 65, 67, 1, 0, 0), (65, 0, 66, 0, 0, 0, 0), (66, 27, 67, 0, 1, 0, 0), (67, 2, 68, 0, 0, 0, 0), (68, 14, 71, 1, 1, 0, 0), (71, 14, 74, 4, 1, 0, 0), (74, 1, 75, 1, 0, 0, 0), (75, 1, 76, 2, 0, 0, 0), (76, 19, 77, 0, 0, 0, 0), (77, 2, 78, 0, 0, 0, 0), (78, 14, 81, 1, 1, 0, 0), (81, 14, 84, 4, 2, 0, 0), (84, 1, 85, 1, 0, 0, 0), (85, 2, 86, 0, 0, 0, 0), (86, 13, 89, 1, 7, 0, 0), (89, 19, 90, 0, 0, 0, 0), (90, 2, 91, 0, 0, 0, 0), (91, 26, 94, 14, 1, 1, 0), (94, 27, 95, 0, 1, 0, 0)]
def kX1_nextIsEnd : List xE := [(0, 2, 1, 0, 0, 0, 0), (1, 26, 4, 17, 1, 1, 0), (4, 2, 5, 0, 0, 0, 0), (5, 13, 8, 1, 6, 0, 0), (8, 0, 10, 0, 0, 0, 59), (10, 7, 13, 17, 1, 0, 0), (13, 0, 14, 0, 0, 0, 1), (14, 9, 17, 18, 0, 0, 0), (17, 0, 18, 0, 0, 0, 0), (18, 27, 19, 0, 1, 0, 0)]
def kX1_nextIsNumber : List xE := [(0, 2, 1, 0, 0, 0, 0), (1, 26, 4, 17, 1, 1, 0), (4, 2, 5, 0, 0, 0, 0), (5, 1, 6, 1, 0, 0, 0), (6, 1, 7, 2, 0, 0, 0), (7, 26, 10, 16, 3, 1, 0), (10, 27, 11, 0, 1, 0, 0)]
def kX1_isNumber : List xE := [(0, 2, 1, 0, 0, 0, 0), (1, 13, 4, 1, 6, 0, 0), (4, 0, 6, 0, 0, 0, -2), (6, 7, 9, 29, 1, 0, 0), (9, 2, 10, 0, 0, 0, 0), (10, 13, 13, 1, 7, 0, 0), (13, 1, 14, 1, 0, 0, 0), (14, 7, 17, 29, 2, 0, 0), (17, 2, 18, 0, 0, 0, 0), (18, 13, 21, 1, 7, 0, 0), (21, 1, 22, 2, 0, 0, 0), (22, 7, 25, 29, 4, 0, 0), (25, 0, 26, 0, 0, 0, 1), (26, 9, 29, 30, 0, 0, 0), (29, 0, 30, 0, 0, 0, 0), (30, 27, 31, 0, 1, 0, 0)]
def kX1_advance : List xE := [(0, 2, 1, 0, 0, 0, 0), (1, 13, 4, 1, 4, 0, 0), (4, 2, 5, 0, 0, 0, 0), (5, 13, 8, 1, 3, 0, 0), (8, 7, 11, 38, 3, 0, 0), (11, 2, 12, 0, 0, 0, 0), (12, 14, 15, 1, 2, 0, 0), (15, 2, 16, 0, 0, 0, 0), (16, 13, 19, 1, 4, 0, 0), (19, 18, 20, 0, 0, 0, 0), (20, 0, 22, 0, 0, 0, 32), (22, 7, 25, 38, 1, 0, 0), (25, 2, 26, 0, 0, 0, 0), (26, 10, 27, 0, 0, 0, 0), (27, 13, 30, 1, 4, 0, 0), (30, 0, 31, 0, 0, 0, 1), (31, 6, 32, 0, 0, 0, 0), (32, 15, 35, 1, 4, 0, 0), (35, 9, 38, 0, 0, 0, 0), (38, 2, 39, 0, 0, 0, 0), (39, 2, 40, 0, 0, 0, 0), (40, 13, 43, 1, 4, 0, 0), (43, 15, 46, 1, 5, 0, 0), (46, 2, 47, 0, 0, 0, 0), (47, 13, 50, 1, 4, 0, 0), (50, 2, 51, 0, 0, 0, 0), (51, 13, 54, 1, 3, 0, 0), (54, 7, 57, 65, 2, 0, 0), (57, 2, 58, 0, 0, 0, 0), (58, 0, 59, 0, 0, 0, -1), (59, 15, 62, 1, 6, 0, 0), (62, 9, 65, 130, 0, 0, 0), (65, 2, 66, 0, 0, 0, 0), (66, 14, 69, 1, 2, 0, 0), (69, 2, 70, 0, 0, 0, 0), (70, 13, 73, 1, 4, 0, 0), (73, 18, 74, 0, 0, 0, 0), (74, 25, 77, 19, 1, 0, 0), (77, 8, 80, 87, 0, 0, 0), (80, 2, 81, 0, 0, 0, 0), (81, 26, 84, 18, 1, 1, 0), (84, 9, 87, 130, 0, 0, 0), (87, 2, 88, 0, 0, 0, 0), (88, 2, 89, 0, 0, 0, 0), (89, 14, 92, 1, 2, 0, 0), (92, 2, 93, 0, 0, 0, 0), (93, 13, 96, 1, 4, 0, 0), (96, 18, 97, 0, 0, 0, 0), (97, 25, 100, 20, 1, 0, 0), (100, 8, 103, 115, 0, 0, 0), (103, 2, 104, 0, 0, 0, 0), (104, 14, 107, 1, 2, 0, 0), (107, 2, 108, 0, 0, 0, 0), (108, 13, 111, 1, 4, 0, 0), (111, 18, 112, 0, 0, 0, 0), (112, 9, 115, 117, 0, 0, 0), (115, 0, 117, 0, 0, 0, -3), (117, 15, 120, 1, 6, 0, 0), (120, 2, 121, 0, 0, 0, 0), (121, 10, 122, 0, 0, 0, 0), (122, 13, 125, 1, 4, 0, 0), (125, 0, 126, 0, 0, 0, 1), (126, 6, 127, 0, 0, 0, 0), (127, 15, 130, 1, 4, 0, 0), (130, 28, 131, 0, 0, 0, 0)]
def kX1_advanceOverNumber : List xE := [(0, 0, 1, 0, 0, 0, 1), (1, 3, 2, 1, 0, 0, 0), (2, 2, 3, 0, 0, 0, 0), (3, 0, 4, 0, 0, 0, 0), (4, 15, 7, 1, 7, 0, 0), (7, 2, 8, 0, 0, 0, 0), (8, 13, 11, 1, 4, 0, 0), (11, 2, 12, 0, 0, 0, 0), (12, 13, 15, 1, 3, 0, 0), (15, 7, 18, 103, 3, 0, 0), (18, 2, 19, 0, 0, 0, 0), (19, 14, 22, 1, 2, 0, 0), (22, 2, 23, 0, 0, 0, 0), (23, 13, 26, 1, 4, 0, 0), (26, 18, 27, 0, 0, 0, 0), (27, 25, 30, 19, 1, 0, 0), (30, 8, 33, 103, 0, 0, 0), (33, 1, 34, 1, 0, 0, 0), (34, 8, 37, 59, 0, 0, 0), (37, 2, 38, 0, 0, 0, 0), (38, 13, 41, 1, 4, 0, 0), (41, 2, 42, 0, 0, 0, 0), (42, 13, 45, 1, 5, 0, 0), (45, 7, 48, 55, 0, 0, 0), (48, 2, 49, 0, 0, 0, 0), (49, 13, 52, 1, 7, 0, 0), (52, 8, 55, 59, 5, 0, 0), (55, 0, 56, 0, 0, 0, 1), (56, 9, 59, 60, 0, 0, 0), (59, 0, 60, 0, 0, 0, 0), (60, 3, 61, 1, 0, 0, 0), (61, 2, 62, 0, 0, 0, 0), (62, 0, 64, 0, 0, 0, 10), (64, 2, 65, 0, 0, 0, 0), (65, 13, 68, 1, 7, 0, 0), (68, 6, 69, 0, 2, 0, 0), (69, 2, 70, 0, 0, 0, 0), (70, 14, 73, 1, 2, 0, 0), (73, 2, 74, 0, 0, 0, 0), (74, 13, 77, 1, 4, 0, 0), (77, 18, 78, 0, 0, 0, 0), (78, 6, 79, 0, 0, 0, 0), (79, 0, 81, 0, 0, 0, 48), (81, 6, 82, 0, 1, 0, 0), (82, 0, 84, 0, 0, 0, 100), (84, 6, 87, 0, 12, 0, 0), (87, 15, 90, 1, 7, 0, 0), (90, 2, 91, 0, 0, 0, 0), (91, 10, 92, 0, 0, 0, 0), (92, 13, 95, 1, 4, 0, 0), (95, 0, 96, 0, 0, 0, 1), (96, 6, 97, 0, 0, 0, 0), (97, 15, 100, 1, 4, 0, 0), (100, 9, 103, 7, 0, 0, 0), (103, 2, 104, 0, 0, 0, 0), (104, 1, 105, 1, 0, 0, 0), (105, 8, 108, 122, 0, 0, 0), (108, 2, 109, 0, 0, 0, 0), (109, 13, 112, 1, 7, 0, 0), (112, 0, 114, 0, 0, 0, 99), (114, 7, 117, 122, 4, 0, 0), (117, 0, 119, 0, 0, 0, -2), (119, 9, 122, 124, 0, 0, 0), (122, 0, 124, 0, 0, 0, -3), (124, 15, 127, 1, 6, 0, 0), (127, 28, 128, 0, 0, 0, 0)]
def kX1_isFigure : List xE := [(0, 1, 1, 0, 0, 0, 0), (1, 0, 3, 0, 0, 0, 48), (3, 7, 6, 16, 2, 0, 0), (6, 1, 7, 0, 0, 0, 0), (7, 0, 9, 0, 0, 0, 57), (9, 7, 12, 16, 4, 0, 0), (12, 0, 13, 0, 0, 0, 1), (13, 9, 16, 17, 0, 0, 0), (16, 0, 17, 0, 0, 0, 0), (17, 27, 18, 0, 1, 0, 0)]
def kX1_isSign : List xE := [(0, 1, 1, 0, 0, 0, 0), (1, 0, 3, 0, 0, 0, 99), (3, 7, 6, 36, 0, 0, 0), (6, 1, 7, 0, 0, 0, 0), (7, 0, 9, 0, 0, 0, 108), (9, 7, 12, 36, 0, 0, 0), (12, 1, 13, 0, 0, 0, 0), (13, 0, 15, 0, 0, 0, 116), (15, 7, 18, 36, 0, 0, 0), (18, 1, 19, 0, 0, 0, 0), (19, 0, 21, 0, 0, 0, 120), (21, 7, 24, 36, 0, 0, 0), (24, 1, 25, 0, 0, 0, 0), (25, 0, 27, 0, 0, 0, 97), (27, 7, 30, 36, 0, 0, 0), (30, 1, 31, 0, 0, 0, 0), (31, 0, 33, 0, 0, 0, 59), (33, 7, 36, 40, 1, 0, 0), (36, 0, 37, 0, 0, 0, 1), (37, 9, 40, 41, 0, 0, 0), (40, 0, 41, 0, 0, 0, 0), (41, 27, 42, 0, 1, 0, 0)]
def kX2_init : List xE := [(0, 2, 1, 0, 0, 0, 0), (1, 32, 4, 0, 0, 0, 0), (4, 2, 5, 0, 0, 0, 0), (5, 0, 7, 0, 0, 0, 8), (7, 30, 9, 0, 1, 0, 0), (9, 17, 12, 2, 2, 0, 0), (12, 2, 13, 0, 0, 0, 0), (13, 0, 15, 0, 0, 0, 8), (15, 30, 17, 0, 1, 0, 0), (17, 17, 20, 2, 3, 0, 0), (20, 2, 21, 0, 0, 0, 0), (21, 0, 23, 0, 0, 0, 6), (23, 30, 25, 0, 1, 0, 0), (25, 17, 28, 2, 4, 0, 0), (28, 2, 29, 0, 0, 0, 0), (29, 0, 31, 0, 0, 0, 6), (31, 30, 33, 0, 1, 0, 0), (33, 17, 36, 2, 5, 0, 0), (36, 2, 37, 0, 0, 0, 0), (37, 0, 39, 0, 0, 0, 6), (39, 30, 41, 0, 1, 0, 0), (41, 17, 44, 2, 6, 0, 0), (44, 2, 45, 0, 0, 0, 0), (45, 0, 47, 0, 0, 0, 8), (47, 30, 49, 0, 1, 0, 0), (49, 17, 52, 2, 7, 0, 0), (52, 2, 53, 0, 0, 0, 0), (53, 0, 55, 0, 0, 0, 8), (55, 30, 57, 0, 1, 0, 0), (57, 17, 60, 2, 8, 0, 0), (60, 2, 61, 0, 0, 0, 0), (61, 0, 63, 0, 0, 0, 10), (63, 30, 65, 0, 1, 0, 0), (65, 17, 68, 2, 9, 0, 0), (68, 2, 69, 0, 0, 0, 0), (69, 0, 71, 0, 0, 0, 8), (71, 30, 73, 0, 1, 0, 0), (73, 17, 76, 2, 10, 0, 0), (76, 2, 77, 0, 0, 0, 0), (77, 2, 78, 1, 0, 0, 0), (78, 17, 81, 2, 0, 0, 0), (81, 2, 82, 0, 0, 0, 0), (82, 2, 83, 2, 0, 0, 0), (83, 17, 86, 2, 1, 0, 0), (86, 28, 87, 0, 0, 0, 0)]
def kX2_bestMost : List xE := [(0, 2, 1, 0, 0, 0, 0), (1, 13, 4, 2, 15, 0, 0), (4, 27, 5, 0, 0, 0, 0)]
def kX2_copyBestTo : List xE := [(0, 2, 1, 0, 0, 0, 0), (1, 14, 4, 2, 8, 0, 0), (4, 0, 5, 0, 0, 0, 0), (5, 2, 6, 1, 0, 0, 0), (6, 0, 7, 0, 0, 0, 0), (7, 2, 8, 0, 0, 0, 0), (8, 14, 11, 2, 8, 0, 0), (11, 24, 12, 0, 0, 0, 0), (12, 2, 13, 1, 0, 0, 0), (13, 24, 14, 0, 0, 0, 0), (14, 6, 17, 0, 12, 0, 0), (17, 33, 20, 0, 0, 0, 0), (20, 28, 21, 0, 0, 0, 0)]
def kX2_canBeFilled : List xE := [(0, 2, 1, 0, 0, 0, 0), (1, 1, 2, 1, 0, 0, 0), (2, 1, 3, 2, 0, 0, 0), (3, 0, 4, 0, 0, 0, 1), (4, 26, 7, 26, 4, 2, 0), (7, 2, 8, 0, 0, 0, 0), (8, 0, 9, 0, 0, 0, 1), (9, 16, 12, 2, 12, 0, 0), (12, 2, 13, 0, 0, 0, 0), (13, 0, 14, 0, 0, 0, 0), (14, 0, 16, 0, 0, 0, 6), (16, 0, 17, 0, 0, 0, 0), (17, 26, 20, 32, 4, 2, 0), (20, 2, 21, 0, 0, 0, 0), (21, 13, 24, 2, 14, 0, 0), (24, 27, 25, 0, 1, 0, 0)]
def kX2_fewestChanges : List xE := [(0, 2, 1, 0, 0, 0, 0), (1, 1, 2, 1, 0, 0, 0), (2, 0, 3, 0, 0, 0, 0), (3, 0, 4, 0, 0, 0, 0), (4, 26, 7, 26, 4, 2, 0), (7, 2, 8, 0, 0, 0, 0), (8, 1, 9, 3, 0, 0, 0), (9, 16, 12, 2, 12, 0, 0), (12, 1, 13, 2, 0, 0, 0), (13, 3, 15, 4, 0, 0, 0), (15, 1, 17, 4, 0, 0, 0), (17, 0, 19, 0, 0, 0, 6), (19, 7, 22, 46, 4, 0, 0), (22, 2, 23, 0, 0, 0, 0), (23, 0, 24, 0, 0, 0, 0), (24, 1, 26, 4, 0, 0, 0), (26, 0, 27, 0, 0, 0, 0), (27, 26, 30, 32, 4, 2, 0), (30, 2, 31, 0, 0, 0, 0), (31, 13, 34, 2, 14, 0, 0), (34, 8, 37, 40, 0, 0, 0), (37, 1, 39, 4, 0, 0, 0), (39, 27, 40, 0, 0, 0, 0), (40, 5, 43, 4, 0, 0, 1), (43, 9, 46, 15, 0, 0, 0), (46, 0, 48, 0, 0, 0, -9), (48, 27, 49, 0, 0, 0, 0)]
def kX2_prepare : List xE := [(0, 2, 1, 0, 0, 0, 0), (1, 0, 2, 0, 0, 0, 0), (2, 16, 5, 2, 14, 0, 0), (5, 2, 6, 0, 0, 0, 0), (6, 1, 7, 3, 0, 0, 0), (7, 16, 10, 2, 13, 0, 0), (10, 2, 11, 0, 0, 0, 0), (11, 0, 14, 0, 0, 0, 1000), (14, 15, 17, 2, 16, 0, 0), (17, 2, 18, 0, 0, 0, 0), (18, 2, 19, 0, 0, 0, 0), (19, 14, 22, 2, 0, 0, 0), (22, 13, 25, 3, 1, 0, 0), (25, 2, 26, 0, 0, 0, 0), (26, 14, 29, 2, 0, 0, 0), (29, 13, 32, 3, 2, 0, 0), (32, 6, 33, 0, 2, 0, 0), (33, 15, 36, 2, 11, 0, 0), (36, 0, 37, 0, 0, 0, 0), (37, 3, 39, 4, 0, 0, 0), (39, 1, 41, 4, 0, 0, 0), (41, 2, 42, 0, 0, 0, 0), (42, 14, 45, 2, 0, 0, 0), (45, 13, 48, 3, 0, 0, 0), (48, 7, 51, 122, 3, 0, 0), (51, 2, 52, 0, 0, 0, 0), (52, 14, 55, 2, 6, 0, 0), (55, 1, 57, 4, 0, 0, 0), (57, 0, 58, 0, 0, 0, 0), (58, 19, 59, 0, 0, 0, 0), (59, 2, 60, 0, 0, 0, 0), (60, 14, 63, 2, 4, 0, 0), (63, 1, 65, 4, 0, 0, 0), (65, 2, 66, 0, 0, 0, 0), (66, 14, 69, 2, 1, 0, 0), (69, 0, 70, 0, 0, 0, 0), (70, 26, 73, 53, 2, 4, 0), (73, 8, 76, 91, 0, 0, 0), (76, 2, 77, 0, 0, 0, 0), (77, 14, 80, 2, 0, 0, 0), (80, 14, 83, 3, 3, 0, 0), (83, 1, 85, 4, 0, 0, 0), (85, 18, 86, 0, 0, 0, 0), (86, 1, 87, 2, 0, 0, 0), (87, 6, 88, 0, 0, 0, 0), (88, 9, 91, 94, 0, 0, 0), (91, 0, 94, 0, 0, 0, 1000), (94, 19, 95, 0, 0, 0, 0), (95, 2, 96, 0, 0, 0, 0), (96, 14, 99, 2, 5, 0, 0), (99, 1, 101, 4, 0, 0, 0), (101, 0, 102, 0, 0, 0, 1), (102, 1, 104, 4, 0, 0, 0), (104, 6, 105, 0, 6, 0, 0), (105, 2, 106, 0, 0, 0, 0), (106, 14, 109, 2, 1, 0, 0), (109, 1, 111, 4, 0, 0, 0), (111, 26, 114, 49, 2, 4, 0), (114, 6, 115, 0, 4, 0, 0), (115, 19, 116, 0, 0, 0, 0), (116, 5, 119, 4, 0, 0, 1), (119, 9, 122, 39, 0, 0, 0), (122, 0, 123, 0, 0, 0, 0), (123, 3, 125, 4, 0, 0, 0), (125, 1, 127, 4, 0, 0, 0), (127, 2, 128, 0, 0, 0, 0), (128, 14, 131, 2, 0, 0, 0), (131, 13, 134, 3, 1, 0, 0), (134, 7, 137, 182, 3, 0, 0), (137, 1, 138, 3, 0, 0, 0), (138, 8, 141, 153, 0, 0, 0), (141, 2, 142, 0, 0, 0, 0), (142, 14, 145, 2, 0, 0, 0), (145, 1, 147, 4, 0, 0, 0), (147, 26, 150, 41, 2, 3, 0), (150, 9, 153, 155, 0, 0, 0), (153, 1, 155, 4, 0, 0, 0), (155, 3, 157, 5, 0, 0, 0), (157, 2, 158, 0, 0, 0, 0), (158, 1, 160, 4, 0, 0, 0), (160, 2, 161, 0, 0, 0, 0), (161, 14, 164, 2, 0, 0, 0), (164, 1, 166, 5, 0, 0, 0), (166, 0, 167, 0, 0, 0, 0), (167, 26, 170, 40, 3, 3, 0), (170, 0, 171, 0, 0, 0, 1), (171, 1, 172, 1, 0, 0, 0), (172, 6, 173, 0, 6, 0, 0), (173, 26, 176, 27, 4, 2, 0), (176, 5, 179, 4, 0, 0, 1), (179, 9, 182, 125, 0, 0, 0), (182, 2, 183, 0, 0, 0, 0), (183, 26, 186, 30, 1, 2, 0), (186, 28, 187, 0, 0, 0, 0)]
def kX2_openSeason : List xE := [(0, 2, 1, 0, 0, 0, 0), (1, 2, 2, 0, 0, 0, 0), (2, 14, 5, 2, 0, 0, 0), (5, 14, 8, 3, 4, 0, 0), (8, 1, 9, 1, 0, 0, 0), (9, 18, 10, 0, 0, 0, 0), (10, 26, 13, 29, 2, 2, 0), (13, 2, 14, 0, 0, 0, 0), (14, 14, 17, 2, 1, 0, 0), (17, 1, 18, 1, 0, 0, 0), (18, 26, 21, 47, 2, 4, 0), (21, 0, 22, 0, 0, 0, -1), (22, 6, 23, 0, 5, 0, 0), (23, 6, 24, 0, 3, 0, 0), (24, 1, 25, 3, 0, 0, 0), (25, 0, 26, 0, 0, 0, -1), (26, 6, 27, 0, 5, 0, 0), (27, 6, 28, 0, 3, 0, 0), (28, 3, 30, 4, 0, 0, 0), (30, 0, 31, 0, 0, 0, 0), (31, 3, 33, 5, 0, 0, 0), (33, 1, 35, 5, 0, 0, 0), (35, 2, 36, 0, 0, 0, 0), (36, 14, 39, 2, 0, 0, 0), (39, 13, 42, 3, 2, 0, 0), (42, 7, 45, 98, 3, 0, 0), (45, 2, 46, 0, 0, 0, 0), (46, 14, 49, 2, 3, 0, 0), (49, 1, 50, 2, 0, 0, 0), (50, 1, 52, 5, 0, 0, 0), (52, 6, 53, 0, 0, 0, 0), (53, 2, 54, 0, 0, 0, 0), (54, 14, 57, 2, 0, 0, 0), (57, 14, 60, 3, 4, 0, 0), (60, 1, 61, 1, 0, 0, 0), (61, 18, 62, 0, 0, 0, 0), (62, 19, 63, 0, 0, 0, 0), (63, 2, 64, 0, 0, 0, 0), (64, 14, 67, 2, 2, 0, 0), (67, 1, 68, 2, 0, 0, 0), (68, 1, 70, 5, 0, 0, 0), (70, 6, 71, 0, 0, 0, 0), (71, 1, 73, 4, 0, 0, 0), (73, 2, 74, 0, 0, 0, 0), (74, 14, 77, 2, 1, 0, 0), (77, 2, 78, 0, 0, 0, 0), (78, 14, 81, 2, 0, 0, 0), (81, 1, 82, 1, 0, 0, 0), (82, 1, 84, 5, 0, 0, 0), (84, 26, 87, 40, 3, 3, 0), (87, 26, 90, 48, 2, 4, 0), (90, 6, 91, 0, 3, 0, 0), (91, 19, 92, 0, 0, 0, 0), (92, 5, 95, 5, 0, 0, 1), (95, 9, 98, 33, 0, 0, 0), (98, 2, 99, 0, 0, 0, 0), (99, 14, 102, 2, 0, 0, 0), (102, 13, 105, 3, 2, 0, 0), (105, 0, 106, 0, 0, 0, 2), (106, 7, 109, 159, 1, 0, 0), (109, 2, 110, 0, 0, 0, 0), (110, 14, 113, 2, 2, 0, 0), (113, 1, 114, 2, 0, 0, 0), (114, 2, 115, 0, 0, 0, 0), (115, 2, 116, 0, 0, 0, 0), (116, 14, 119, 2, 2, 0, 0), (119, 1, 120, 2, 0, 0, 0), (120, 18, 121, 0, 0, 0, 0), (121, 2, 122, 0, 0, 0, 0), (122, 14, 125, 2, 2, 0, 0), (125, 1, 126, 2, 0, 0, 0), (126, 0, 127, 0, 0, 0, 1), (127, 6, 128, 0, 0, 0, 0), (128, 18, 129, 0, 0, 0, 0), (129, 26, 132, 28, 3, 2, 0), (132, 19, 133, 0, 0, 0, 0), (133, 2, 134, 0, 0, 0, 0), (134, 14, 137, 2, 2, 0, 0), (137, 1, 138, 2, 0, 0, 0), (138, 0, 139, 0, 0, 0, 1), (139, 6, 140, 0, 0, 0, 0), (140, 2, 141, 0, 0, 0, 0), (141, 2, 142, 0, 0, 0, 0), (142, 14, 145, 2, 2, 0, 0), (145, 1, 146, 2, 0, 0, 0), (146, 0, 147, 0, 0, 0, 1), (147, 6, 148, 0, 0, 0, 0), (148, 18, 149, 0, 0, 0, 0), (149, 2, 150, 0, 0, 0, 0), (150, 14, 153, 2, 2, 0, 0), (153, 1, 154, 2, 0, 0, 0), (154, 18, 155, 0, 0, 0, 0), (155, 26, 158, 28, 3, 2, 0), (158, 19, 159, 0, 0, 0, 0), (159, 28, 160, 0, 0, 0, 0)]
def kX2_withPartner : List xE := [(0, 0, 1, 0, 0, 0, 0), (1, 3, 2, 3, 0, 0, 0), (2, 0, 3, 0, 0, 0, 0), (3, 3, 5, 4, 0, 0, 0), (5, 1, 7, 4, 0, 0, 0), (7, 2, 8, 0, 0, 0, 0), (8, 14, 11, 2, 0, 0, 0), (11, 13, 14, 3, 0, 0, 0), (14, 7, 17, 54, 3, 0, 0), (17, 1, 18, 1, 0, 0, 0), (18, 1, 20, 4, 0, 0, 0), (20, 6, 21, 0, 7, 0, 0), (21, 0, 22, 0, 0, 0, 1), (22, 6, 23, 0, 3, 0, 0), (23, 0, 24, 0, 0, 0, 1), (24, 7, 27, 48, 1, 0, 0), (27, 1, 28, 2, 0, 0, 0), (28, 2, 29, 0, 0, 0, 0), (29, 14, 32, 2, 5, 0, 0), (32, 1, 34, 4, 0, 0, 0), (34, 18, 35, 0, 0, 0, 0), (35, 0, 36, 0, 0, 0, -1), (36, 6, 37, 0, 5, 0, 0), (37, 6, 38, 0, 3, 0, 0), (38, 8, 41, 48, 0, 0, 0), (41, 1, 42, 3, 0, 0, 0), (42, 0, 43, 0, 0, 0, 1), (43, 1, 45, 4, 0, 0, 0), (45, 6, 46, 0, 6, 0, 0), (46, 6, 47, 0, 4, 0, 0), (47, 3, 48, 3, 0, 0, 0), (48, 5, 51, 4, 0, 0, 1), (51, 9, 54, 5, 0, 0, 0), (54, 1, 55, 3, 0, 0, 0), (55, 27, 56, 0, 0, 0, 0)]
def kX2_thingsThatBear : List xE := [(0, 0, 1, 0, 0, 0, 0), (1, 3, 2, 2, 0, 0, 0), (2, 0, 3, 0, 0, 0, 0), (3, 3, 4, 3, 0, 0, 0), (4, 1, 5, 3, 0, 0, 0), (5, 2, 6, 0, 0, 0, 0), (6, 14, 9, 2, 0, 0, 0), (9, 13, 12, 3, 0, 0, 0), (12, 7, 15, 37, 3, 0, 0), (15, 1, 16, 1, 0, 0, 0), (16, 2, 17, 0, 0, 0, 0), (17, 14, 20, 2, 4, 0, 0), (20, 1, 21, 3, 0, 0, 0), (21, 18, 22, 0, 0, 0, 0), (22, 7, 25, 31, 4, 0, 0), (25, 1, 26, 2, 0, 0, 0), (26, 0, 27, 0, 0, 0, 1), (27, 1, 28, 3, 0, 0, 0), (28, 6, 29, 0, 6, 0, 0), (29, 6, 30, 0, 4, 0, 0), (30, 3, 31, 2, 0, 0, 0), (31, 5, 34, 3, 0, 0, 1), (34, 9, 37, 4, 0, 0, 0), (37, 1, 38, 2, 0, 0, 0), (38, 27, 39, 0, 0, 0, 0)]
def kX2_countRuns : List xE := [(0, 2, 1, 0, 0, 0, 0), (1, 14, 4, 2, 9, 0, 0), (4, 0, 5, 0, 0, 0, 0), (5, 25, 8, 148, 2, 0, 0), (8, 2, 9, 0, 0, 0, 0), (9, 13, 12, 2, 11, 0, 0), (12, 0, 13, 0, 0, 0, 1), (13, 6, 14, 0, 1, 0, 0), (14, 3, 15, 1, 0, 0, 0), (15, 1, 16, 1, 0, 0, 0), (16, 8, 19, 93, 2, 0, 0), (19, 0, 22, 0, 0, 0, 1000), (22, 3, 23, 2, 0, 0, 0), (23, 0, 24, 0, 0, 0, 0), (24, 3, 25, 3, 0, 0, 0), (25, 1, 26, 3, 0, 0, 0), (26, 2, 27, 0, 0, 0, 0), (27, 14, 30, 2, 0, 0, 0), (30, 13, 33, 3, 0, 0, 0), (33, 7, 36, 78, 3, 0, 0), (36, 2, 37, 0, 0, 0, 0), (37, 14, 40, 2, 2, 0, 0), (40, 1, 41, 1, 0, 0, 0), (41, 18, 42, 0, 0, 0, 0), (42, 1, 43, 3, 0, 0, 0), (43, 6, 44, 0, 7, 0, 0), (44, 0, 45, 0, 0, 0, 1), (45, 6, 46, 0, 3, 0, 0), (46, 0, 47, 0, 0, 0, 1), (47, 7, 50, 72, 1, 0, 0), (50, 1, 51, 2, 0, 0, 0), (51, 2, 52, 0, 0, 0, 0), (52, 14, 55, 2, 9, 0, 0), (55, 2, 56, 0, 0, 0, 0), (56, 1, 57, 3, 0, 0, 0), (57, 1, 58, 1, 0, 0, 0), (58, 2, 59, 0, 0, 0, 0), (59, 14, 62, 2, 3, 0, 0), (62, 1, 63, 1, 0, 0, 0), (63, 18, 64, 0, 0, 0, 0), (64, 26, 67, 31, 4, 2, 0), (67, 18, 68, 0, 0, 0, 0), (68, 6, 71, 0, 12, 0, 0), (71, 3, 72, 2, 0, 0, 0), (72, 5, 75, 3, 0, 0, 1), (75, 9, 78, 25, 0, 0, 0), (78, 2, 79, 0, 0, 0, 0), (79, 14, 82, 2, 9, 0, 0), (82, 1, 83, 1, 0, 0, 0), (83, 0, 84, 0, 0, 0, 1), (84, 1, 85, 2, 0, 0, 0), (85, 6, 86, 0, 0, 0, 0), (86, 19, 87, 0, 0, 0, 0), (87, 5, 90, 1, 0, 0, -1), (90, 9, 93, 15, 0, 0, 0), (93, 28, 94, 0, 0, 0, 0)]
def kX2_leavesAt : List xE := [(0, 1, 1, 2, 0, 0, 0), (1, 2, 2, 0, 0, 0, 0), (2, 14, 5, 2, 0, 0, 0), (5, 13, 8, 3, 2, 0, 0), (8, 6, 9, 0, 0, 0, 0), (9, 3, 11, 4, 0, 0, 0), (11, 1, 12, 3, 0, 0, 0), (12, 3, 14, 5, 0, 0, 0), (14, 0, 15, 0, 0, 0, 0), (15, 3, 17, 6, 0, 0, 0), (17, 1, 19, 6, 0, 0, 0), (19, 0, 20, 0, 0, 0, 4), (20, 7, 23, 90, 3, 0, 0), (23, 1, 25, 4, 0, 0, 0), (25, 2, 26, 0, 0, 0, 0), (26, 13, 29, 2, 11, 0, 0), (29, 7, 32, 90, 3, 0, 0), (32, 1, 34, 5, 0, 0, 0), (34, 2, 35, 0, 0, 0, 0), (35, 14, 38, 2, 3, 0, 0), (38, 1, 40, 4, 0, 0, 0), (40, 18, 41, 0, 0, 0, 0), (41, 6, 42, 0, 0, 0, 0), (42, 3, 44, 5, 0, 0, 0), (44, 2, 45, 0, 0, 0, 0), (45, 14, 48, 2, 2, 0, 0), (48, 1, 50, 4, 0, 0, 0), (50, 18, 51, 0, 0, 0, 0), (51, 1, 52, 1, 0, 0, 0), (52, 6, 53, 0, 7, 0, 0), (53, 0, 54, 0, 0, 0, 1), (54, 6, 55, 0, 3, 0, 0), (55, 8, 58, 69, 0, 0, 0), (58, 1, 60, 5, 0, 0, 0), (60, 2, 61, 0, 0, 0, 0), (61, 14, 64, 2, 4, 0, 0), (64, 1, 65, 1, 0, 0, 0), (65, 18, 66, 0, 0, 0, 0), (66, 7, 69, 72, 5, 0, 0), (69, 1, 71, 4, 0, 0, 0), (71, 27, 72, 0, 0, 0, 0), (72, 1, 74, 4, 0, 0, 0), (74, 2, 75, 0, 0, 0, 0), (75, 14, 78, 2, 0, 0, 0), (78, 13, 81, 3, 2, 0, 0), (81, 6, 82, 0, 0, 0, 0), (82, 3, 84, 4, 0, 0, 0), (84, 5, 87, 6, 0, 0, 1), (87, 9, 90, 17, 0, 0, 0), (90, 1, 92, 4, 0, 0, 0), (92, 27, 93, 0, 0, 0, 0)]
def kX2_fill : List xE := [(0, 1, 1, 1, 0, 0, 0), (1, 2, 2, 0, 0, 0, 0), (2, 13, 5, 2, 11, 0, 0), (5, 7, 8, 13, 1, 0, 0), (8, 2, 9, 0, 0, 0, 0), (9, 1, 10, 3, 0, 0, 0), (10, 26, 13, 36, 2, 2, 0), (13, 1, 14, 1, 0, 0, 0), (14, 8, 17, 25, 2, 0, 0), (17, 1, 18, 1, 0, 0, 0), (18, 2, 19, 0, 0, 0, 0), (19, 13, 22, 2, 11, 0, 0), (22, 7, 25, 26, 2, 0, 0), (25, 28, 26, 0, 0, 0, 0), (26, 2, 27, 0, 0, 0, 0), (27, 14, 30, 2, 0, 0, 0), (30, 13, 33, 3, 2, 0, 0), (33, 0, 34, 0, 0, 0, 2), (34, 7, 37, 52, 1, 0, 0), (37, 1, 38, 1, 0, 0, 0), (38, 0, 39, 0, 0, 0, 1), (39, 6, 40, 0, 3, 0, 0), (40, 0, 41, 0, 0, 0, 1), (41, 7, 44, 52, 1, 0, 0), (44, 2, 45, 0, 0, 0, 0), (45, 1, 46, 1, 0, 0, 0), (46, 26, 49, 33, 2, 2, 0), (49, 9, 52, 58, 0, 0, 0), (52, 2, 53, 0, 0, 0, 0), (53, 14, 56, 2, 2, 0, 0), (56, 1, 57, 1, 0, 0, 0), (57, 18, 58, 0, 0, 0, 0), (58, 3, 60, 4, 0, 0, 0), (60, 0, 61, 0, 0, 0, 0), (61, 3, 63, 5, 0, 0, 0), (63, 1, 65, 5, 0, 0, 0), (65, 2, 66, 0, 0, 0, 0), (66, 14, 69, 2, 0, 0, 0), (69, 13, 72, 3, 0, 0, 0), (72, 7, 75, 109, 3, 0, 0), (75, 1, 76, 3, 0, 0, 0), (76, 2, 77, 0, 0, 0, 0), (77, 13, 80, 2, 16, 0, 0), (80, 7, 83, 109, 3, 0, 0), (83, 1, 85, 4, 0, 0, 0), (85, 1, 87, 5, 0, 0, 0), (87, 6, 88, 0, 7, 0, 0), (88, 0, 89, 0, 0, 0, 1), (89, 6, 90, 0, 3, 0, 0), (90, 0, 91, 0, 0, 0, 1), (91, 7, 94, 103, 1, 0, 0), (94, 2, 95, 0, 0, 0, 0), (95, 1, 97, 5, 0, 0, 0), (97, 1, 98, 1, 0, 0, 0), (98, 1, 99, 2, 0, 0, 0), (99, 1, 100, 3, 0, 0, 0), (100, 26, 103, 34, 5, 2, 0), (103, 5, 106, 5, 0, 0, 1), (106, 9, 109, 63, 0, 0, 0), (109, 28, 110, 0, 0, 0, 0)]
def kX2_besideFirst : List xE := [(0, 2, 1, 0, 0, 0, 0), (1, 14, 4, 2, 7, 0, 0), (4, 1, 5, 1, 0, 0, 0), (5, 0, 6, 0, 0, 0, 1), (6, 6, 7, 0, 1, 0, 0), (7, 18, 8, 0, 0, 0, 0), (8, 3, 9, 2, 0, 0, 0), (9, 2, 10, 0, 0, 0, 0), (10, 14, 13, 2, 2, 0, 0), (13, 1, 14, 1, 0, 0, 0), (14, 18, 15, 0, 0, 0, 0), (15, 2, 16, 0, 0, 0, 0), (16, 14, 19, 2, 5, 0, 0), (19, 1, 20, 2, 0, 0, 0), (20, 18, 21, 0, 0, 0, 0), (21, 0, 22, 0, 0, 0, -1), (22, 6, 23, 0, 5, 0, 0), (23, 6, 24, 0, 3, 0, 0), (24, 3, 25, 3, 0, 0, 0), (25, 2, 26, 0, 0, 0, 0), (26, 13, 29, 2, 13, 0, 0), (29, 8, 32, 57, 0, 0, 0), (32, 2, 33, 0, 0, 0, 0), (33, 14, 36, 2, 2, 0, 0), (36, 1, 37, 1, 0, 0, 0), (37, 18, 38, 0, 0, 0, 0), (38, 2, 39, 0, 0, 0, 0), (39, 14, 42, 2, 2, 0, 0), (42, 1, 43, 1, 0, 0, 0), (43, 0, 44, 0, 0, 0, 1), (44, 6, 45, 0, 1, 0, 0), (45, 18, 46, 0, 0, 0, 0), (46, 7, 49, 57, 1, 0, 0), (49, 1, 50, 3, 0, 0, 0), (50, 0, 51, 0, 0, 0, -1), (51, 1, 52, 2, 0, 0, 0), (52, 6, 53, 0, 6, 0, 0), (53, 6, 54, 0, 3, 0, 0), (54, 9, 57, 58, 0, 0, 0), (57, 1, 58, 3, 0, 0, 0), (58, 27, 59, 0, 0, 0, 0)]
def kX2_place : List xE := [(0, 1, 1, 2, 0, 0, 0), (1, 2, 2, 0, 0, 0, 0), (2, 14, 5, 2, 0, 0, 0), (5, 13, 8, 3, 2, 0, 0), (8, 6, 9, 0, 1, 0, 0), (9, 3, 11, 5, 0, 0, 0), (11, 1, 13, 5, 0, 0, 0), (13, 8, 16, 33, 2, 0, 0), (16, 2, 17, 0, 0, 0, 0), (17, 14, 20, 2, 7, 0, 0), (20, 1, 22, 5, 0, 0, 0), (22, 18, 23, 0, 0, 0, 0), (23, 1, 24, 1, 0, 0, 0), (24, 7, 27, 33, 0, 0, 0), (27, 1, 28, 3, 0, 0, 0), (28, 0, 29, 0, 0, 0, 1), (29, 6, 30, 0, 1, 0, 0), (30, 9, 33, 34, 0, 0, 0), (33, 1, 34, 3, 0, 0, 0), (34, 3, 36, 6, 0, 0, 0), (36, 2, 37, 0, 0, 0, 0), (37, 14, 40, 2, 6, 0, 0), (40, 1, 41, 1, 0, 0, 0), (41, 18, 42, 0, 0, 0, 0), (42, 3, 44, 7, 0, 0, 0), (44, 1, 46, 7, 0, 0, 0), (46, 2, 47, 0, 0, 0, 0), (47, 14, 50, 2, 3, 0, 0), (50, 1, 51, 2, 0, 0, 0), (51, 18, 52, 0, 0, 0, 0), (52, 6, 53, 0, 0, 0, 0), (53, 3, 55, 8, 0, 0, 0), (55, 1, 57, 6, 0, 0, 0), (57, 8, 60, 80, 2, 0, 0), (60, 1, 62, 8, 0, 0, 0), (62, 2, 63, 0, 0, 0, 0), (63, 14, 66, 2, 4, 0, 0), (66, 1, 67, 1, 0, 0, 0), (67, 18, 68, 0, 0, 0, 0), (68, 7, 71, 80, 4, 0, 0), (71, 1, 73, 8, 0, 0, 0), (73, 2, 74, 0, 0, 0, 0), (74, 13, 77, 2, 16, 0, 0), (77, 7, 80, 81, 2, 0, 0), (80, 28, 81, 0, 0, 0, 0), (81, 2, 82, 0, 0, 0, 0), (82, 14, 85, 2, 10, 0, 0), (85, 1, 86, 2, 0, 0, 0), (86, 2, 87, 0, 0, 0, 0), (87, 14, 90, 2, 9, 0, 0), (90, 2, 91, 0, 0, 0, 0), (91, 1, 92, 1, 0, 0, 0), (92, 1, 93, 2, 0, 0, 0), (93, 1, 95, 8, 0, 0, 0), (95, 26, 98, 31, 4, 2, 0), (98, 18, 99, 0, 0, 0, 0), (99, 19, 100, 0, 0, 0, 0), (100, 2, 101, 0, 0, 0, 0), (101, 14, 104, 2, 10, 0, 0), (104, 1, 105, 2, 0, 0, 0), (105, 18, 106, 0, 0, 0, 0), (106, 2, 107, 0, 0, 0, 0), (107, 1, 108, 2, 0, 0, 0), (108, 26, 111, 35, 2, 2, 0), (111, 6, 112, 0, 0, 0, 0), (112, 1, 114, 6, 0, 0, 0), (114, 7, 117, 156, 4, 0, 0), (117, 2, 118, 0, 0, 0, 0), (118, 14, 121, 2, 7, 0, 0), (121, 1, 122, 2, 0, 0, 0), (122, 1, 123, 1, 0, 0, 0), (123, 19, 124, 0, 0, 0, 0), (124, 2, 125, 0, 0, 0, 0), (125, 14, 128, 2, 6, 0, 0), (128, 1, 129, 1, 0, 0, 0), (129, 1, 131, 8, 0, 0, 0), (131, 19, 132, 0, 0, 0, 0), (132, 2, 133, 0, 0, 0, 0), (133, 1, 134, 2, 0, 0, 0), (134, 0, 135, 0, 0, 0, 1), (135, 6, 136, 0, 0, 0, 0), (136, 1, 138, 6, 0, 0, 0), (138, 1, 140, 4, 0, 0, 0), (140, 1, 142, 8, 0, 0, 0), (142, 6, 145, 0, 11, 0, 0), (145, 26, 148, 32, 4, 2, 0), (148, 2, 149, 0, 0, 0, 0), (149, 14, 152, 2, 6, 0, 0), (152, 1, 153, 1, 0, 0, 0), (153, 1, 155, 7, 0, 0, 0), (155, 19, 156, 0, 0, 0, 0), (156, 28, 157, 0, 0, 0, 0)]
def kX2_changesBeside : List xE := [(0, 2, 1, 0, 0, 0, 0), (1, 14, 4, 2, 0, 0, 0), (4, 13, 7, 3, 2, 0, 0), (7, 0, 8, 0, 0, 0, 1), (8, 7, 11, 13, 1, 0, 0), (11, 0, 12, 0, 0, 0, 0), (12, 27, 13, 0, 0, 0, 0), (13, 1, 14, 1, 0, 0, 0), (14, 8, 17, 28, 1, 0, 0), (17, 2, 18, 0, 0, 0, 0), (18, 14, 21, 2, 9, 0, 0), (21, 0, 22, 0, 0, 0, 1), (22, 18, 23, 0, 0, 0, 0), (23, 0, 24, 0, 0, 0, 1), (24, 6, 25, 0, 1, 0, 0), (25, 9, 28, 36, 0, 0, 0), (28, 2, 29, 0, 0, 0, 0), (29, 14, 32, 2, 10, 0, 0), (32, 1, 33, 1, 0, 0, 0), (33, 0, 34, 0, 0, 0, 1), (34, 6, 35, 0, 1, 0, 0), (35, 18, 36, 0, 0, 0, 0), (36, 27, 37, 0, 0, 0, 0)]
def kX2_take : List xE := [(0, 2, 1, 0, 0, 0, 0), (1, 14, 4, 2, 7, 0, 0), (4, 0, 5, 0, 0, 0, 0), (5, 2, 6, 0, 0, 0, 0), (6, 14, 9, 2, 8, 0, 0), (9, 0, 10, 0, 0, 0, 0), (10, 2, 11, 0, 0, 0, 0), (11, 13, 14, 2, 11, 0, 0), (14, 33, 17, 0, 0, 0, 0), (17, 2, 18, 0, 0, 0, 0), (18, 0, 19, 0, 0, 0, 1), (19, 16, 22, 2, 14, 0, 0), (22, 2, 23, 0, 0, 0, 0), (23, 1, 24, 1, 0, 0, 0), (24, 15, 27, 2, 15, 0, 0), (27, 2, 28, 0, 0, 0, 0), (28, 2, 29, 0, 0, 0, 0), (29, 13, 32, 2, 12, 0, 0), (32, 8, 35, 39, 0, 0, 0), (35, 0, 36, 0, 0, 0, 0), (36, 9, 39, 40, 0, 0, 0), (39, 1, 40, 1, 0, 0, 0), (40, 15, 43, 2, 16, 0, 0), (43, 28, 44, 0, 0, 0, 0)]
def kX3_init : List xE := [(0, 2, 1, 0, 0, 0, 0), (1, 32, 4, 0, 0, 0, 0), (4, 2, 5, 0, 0, 0, 0), (5, 0, 7, 0, 0, 0, 6), (7, 30, 9, 0, 1, 0, 0), (9, 17, 12, 3, 3, 0, 0), (12, 2, 13, 0, 0, 0, 0), (13, 0, 14, 0, 0, 0, 4), (14, 30, 16, 0, 1, 0, 0), (16, 17, 19, 3, 4, 0, 0), (19, 2, 20, 0, 0, 0, 0), (20, 26, 23, 38, 1, 3, 0), (23, 28, 24, 0, 0, 0, 0)]
def kX3_beAsAtFirst : List xE := [(0, 2, 1, 0, 0, 0, 0), (1, 0, 2, 0, 0, 0, 0), (2, 15, 5, 3, 0, 0, 0), (5, 2, 6, 0, 0, 0, 0), (6, 0, 7, 0, 0, 0, 4), (7, 15, 10, 3, 1, 0, 0), (10, 2, 11, 0, 0, 0, 0), (11, 0, 12, 0, 0, 0, 2), (12, 15, 15, 3, 2, 0, 0), (15, 2, 16, 0, 0, 0, 0), (16, 14, 19, 3, 3, 0, 0), (19, 0, 20, 0, 0, 0, 0), (20, 25, 23, 148, 2, 0, 0), (23, 2, 24, 0, 0, 0, 0), (24, 14, 27, 3, 4, 0, 0), (27, 0, 28, 0, 0, 0, 5), (28, 25, 31, 148, 2, 0, 0), (31, 28, 32, 0, 0, 0, 0)]
def kX3_takeFrom : List xE := [(0, 2, 1, 0, 0, 0, 0), (1, 2, 2, 1, 0, 0, 0), (2, 13, 5, 3, 0, 0, 0), (5, 15, 8, 3, 0, 0, 0), (8, 2, 9, 0, 0, 0, 0), (9, 2, 10, 1, 0, 0, 0), (10, 13, 13, 3, 1, 0, 0), (13, 15, 16, 3, 1, 0, 0), (16, 2, 17, 0, 0, 0, 0), (17, 2, 18, 1, 0, 0, 0), (18, 13, 21, 3, 2, 0, 0), (21, 15, 24, 3, 2, 0, 0), (24, 2, 25, 1, 0, 0, 0), (25, 14, 28, 3, 3, 0, 0), (28, 0, 29, 0, 0, 0, 0), (29, 2, 30, 0, 0, 0, 0), (30, 14, 33, 3, 3, 0, 0), (33, 0, 34, 0, 0, 0, 0), (34, 0, 36, 0, 0, 0, 6), (36, 33, 39, 0, 0, 0, 0), (39, 2, 40, 1, 0, 0, 0), (40, 14, 43, 3, 4, 0, 0), (43, 0, 44, 0, 0, 0, 0), (44, 2, 45, 0, 0, 0, 0), (45, 14, 48, 3, 4, 0, 0), (48, 0, 49, 0, 0, 0, 0), (49, 0, 50, 0, 0, 0, 4), (50, 33, 53, 0, 0, 0, 0), (53, 28, 54, 0, 0, 0, 0)]
def kX3_slotOf : List xE := [(0, 1, 1, 1, 0, 0, 0), (1, 2, 2, 0, 0, 0, 0), (2, 13, 5, 3, 2, 0, 0), (5, 6, 6, 0, 2, 0, 0), (6, 1, 7, 2, 0, 0, 0), (7, 6, 8, 0, 0, 0, 0), (8, 27, 9, 0, 0, 0, 0)]
def kX3_rankByLight : List xE := [(0, 0, 1, 0, 0, 0, 0), (1, 3, 2, 2, 0, 0, 0), (2, 0, 3, 0, 0, 0, 0), (3, 3, 4, 3, 0, 0, 0), (4, 1, 5, 3, 0, 0, 0), (5, 2, 6, 0, 0, 0, 0), (6, 13, 9, 3, 1, 0, 0), (9, 7, 12, 56, 3, 0, 0), (12, 2, 13, 0, 0, 0, 0), (13, 14, 16, 3, 4, 0, 0), (16, 1, 17, 3, 0, 0, 0), (17, 18, 18, 0, 0, 0, 0), (18, 2, 19, 0, 0, 0, 0), (19, 14, 22, 3, 4, 0, 0), (22, 1, 23, 1, 0, 0, 0), (23, 18, 24, 0, 0, 0, 0), (24, 7, 27, 47, 4, 0, 0), (27, 2, 28, 0, 0, 0, 0), (28, 14, 31, 3, 4, 0, 0), (31, 1, 32, 3, 0, 0, 0), (32, 18, 33, 0, 0, 0, 0), (33, 2, 34, 0, 0, 0, 0), (34, 14, 37, 3, 4, 0, 0), (37, 1, 38, 1, 0, 0, 0), (38, 18, 39, 0, 0, 0, 0), (39, 7, 42, 50, 1, 0, 0), (42, 1, 43, 3, 0, 0, 0), (43, 1, 44, 1, 0, 0, 0), (44, 7, 47, 50, 3, 0, 0), (47, 5, 50, 2, 0, 0, 1), (50, 5, 53, 3, 0, 0, 1), (53, 9, 56, 4, 0, 0, 0), (56, 1, 57, 2, 0, 0, 0), (57, 27, 58, 0, 0, 0, 0)]
def kX3_lightOver : List xE := [(0, 0, 1, 0, 0, 0, 0), (1, 3, 2, 2, 0, 0, 0), (2, 0, 3, 0, 0, 0, 0), (3, 3, 4, 3, 0, 0, 0), (4, 1, 5, 3, 0, 0, 0), (5, 2, 6, 0, 0, 0, 0), (6, 13, 9, 3, 1, 0, 0), (9, 7, 12, 36, 3, 0, 0), (12, 1, 13, 1, 0, 0, 0), (13, 1, 14, 3, 0, 0, 0), (14, 6, 15, 0, 7, 0, 0), (15, 0, 16, 0, 0, 0, 1), (16, 6, 17, 0, 3, 0, 0), (17, 0, 18, 0, 0, 0, 1), (18, 7, 21, 30, 1, 0, 0), (21, 1, 22, 2, 0, 0, 0), (22, 2, 23, 0, 0, 0, 0), (23, 14, 26, 3, 4, 0, 0), (26, 1, 27, 3, 0, 0, 0), (27, 18, 28, 0, 0, 0, 0), (28, 6, 29, 0, 0, 0, 0), (29, 3, 30, 2, 0, 0, 0), (30, 5, 33, 3, 0, 0, 1), (33, 9, 36, 4, 0, 0, 0), (36, 1, 37, 2, 0, 0, 0), (37, 27, 38, 0, 0, 0, 0)]
def kX4_init : List xE := [(0, 2, 1, 0, 0, 0, 0), (1, 32, 4, 0, 0, 0, 0), (4, 2, 5, 0, 0, 0, 0), (5, 0, 7, 0, 0, 0, 8), (7, 30, 9, 0, 1, 0, 0), (9, 17, 12, 4, 0, 0, 0), (12, 2, 13, 0, 0, 0, 0), (13, 0, 15, 0, 0, 0, 6), (15, 30, 17, 0, 1, 0, 0), (17, 17, 20, 4, 1, 0, 0), (20, 2, 21, 0, 0, 0, 0), (21, 0, 23, 0, 0, 0, 6), (23, 30, 25, 0, 1, 0, 0), (25, 17, 28, 4, 2, 0, 0), (28, 2, 29, 0, 0, 0, 0), (29, 0, 31, 0, 0, 0, 6), (31, 30, 33, 0, 1, 0, 0), (33, 17, 36, 4, 3, 0, 0), (36, 2, 37, 0, 0, 0, 0), (37, 26, 40, 44, 1, 4, 0), (40, 28, 41, 0, 0, 0, 0)]
def kX4_beAsAtFirst : List xE := [(0, 2, 1, 0, 0, 0, 0), (1, 14, 4, 4, 0, 0, 0), (4, 0, 6, 0, 0, 0, -9), (6, 25, 9, 148, 2, 0, 0), (9, 2, 10, 0, 0, 0, 0), (10, 14, 13, 4, 1, 0, 0), (13, 0, 15, 0, 0, 0, -9), (15, 25, 18, 148, 2, 0, 0), (18, 2, 19, 0, 0, 0, 0), (19, 14, 22, 4, 2, 0, 0), (22, 0, 24, 0, 0, 0, -9), (24, 25, 27, 148, 2, 0, 0), (27, 2, 28, 0, 0, 0, 0), (28, 14, 31, 4, 3, 0, 0), (31, 0, 32, 0, 0, 0, 0), (32, 25, 35, 148, 2, 0, 0), (35, 2, 36, 0, 0, 0, 0), (36, 0, 38, 0, 0, 0, 15), (38, 15, 41, 4, 4, 0, 0), (41, 28, 42, 0, 0, 0, 0)]
def kX4_takeFrom : List xE := [(0, 2, 1, 1, 0, 0, 0), (1, 14, 4, 4, 0, 0, 0), (4, 0, 5, 0, 0, 0, 0), (5, 2, 6, 0, 0, 0, 0), (6, 14, 9, 4, 0, 0, 0), (9, 0, 10, 0, 0, 0, 0), (10, 0, 12, 0, 0, 0, 8), (12, 33, 15, 0, 0, 0, 0), (15, 2, 16, 1, 0, 0, 0), (16, 14, 19, 4, 1, 0, 0), (19, 0, 20, 0, 0, 0, 0), (20, 2, 21, 0, 0, 0, 0), (21, 14, 24, 4, 1, 0, 0), (24, 0, 25, 0, 0, 0, 0), (25, 0, 27, 0, 0, 0, 6), (27, 33, 30, 0, 0, 0, 0), (30, 2, 31, 1, 0, 0, 0), (31, 14, 34, 4, 2, 0, 0), (34, 0, 35, 0, 0, 0, 0), (35, 2, 36, 0, 0, 0, 0), (36, 14, 39, 4, 2, 0, 0), (39, 0, 40, 0, 0, 0, 0), (40, 0, 42, 0, 0, 0, 6), (42, 33, 45, 0, 0, 0, 0), (45, 2, 46, 1, 0, 0, 0), (46, 14, 49, 4, 3, 0, 0), (49, 0, 50, 0, 0, 0, 0), (50, 2, 51, 0, 0, 0, 0), (51, 14, 54, 4, 3, 0, 0), (54, 0, 55, 0, 0, 0, 0), (55, 0, 57, 0, 0, 0, 6), (57, 33, 60, 0, 0, 0, 0), (60, 2, 61, 0, 0, 0, 0), (61, 2, 62, 1, 0, 0, 0), (62, 13, 65, 4, 4, 0, 0), (65, 15, 68, 4, 4, 0, 0), (68, 28, 69, 0, 0, 0, 0)]
def kX4_loanAsNumber : List xE := [(0, 2, 1, 0, 0, 0, 0), (1, 14, 4, 4, 1, 0, 0), (4, 1, 5, 1, 0, 0, 0), (5, 18, 6, 0, 0, 0, 0), (6, 0, 8, 0, 0, 0, -9), (8, 7, 11, 16, 1, 0, 0), (11, 0, 13, 0, 0, 0, -9), (13, 9, 16, 32, 0, 0, 0), (16, 0, 18, 0, 0, 0, 10), (18, 2, 19, 0, 0, 0, 0), (19, 14, 22, 4, 1, 0, 0), (22, 1, 23, 1, 0, 0, 0), (23, 18, 24, 0, 0, 0, 0), (24, 6, 25, 0, 2, 0, 0), (25, 2, 26, 0, 0, 0, 0), (26, 14, 29, 4, 2, 0, 0), (29, 1, 30, 1, 0, 0, 0), (30, 18, 31, 0, 0, 0, 0), (31, 6, 32, 0, 0, 0, 0), (32, 27, 33, 0, 0, 0, 0)]
def kX4_awayNow : List xE := [(0, 0, 1, 0, 0, 0, 0), (1, 3, 2, 2, 0, 0, 0), (2, 0, 3, 0, 0, 0, 0), (3, 3, 4, 3, 0, 0, 0), (4, 1, 5, 3, 0, 0, 0), (5, 0, 7, 0, 0, 0, 6), (7, 7, 10, 50, 3, 0, 0), (10, 2, 11, 0, 0, 0, 0), (11, 0, 12, 0, 0, 0, 1), (12, 26, 15, 53, 2, 4, 0), (15, 8, 18, 50, 0, 0, 0), (18, 2, 19, 0, 0, 0, 0), (19, 14, 22, 4, 1, 0, 0), (22, 1, 23, 3, 0, 0, 0), (23, 18, 24, 0, 0, 0, 0), (24, 1, 25, 1, 0, 0, 0), (25, 7, 28, 44, 4, 0, 0), (28, 1, 29, 1, 0, 0, 0), (29, 2, 30, 0, 0, 0, 0), (30, 14, 33, 4, 2, 0, 0), (33, 1, 34, 3, 0, 0, 0), (34, 18, 35, 0, 0, 0, 0), (35, 7, 38, 44, 4, 0, 0), (38, 1, 39, 2, 0, 0, 0), (39, 0, 40, 0, 0, 0, 1), (40, 1, 41, 3, 0, 0, 0), (41, 6, 42, 0, 6, 0, 0), (42, 6, 43, 0, 4, 0, 0), (43, 3, 44, 2, 0, 0, 0), (44, 5, 47, 3, 0, 0, 1), (47, 9, 50, 4, 0, 0, 0), (50, 1, 51, 2, 0, 0, 0), (51, 27, 52, 0, 0, 0, 0)]
def kX4_wantedNow : List xE := [(0, 2, 1, 0, 0, 0, 0), (1, 0, 2, 0, 0, 0, 3), (2, 26, 5, 53, 2, 4, 0), (5, 8, 8, 30, 0, 0, 0), (8, 2, 9, 0, 0, 0, 0), (9, 14, 12, 4, 0, 0, 0), (12, 1, 13, 1, 0, 0, 0), (13, 18, 14, 0, 0, 0, 0), (14, 0, 16, 0, 0, 0, -9), (16, 7, 19, 30, 0, 0, 0), (19, 0, 20, 0, 0, 0, 1), (20, 2, 21, 0, 0, 0, 0), (21, 14, 24, 4, 0, 0, 0), (24, 1, 25, 1, 0, 0, 0), (25, 18, 26, 0, 0, 0, 0), (26, 6, 27, 0, 6, 0, 0), (27, 9, 30, 32, 0, 0, 0), (30, 0, 32, 0, 0, 0, 63), (32, 27, 33, 0, 0, 0, 0)]
def kX4_barredNow : List xE := [(0, 2, 1, 0, 0, 0, 0), (1, 0, 2, 0, 0, 0, 2), (2, 26, 5, 53, 2, 4, 0), (5, 8, 8, 17, 0, 0, 0), (8, 2, 9, 0, 0, 0, 0), (9, 14, 12, 4, 3, 0, 0), (12, 1, 13, 1, 0, 0, 0), (13, 18, 14, 0, 0, 0, 0), (14, 9, 17, 18, 0, 0, 0), (17, 0, 18, 0, 0, 0, 0), (18, 27, 19, 0, 0, 0, 0)]
def kX4_isBarred : List xE := [(0, 2, 1, 0, 0, 0, 0), (1, 14, 4, 4, 3, 0, 0), (4, 1, 5, 1, 0, 0, 0), (5, 18, 6, 0, 0, 0, 0), (6, 1, 7, 2, 0, 0, 0), (7, 6, 8, 0, 7, 0, 0), (8, 0, 9, 0, 0, 0, 1), (9, 6, 10, 0, 3, 0, 0), (10, 0, 11, 0, 0, 0, 1), (11, 7, 14, 18, 1, 0, 0), (14, 0, 15, 0, 0, 0, 1), (15, 9, 18, 19, 0, 0, 0), (18, 0, 19, 0, 0, 0, 0), (19, 27, 20, 0, 1, 0, 0)]
def kX4_turnPair : List xE := [(0, 2, 1, 0, 0, 0, 0), (1, 14, 4, 4, 3, 0, 0), (4, 1, 5, 1, 0, 0, 0), (5, 11, 6, 0, 0, 0, 0), (6, 18, 7, 0, 0, 0, 0), (7, 0, 8, 0, 0, 0, 1), (8, 1, 9, 2, 0, 0, 0), (9, 6, 10, 0, 6, 0, 0), (10, 6, 11, 0, 5, 0, 0), (11, 19, 12, 0, 0, 0, 0), (12, 2, 13, 0, 0, 0, 0), (13, 14, 16, 4, 3, 0, 0), (16, 1, 17, 2, 0, 0, 0), (17, 11, 18, 0, 0, 0, 0), (18, 18, 19, 0, 0, 0, 0), (19, 0, 20, 0, 0, 0, 1), (20, 1, 21, 1, 0, 0, 0), (21, 6, 22, 0, 6, 0, 0), (22, 6, 23, 0, 5, 0, 0), (23, 19, 24, 0, 0, 0, 0), (24, 28, 25, 0, 0, 0, 0)]
def kX4_barredPairs : List xE := [(0, 0, 1, 0, 0, 0, 0), (1, 3, 2, 1, 0, 0, 0), (2, 0, 3, 0, 0, 0, 0), (3, 3, 4, 2, 0, 0, 0), (4, 1, 5, 2, 0, 0, 0), (5, 0, 7, 0, 0, 0, 6), (7, 7, 10, 28, 3, 0, 0), (10, 1, 11, 1, 0, 0, 0), (11, 2, 12, 0, 0, 0, 0), (12, 14, 15, 4, 3, 0, 0), (15, 1, 16, 2, 0, 0, 0), (16, 18, 17, 0, 0, 0, 0), (17, 25, 20, 147, 1, 0, 0), (20, 6, 21, 0, 0, 0, 0), (21, 3, 22, 1, 0, 0, 0), (22, 5, 25, 2, 0, 0, 1), (25, 9, 28, 4, 0, 0, 0), (28, 1, 29, 1, 0, 0, 0), (29, 0, 30, 0, 0, 0, 2), (30, 6, 31, 0, 9, 0, 0), (31, 27, 32, 0, 0, 0, 0)]
def kX4_isOn : List xE := [(0, 2, 1, 0, 0, 0, 0), (1, 13, 4, 4, 4, 0, 0), (4, 1, 5, 1, 0, 0, 0), (5, 6, 6, 0, 7, 0, 0), (6, 0, 7, 0, 0, 0, 1), (7, 6, 8, 0, 3, 0, 0), (8, 0, 9, 0, 0, 0, 1), (9, 7, 12, 16, 1, 0, 0), (12, 0, 13, 0, 0, 0, 1), (13, 9, 16, 17, 0, 0, 0), (16, 0, 17, 0, 0, 0, 0), (17, 27, 18, 0, 1, 0, 0)]
def kX5_init : List xE := [(0, 2, 1, 0, 0, 0, 0), (1, 32, 4, 0, 0, 0, 0), (4, 2, 5, 0, 0, 0, 0), (5, 0, 7, 0, 0, 0, 8), (7, 30, 9, 0, 1, 0, 0), (9, 17, 12, 5, 3, 0, 0), (12, 2, 13, 0, 0, 0, 0), (13, 0, 15, 0, 0, 0, 6), (15, 30, 17, 0, 1, 0, 0), (17, 17, 20, 5, 4, 0, 0), (20, 2, 21, 0, 0, 0, 0), (21, 0, 23, 0, 0, 0, -5), (23, 15, 26, 5, 5, 0, 0), (26, 2, 27, 0, 0, 0, 0), (27, 2, 28, 1, 0, 0, 0), (28, 17, 31, 5, 0, 0, 0), (31, 2, 32, 0, 0, 0, 0), (32, 2, 33, 2, 0, 0, 0), (33, 17, 36, 5, 1, 0, 0), (36, 2, 37, 0, 0, 0, 0), (37, 29, 40, 2, 0, 0, 0), (40, 10, 41, 0, 0, 0, 0), (41, 2, 42, 1, 0, 0, 0), (42, 2, 43, 2, 0, 0, 0), (43, 26, 46, 21, 3, 2, 0), (46, 17, 49, 5, 2, 0, 0), (49, 28, 50, 0, 0, 0, 0)]
def kX5_growStale : List xE := [(0, 2, 1, 0, 0, 0, 0), (1, 0, 3, 0, 0, 0, -5), (3, 15, 6, 5, 5, 0, 0), (6, 28, 7, 0, 0, 0, 0)]
def kX5_hasPlan : List xE := [(0, 2, 1, 0, 0, 0, 0), (1, 26, 4, 57, 1, 5, 0), (4, 0, 6, 0, 0, 0, -9), (6, 7, 9, 13, 0, 0, 0), (9, 0, 10, 0, 0, 0, 1), (10, 9, 13, 14, 0, 0, 0), (13, 0, 14, 0, 0, 0, 0), (14, 27, 15, 0, 1, 0, 0)]
def kX5_changesNow : List xE := [(0, 2, 1, 0, 0, 0, 0), (1, 13, 4, 5, 5, 0, 0), (4, 0, 6, 0, 0, 0, -5), (6, 7, 9, 73, 1, 0, 0), (9, 2, 10, 0, 0, 0, 0), (10, 2, 11, 0, 0, 0, 0), (11, 14, 14, 5, 2, 0, 0), (14, 0, 16, 0, 0, 0, 6), (16, 0, 17, 0, 0, 0, 0), (17, 26, 20, 24, 3, 2, 0), (20, 8, 23, 37, 0, 0, 0), (23, 2, 24, 0, 0, 0, 0), (24, 14, 27, 5, 2, 0, 0), (27, 0, 29, 0, 0, 0, 6), (29, 0, 30, 0, 0, 0, 0), (30, 0, 31, 0, 0, 0, 0), (31, 26, 34, 25, 4, 2, 0), (34, 9, 37, 39, 0, 0, 0), (37, 0, 39, 0, 0, 0, -9), (39, 15, 42, 5, 5, 0, 0), (42, 2, 43, 0, 0, 0, 0), (43, 2, 44, 0, 0, 0, 0), (44, 14, 47, 5, 2, 0, 0), (47, 26, 50, 22, 1, 2, 0), (50, 15, 53, 5, 6, 0, 0), (53, 2, 54, 0, 0, 0, 0), (54, 14, 57, 5, 2, 0, 0), (57, 2, 58, 0, 0, 0, 0), (58, 14, 61, 5, 3, 0, 0), (61, 26, 64, 23, 2, 2, 0), (64, 2, 65, 0, 0, 0, 0), (65, 14, 68, 5, 4, 0, 0), (68, 0, 70, 0, 0, 0, -5), (70, 25, 73, 148, 2, 0, 0), (73, 2, 74, 0, 0, 0, 0), (74, 13, 77, 5, 5, 0, 0), (77, 27, 78, 0, 0, 0, 0)]
def kX5_changesWithout : List xE := [(0, 2, 1, 0, 0, 0, 0), (1, 26, 4, 57, 1, 5, 0), (4, 3, 5, 2, 0, 0, 0), (5, 1, 6, 2, 0, 0, 0), (6, 0, 8, 0, 0, 0, -9), (8, 7, 11, 19, 0, 0, 0), (11, 2, 12, 0, 0, 0, 0), (12, 1, 13, 1, 0, 0, 0), (13, 26, 16, 62, 2, 5, 0), (16, 8, 19, 21, 1, 0, 0), (19, 1, 20, 2, 0, 0, 0), (20, 27, 21, 0, 0, 0, 0), (21, 2, 22, 0, 0, 0, 0), (22, 14, 25, 5, 4, 0, 0), (25, 1, 26, 1, 0, 0, 0), (26, 18, 27, 0, 0, 0, 0), (27, 0, 29, 0, 0, 0, -5), (29, 7, 32, 65, 1, 0, 0), (32, 2, 33, 0, 0, 0, 0), (33, 14, 36, 5, 4, 0, 0), (36, 1, 37, 1, 0, 0, 0), (37, 2, 38, 0, 0, 0, 0), (38, 14, 41, 5, 2, 0, 0), (41, 1, 42, 1, 0, 0, 0), (42, 0, 43, 0, 0, 0, 0), (43, 26, 46, 24, 3, 2, 0), (46, 8, 49, 62, 0, 0, 0), (49, 2, 50, 0, 0, 0, 0), (50, 14, 53, 5, 2, 0, 0), (53, 1, 54, 1, 0, 0, 0), (54, 1, 55, 2, 0, 0, 0), (55, 0, 56, 0, 0, 0, 1), (56, 26, 59, 25, 4, 2, 0), (59, 9, 62, 64, 0, 0, 0), (62, 0, 64, 0, 0, 0, -9), (64, 19, 65, 0, 0, 0, 0), (65, 2, 66, 0, 0, 0, 0), (66, 14, 69, 5, 4, 0, 0), (69, 1, 70, 1, 0, 0, 0), (70, 18, 71, 0, 0, 0, 0), (71, 27, 72, 0, 0, 0, 0)]
def kX5_mostLight : List xE := [(0, 2, 1, 0, 0, 0, 0), (1, 13, 4, 5, 6, 0, 0), (4, 27, 5, 0, 0, 0, 0)]
def kX5_thingIn : List xE := [(0, 2, 1, 0, 0, 0, 0), (1, 14, 4, 5, 3, 0, 0), (4, 1, 5, 1, 0, 0, 0), (5, 18, 6, 0, 0, 0, 0), (6, 27, 7, 0, 0, 0, 0)]
def kX5_thingsIn : List xE := [(0, 0, 1, 0, 0, 0, 0), (1, 3, 2, 2, 0, 0, 0), (2, 0, 3, 0, 0, 0, 0), (3, 3, 4, 3, 0, 0, 0), (4, 1, 5, 3, 0, 0, 0), (5, 2, 6, 0, 0, 0, 0), (6, 14, 9, 5, 0, 0, 0), (9, 13, 12, 3, 2, 0, 0), (12, 7, 15, 40, 3, 0, 0), (15, 1, 16, 2, 0, 0, 0), (16, 0, 17, 0, 0, 0, 1), (17, 2, 18, 0, 0, 0, 0), (18, 14, 21, 5, 3, 0, 0), (21, 2, 22, 0, 0, 0, 0), (22, 14, 25, 5, 0, 0, 0), (25, 1, 26, 1, 0, 0, 0), (26, 1, 27, 3, 0, 0, 0), (27, 26, 30, 40, 3, 3, 0), (30, 18, 31, 0, 0, 0, 0), (31, 6, 32, 0, 6, 0, 0), (32, 6, 33, 0, 4, 0, 0), (33, 3, 34, 2, 0, 0, 0), (34, 5, 37, 3, 0, 0, 1), (37, 9, 40, 4, 0, 0, 0), (40, 1, 41, 2, 0, 0, 0), (41, 27, 42, 0, 0, 0, 0)]
def kX5_seasonsOf : List xE := [(0, 0, 1, 0, 0, 0, 0), (1, 3, 2, 2, 0, 0, 0), (2, 0, 3, 0, 0, 0, 0), (3, 3, 4, 3, 0, 0, 0), (4, 1, 5, 3, 0, 0, 0), (5, 2, 6, 0, 0, 0, 0), (6, 14, 9, 5, 0, 0, 0), (9, 13, 12, 3, 1, 0, 0), (12, 7, 15, 35, 3, 0, 0), (15, 1, 16, 2, 0, 0, 0), (16, 2, 17, 0, 0, 0, 0), (17, 1, 18, 3, 0, 0, 0), (18, 26, 21, 61, 2, 5, 0), (21, 1, 22, 1, 0, 0, 0), (22, 6, 23, 0, 7, 0, 0), (23, 0, 24, 0, 0, 0, 1), (24, 6, 25, 0, 3, 0, 0), (25, 1, 26, 3, 0, 0, 0), (26, 6, 27, 0, 6, 0, 0), (27, 6, 28, 0, 4, 0, 0), (28, 3, 29, 2, 0, 0, 0), (29, 5, 32, 3, 0, 0, 1), (32, 9, 35, 4, 0, 0, 0), (35, 1, 36, 2, 0, 0, 0), (36, 27, 37, 0, 0, 0, 0)]
def kX5_thingOfRank : List xE := [(0, 0, 1, 0, 0, 0, 0), (1, 3, 2, 2, 0, 0, 0), (2, 1, 3, 2, 0, 0, 0), (3, 2, 4, 0, 0, 0, 0), (4, 14, 7, 5, 0, 0, 0), (7, 13, 10, 3, 0, 0, 0), (10, 7, 13, 30, 3, 0, 0), (13, 2, 14, 0, 0, 0, 0), (14, 1, 15, 2, 0, 0, 0), (15, 26, 18, 64, 2, 5, 0), (18, 1, 19, 1, 0, 0, 0), (19, 7, 22, 24, 1, 0, 0), (22, 1, 23, 2, 0, 0, 0), (23, 27, 24, 0, 0, 0, 0), (24, 5, 27, 2, 0, 0, 1), (27, 9, 30, 2, 0, 0, 0), (30, 0, 32, 0, 0, 0, -9), (32, 27, 33, 0, 0, 0, 0)]
def kX5_rankOf : List xE := [(0, 2, 1, 0, 0, 0, 0), (1, 1, 2, 1, 0, 0, 0), (2, 26, 5, 62, 2, 5, 0), (5, 25, 8, 147, 1, 0, 0), (8, 3, 9, 2, 0, 0, 0), (9, 0, 10, 0, 0, 0, 0), (10, 3, 11, 3, 0, 0, 0), (11, 0, 12, 0, 0, 0, 0), (12, 3, 14, 4, 0, 0, 0), (14, 1, 16, 4, 0, 0, 0), (16, 2, 17, 0, 0, 0, 0), (17, 14, 20, 5, 0, 0, 0), (20, 13, 23, 3, 0, 0, 0), (23, 7, 26, 64, 3, 0, 0), (26, 2, 27, 0, 0, 0, 0), (27, 1, 29, 4, 0, 0, 0), (29, 26, 32, 62, 2, 5, 0), (32, 25, 35, 147, 1, 0, 0), (35, 3, 37, 5, 0, 0, 0), (37, 1, 39, 5, 0, 0, 0), (39, 1, 40, 2, 0, 0, 0), (40, 7, 43, 55, 4, 0, 0), (43, 1, 45, 5, 0, 0, 0), (45, 1, 46, 2, 0, 0, 0), (46, 7, 49, 58, 1, 0, 0), (49, 1, 51, 4, 0, 0, 0), (51, 1, 52, 1, 0, 0, 0), (52, 7, 55, 58, 3, 0, 0), (55, 5, 58, 3, 0, 0, 1), (58, 5, 61, 4, 0, 0, 1), (61, 9, 64, 14, 0, 0, 0), (64, 1, 65, 3, 0, 0, 0), (65, 27, 66, 0, 0, 0, 0)]
def kX5_leastMore : List xE := [(0, 2, 1, 0, 0, 0, 0), (1, 26, 4, 57, 1, 5, 0), (4, 0, 6, 0, 0, 0, -9), (6, 7, 9, 11, 0, 0, 0), (9, 0, 10, 0, 0, 0, 0), (10, 27, 11, 0, 0, 0, 0), (11, 2, 12, 0, 0, 0, 0), (12, 14, 15, 5, 1, 0, 0), (15, 0, 16, 0, 0, 0, 0), (16, 26, 19, 53, 2, 4, 0), (19, 8, 22, 36, 0, 0, 0), (22, 2, 23, 0, 0, 0, 0), (23, 14, 26, 5, 2, 0, 0), (26, 0, 28, 0, 0, 0, 6), (28, 0, 30, 0, 0, 0, 99), (30, 26, 33, 24, 3, 2, 0), (33, 8, 36, 39, 1, 0, 0), (36, 0, 38, 0, 0, 0, -9), (38, 27, 39, 0, 0, 0, 0), (39, 0, 40, 0, 0, 0, 0), (40, 3, 41, 1, 0, 0, 0), (41, 0, 43, 0, 0, 0, 99), (43, 3, 44, 2, 0, 0, 0), (44, 0, 45, 0, 0, 0, 0), (45, 3, 46, 3, 0, 0, 0), (46, 1, 47, 3, 0, 0, 0), (47, 0, 49, 0, 0, 0, 99), (49, 7, 52, 95, 3, 0, 0), (52, 1, 53, 1, 0, 0, 0), (53, 0, 54, 0, 0, 0, 1), (54, 6, 55, 0, 0, 0, 0), (55, 1, 56, 2, 0, 0, 0), (56, 7, 59, 95, 3, 0, 0), (59, 1, 60, 1, 0, 0, 0), (60, 1, 61, 2, 0, 0, 0), (61, 6, 62, 0, 0, 0, 0), (62, 0, 63, 0, 0, 0, 2), (63, 6, 64, 0, 9, 0, 0), (64, 3, 66, 4, 0, 0, 0), (66, 2, 67, 0, 0, 0, 0), (67, 14, 70, 5, 2, 0, 0), (70, 0, 72, 0, 0, 0, 6), (72, 1, 74, 4, 0, 0, 0), (74, 26, 77, 24, 3, 2, 0), (77, 8, 80, 86, 0, 0, 0), (80, 1, 82, 4, 0, 0, 0), (82, 3, 83, 2, 0, 0, 0), (83, 9, 86, 89, 0, 0, 0), (86, 1, 88, 4, 0, 0, 0), (88, 3, 89, 1, 0, 0, 0), (89, 5, 92, 3, 0, 0, 1), (92, 9, 95, 46, 0, 0, 0), (95, 1, 96, 2, 0, 0, 0), (96, 27, 97, 0, 0, 0, 0)]
def kX6_init : List xE := [(0, 2, 1, 0, 0, 0, 0), (1, 32, 4, 0, 0, 0, 0), (4, 2, 5, 0, 0, 0, 0), (5, 0, 7, 0, 0, 0, 100), (7, 30, 9, 0, 1, 0, 0), (9, 17, 12, 6, 0, 0, 0), (12, 2, 13, 0, 0, 0, 0), (13, 0, 14, 0, 0, 0, 0), (14, 15, 17, 6, 1, 0, 0), (17, 2, 18, 0, 0, 0, 0), (18, 29, 21, 3, 0, 0, 0), (21, 10, 22, 0, 0, 0, 0), (22, 26, 25, 37, 1, 3, 0), (25, 17, 28, 6, 2, 0, 0), (28, 2, 29, 0, 0, 0, 0), (29, 29, 32, 4, 0, 0, 0), (32, 10, 33, 0, 0, 0, 0), (33, 26, 36, 43, 1, 4, 0), (36, 17, 39, 6, 3, 0, 0), (39, 2, 40, 0, 0, 0, 0), (40, 29, 43, 1, 0, 0, 0), (43, 10, 44, 0, 0, 0, 0), (44, 2, 45, 0, 0, 0, 0), (45, 14, 48, 6, 0, 0, 0), (48, 26, 51, 5, 2, 1, 0), (51, 17, 54, 6, 4, 0, 0), (54, 2, 55, 0, 0, 0, 0), (55, 29, 58, 0, 0, 0, 0), (58, 10, 59, 0, 0, 0, 0), (59, 26, 62, 0, 1, 0, 0), (62, 17, 65, 6, 5, 0, 0), (65, 2, 66, 0, 0, 0, 0), (66, 0, 67, 0, 0, 0, 2), (67, 31, 70, 4, 0, 0, 0), (70, 17, 73, 6, 6, 0, 0), (73, 2, 74, 0, 0, 0, 0), (74, 0, 75, 0, 0, 0, 0), (75, 15, 78, 6, 7, 0, 0), (78, 2, 79, 0, 0, 0, 0), (79, 0, 80, 0, 0, 0, 4), (80, 30, 82, 0, 1, 0, 0), (82, 17, 85, 6, 8, 0, 0), (85, 2, 86, 0, 0, 0, 0), (86, 0, 87, 0, 0, 0, 0), (87, 15, 90, 6, 9, 0, 0), (90, 2, 91, 0, 0, 0, 0), (91, 29, 94, 5, 0, 0, 0), (94, 10, 95, 0, 0, 0, 0), (95, 2, 96, 0, 0, 0, 0), (96, 14, 99, 6, 2, 0, 0), (99, 2, 100, 0, 0, 0, 0), (100, 14, 103, 6, 3, 0, 0), (103, 26, 106, 54, 3, 5, 0), (106, 17, 109, 6, 10, 0, 0), (109, 0, 110, 0, 0, 0, 0), (110, 3, 111, 1, 0, 0, 0), (111, 1, 112, 1, 0, 0, 0), (112, 0, 113, 0, 0, 0, 2), (113, 7, 116, 135, 3, 0, 0), (116, 2, 117, 0, 0, 0, 0), (117, 14, 120, 6, 6, 0, 0), (120, 1, 121, 1, 0, 0, 0), (121, 29, 124, 4, 0, 0, 0), (124, 10, 125, 0, 0, 0, 0), (125, 26, 128, 43, 1, 4, 0), (128, 23, 129, 0, 0, 0, 0), (129, 5, 132, 1, 0, 0, 1), (132, 9, 135, 111, 0, 0, 0), (135, 28, 136, 0, 0, 0, 0)]
def kX6_type : List xE := [(0, 1, 1, 1, 0, 0, 0), (1, 8, 4, 11, 2, 0, 0), (4, 1, 5, 1, 0, 0, 0), (5, 0, 8, 0, 0, 0, 255), (8, 7, 11, 13, 5, 0, 0), (11, 0, 12, 0, 0, 0, -1), (12, 27, 13, 0, 0, 0, 0), (13, 2, 14, 0, 0, 0, 0), (14, 13, 17, 6, 1, 0, 0), (17, 0, 19, 0, 0, 0, 100), (19, 7, 22, 25, 2, 0, 0), (22, 0, 24, 0, 0, 0, -3), (24, 27, 25, 0, 0, 0, 0), (25, 2, 26, 0, 0, 0, 0), (26, 14, 29, 6, 0, 0, 0), (29, 2, 30, 0, 0, 0, 0), (30, 13, 33, 6, 1, 0, 0), (33, 1, 34, 1, 0, 0, 0), (34, 19, 35, 0, 0, 0, 0), (35, 2, 36, 0, 0, 0, 0), (36, 10, 37, 0, 0, 0, 0), (37, 13, 40, 6, 1, 0, 0), (40, 0, 41, 0, 0, 0, 1), (41, 6, 42, 0, 0, 0, 0), (42, 15, 45, 6, 1, 0, 0), (45, 2, 46, 0, 0, 0, 0), (46, 13, 49, 6, 1, 0, 0), (49, 27, 50, 0, 0, 0, 0)]
def kX6_clear : List xE := [(0, 2, 1, 0, 0, 0, 0), (1, 13, 4, 6, 1, 0, 0), (4, 3, 5, 1, 0, 0, 0), (5, 2, 6, 0, 0, 0, 0), (6, 0, 7, 0, 0, 0, 0), (7, 15, 10, 6, 1, 0, 0), (10, 1, 11, 1, 0, 0, 0), (11, 27, 12, 0, 0, 0, 0)]
def kX6_house : List xE := [(0, 2, 1, 0, 0, 0, 0), (1, 14, 4, 6, 4, 0, 0), (4, 2, 5, 0, 0, 0, 0), (5, 13, 8, 6, 1, 0, 0), (8, 26, 11, 7, 2, 1, 0), (11, 3, 12, 1, 0, 0, 0), (12, 1, 13, 1, 0, 0, 0), (13, 8, 16, 27, 3, 0, 0), (16, 0, 18, 0, 0, 0, -10), (18, 2, 19, 0, 0, 0, 0), (19, 14, 22, 6, 4, 0, 0), (22, 26, 25, 6, 1, 1, 0), (25, 6, 26, 0, 1, 0, 0), (26, 27, 27, 0, 0, 0, 0), (27, 2, 28, 0, 0, 0, 0), (28, 14, 31, 6, 2, 0, 0), (31, 2, 32, 0, 0, 0, 0), (32, 14, 35, 6, 4, 0, 0), (35, 14, 38, 1, 0, 0, 0), (38, 26, 41, 39, 2, 3, 0), (41, 2, 42, 0, 0, 0, 0), (42, 14, 45, 6, 3, 0, 0), (45, 2, 46, 0, 0, 0, 0), (46, 14, 49, 6, 4, 0, 0), (49, 14, 52, 1, 1, 0, 0), (52, 26, 55, 45, 2, 4, 0), (55, 2, 56, 0, 0, 0, 0), (56, 14, 59, 6, 5, 0, 0), (59, 26, 62, 2, 1, 0, 0), (62, 2, 63, 0, 0, 0, 0), (63, 0, 64, 0, 0, 0, 0), (64, 15, 67, 6, 7, 0, 0), (67, 2, 68, 0, 0, 0, 0), (68, 0, 69, 0, 0, 0, 0), (69, 15, 72, 6, 9, 0, 0), (72, 2, 73, 0, 0, 0, 0), (73, 0, 74, 0, 0, 0, 0), (74, 15, 77, 6, 1, 0, 0), (77, 2, 78, 0, 0, 0, 0), (78, 14, 81, 6, 10, 0, 0), (81, 26, 84, 55, 1, 5, 0), (84, 1, 85, 1, 0, 0, 0), (85, 27, 86, 0, 0, 0, 0)]
def kX6_thing : List xE := [(0, 2, 1, 0, 0, 0, 0), (1, 1, 2, 1, 0, 0, 0), (2, 26, 5, 91, 2, 6, 0), (5, 8, 8, 10, 1, 0, 0), (8, 0, 9, 0, 0, 0, -1), (9, 27, 10, 0, 0, 0, 0), (10, 1, 11, 2, 0, 0, 0), (11, 34, 40, 80, 0, 1, 0), (40, 2, 41, 0, 0, 0, 0), (41, 14, 44, 6, 2, 0, 0), (44, 14, 47, 3, 3, 0, 0), (47, 1, 48, 1, 0, 0, 0), (48, 18, 49, 0, 0, 0, 0), (49, 27, 50, 0, 0, 0, 0), (50, 2, 51, 0, 0, 0, 0), (51, 14, 54, 6, 3, 0, 0), (54, 14, 57, 4, 1, 0, 0), (57, 1, 58, 1, 0, 0, 0), (58, 18, 59, 0, 0, 0, 0), (59, 27, 60, 0, 0, 0, 0), (60, 2, 61, 0, 0, 0, 0), (61, 14, 64, 6, 3, 0, 0), (64, 14, 67, 4, 2, 0, 0), (67, 1, 68, 1, 0, 0, 0), (68, 18, 69, 0, 0, 0, 0), (69, 27, 70, 0, 0, 0, 0), (70, 2, 71, 0, 0, 0, 0), (71, 14, 74, 6, 3, 0, 0), (74, 14, 77, 4, 3, 0, 0), (77, 1, 78, 1, 0, 0, 0), (78, 18, 79, 0, 0, 0, 0), (79, 27, 80, 0, 0, 0, 0), (80, 0, 81, 0, 0, 0, -1), (81, 27, 82, 0, 0, 0, 0)]
def kX6_light : List xE := [(0, 2, 1, 0, 0, 0, 0), (1, 1, 2, 1, 0, 0, 0), (2, 26, 5, 92, 2, 6, 0), (5, 8, 8, 20, 0, 0, 0), (8, 2, 9, 0, 0, 0, 0), (9, 14, 12, 6, 2, 0, 0), (12, 14, 15, 3, 4, 0, 0), (15, 1, 16, 1, 0, 0, 0), (16, 18, 17, 0, 0, 0, 0), (17, 9, 20, 21, 0, 0, 0), (20, 0, 21, 0, 0, 0, -1), (21, 27, 22, 0, 0, 0, 0)]
def kX6_down : List xE := [(0, 2, 1, 0, 0, 0, 0), (1, 1, 2, 1, 0, 0, 0), (2, 26, 5, 92, 2, 6, 0), (5, 8, 8, 36, 0, 0, 0), (8, 2, 9, 0, 0, 0, 0), (9, 1, 10, 2, 0, 0, 0), (10, 26, 13, 93, 2, 6, 0), (13, 8, 16, 36, 0, 0, 0), (16, 2, 17, 0, 0, 0, 0), (17, 14, 20, 6, 3, 0, 0), (20, 14, 23, 4, 0, 0, 0), (23, 2, 24, 0, 0, 0, 0), (24, 14, 27, 6, 2, 0, 0), (27, 1, 28, 1, 0, 0, 0), (28, 1, 29, 2, 0, 0, 0), (29, 26, 32, 40, 3, 3, 0), (32, 18, 33, 0, 0, 0, 0), (33, 9, 36, 37, 0, 0, 0), (36, 0, 37, 0, 0, 0, -1), (37, 27, 38, 0, 0, 0, 0)]
def kX6_sets : List xE := [(0, 2, 1, 0, 0, 0, 0), (1, 1, 2, 1, 0, 0, 0), (2, 26, 5, 92, 2, 6, 0), (5, 8, 8, 30, 0, 0, 0), (8, 2, 9, 0, 0, 0, 0), (9, 1, 10, 2, 0, 0, 0), (10, 26, 13, 93, 2, 6, 0), (13, 8, 16, 30, 0, 0, 0), (16, 1, 17, 3, 0, 0, 0), (17, 0, 19, 0, 0, 0, 6), (19, 7, 22, 32, 0, 0, 0), (22, 2, 23, 0, 0, 0, 0), (23, 1, 24, 3, 0, 0, 0), (24, 26, 27, 91, 2, 6, 0), (27, 8, 30, 32, 1, 0, 0), (30, 0, 31, 0, 0, 0, -1), (31, 27, 32, 0, 0, 0, 0), (32, 2, 33, 0, 0, 0, 0), (33, 14, 36, 6, 2, 0, 0), (36, 1, 37, 1, 0, 0, 0), (37, 1, 38, 2, 0, 0, 0), (38, 26, 41, 40, 3, 3, 0), (41, 3, 43, 4, 0, 0, 0), (43, 2, 44, 0, 0, 0, 0), (44, 14, 47, 6, 3, 0, 0), (47, 14, 50, 4, 0, 0, 0), (50, 1, 52, 4, 0, 0, 0), (52, 18, 53, 0, 0, 0, 0), (53, 3, 55, 5, 0, 0, 0), (55, 1, 56, 3, 0, 0, 0), (56, 0, 58, 0, 0, 0, 6), (58, 7, 61, 66, 1, 0, 0), (61, 0, 63, 0, 0, 0, -9), (63, 9, 66, 67, 0, 0, 0), (66, 1, 67, 3, 0, 0, 0), (67, 3, 69, 6, 0, 0, 0), (69, 1, 71, 5, 0, 0, 0), (71, 1, 73, 6, 0, 0, 0), (73, 7, 76, 79, 1, 0, 0), (76, 0, 78, 0, 0, 0, -2), (78, 27, 79, 0, 0, 0, 0), (79, 2, 80, 0, 0, 0, 0), (80, 26, 83, 94, 1, 6, 0), (83, 2, 84, 0, 0, 0, 0), (84, 14, 87, 6, 3, 0, 0), (87, 14, 90, 4, 0, 0, 0), (90, 1, 92, 4, 0, 0, 0), (92, 1, 94, 6, 0, 0, 0), (94, 19, 95, 0, 0, 0, 0), (95, 1, 97, 5, 0, 0, 0), (97, 27, 98, 0, 0, 0, 0)]
def kX6_lends : List xE := [(0, 1, 1, 2, 0, 0, 0), (1, 0, 2, 0, 0, 0, 4), (2, 7, 5, 13, 1, 0, 0), (5, 1, 6, 3, 0, 0, 0), (6, 8, 9, 13, 1, 0, 0), (9, 0, 10, 0, 0, 0, 1), (10, 9, 13, 14, 0, 0, 0), (13, 0, 14, 0, 0, 0, 0), (14, 3, 16, 4, 0, 0, 0), (16, 2, 17, 0, 0, 0, 0), (17, 1, 18, 2, 0, 0, 0), (18, 26, 21, 92, 2, 6, 0), (21, 8, 24, 41, 0, 0, 0), (24, 2, 25, 0, 0, 0, 0), (25, 1, 26, 3, 0, 0, 0), (26, 26, 29, 92, 2, 6, 0), (29, 8, 32, 41, 0, 0, 0), (32, 1, 33, 2, 0, 0, 0), (33, 1, 34, 3, 0, 0, 0), (34, 7, 37, 41, 4, 0, 0), (37, 0, 38, 0, 0, 0, 1), (38, 9, 41, 42, 0, 0, 0), (41, 0, 42, 0, 0, 0, 0), (42, 3, 44, 5, 0, 0, 0), (44, 2, 45, 0, 0, 0, 0), (45, 1, 46, 1, 0, 0, 0), (46, 26, 49, 91, 2, 6, 0), (49, 8, 52, 62, 0, 0, 0), (52, 1, 54, 4, 0, 0, 0), (54, 8, 57, 64, 1, 0, 0), (57, 1, 59, 5, 0, 0, 0), (59, 8, 62, 64, 1, 0, 0), (62, 0, 63, 0, 0, 0, -1), (63, 27, 64, 0, 0, 0, 0), (64, 1, 66, 4, 0, 0, 0), (66, 8, 69, 74, 0, 0, 0), (69, 0, 71, 0, 0, 0, -9), (71, 9, 74, 75, 0, 0, 0), (74, 1, 75, 2, 0, 0, 0), (75, 3, 77, 6, 0, 0, 0), (77, 1, 79, 4, 0, 0, 0), (79, 8, 82, 87, 0, 0, 0), (82, 0, 84, 0, 0, 0, -9), (84, 9, 87, 88, 0, 0, 0), (87, 1, 88, 3, 0, 0, 0), (88, 3, 90, 7, 0, 0, 0), (90, 2, 91, 0, 0, 0, 0), (91, 14, 94, 6, 3, 0, 0), (94, 14, 97, 4, 1, 0, 0), (97, 1, 98, 1, 0, 0, 0), (98, 18, 99, 0, 0, 0, 0), (99, 1, 101, 6, 0, 0, 0), (101, 7, 104, 121, 1, 0, 0), (104, 2, 105, 0, 0, 0, 0), (105, 14, 108, 6, 3, 0, 0), (108, 14, 111, 4, 2, 0, 0), (111, 1, 112, 1, 0, 0, 0), (112, 18, 113, 0, 0, 0, 0), (113, 1, 115, 7, 0, 0, 0), (115, 7, 118, 121, 1, 0, 0), (118, 0, 120, 0, 0, 0, -2), (120, 27, 121, 0, 0, 0, 0), (121, 2, 122, 0, 0, 0, 0), (122, 14, 125, 6, 3, 0, 0), (125, 1, 126, 1, 0, 0, 0), (126, 26, 129, 46, 2, 4, 0), (129, 3, 131, 8, 0, 0, 0), (131, 2, 132, 0, 0, 0, 0), (132, 26, 135, 94, 1, 6, 0), (135, 2, 136, 0, 0, 0, 0), (136, 14, 139, 6, 3, 0, 0), (139, 14, 142, 4, 1, 0, 0), (142, 1, 143, 1, 0, 0, 0), (143, 1, 145, 6, 0, 0, 0), (145, 19, 146, 0, 0, 0, 0), (146, 2, 147, 0, 0, 0, 0), (147, 14, 150, 6, 3, 0, 0), (150, 14, 153, 4, 2, 0, 0), (153, 1, 154, 1, 0, 0, 0), (154, 1, 156, 7, 0, 0, 0), (156, 19, 157, 0, 0, 0, 0), (157, 1, 159, 8, 0, 0, 0), (159, 27, 160, 0, 0, 0, 0)]
def kX6_pairs : List xE := [(0, 2, 1, 0, 0, 0, 0), (1, 1, 2, 1, 0, 0, 0), (2, 26, 5, 91, 2, 6, 0), (5, 8, 8, 21, 0, 0, 0), (8, 2, 9, 0, 0, 0, 0), (9, 1, 10, 2, 0, 0, 0), (10, 26, 13, 91, 2, 6, 0), (13, 8, 16, 21, 0, 0, 0), (16, 1, 17, 1, 0, 0, 0), (17, 1, 18, 2, 0, 0, 0), (18, 7, 21, 23, 1, 0, 0), (21, 0, 22, 0, 0, 0, -1), (22, 27, 23, 0, 0, 0, 0), (23, 2, 24, 0, 0, 0, 0), (24, 26, 27, 94, 1, 6, 0), (27, 2, 28, 0, 0, 0, 0), (28, 14, 31, 6, 3, 0, 0), (31, 1, 32, 1, 0, 0, 0), (32, 1, 33, 2, 0, 0, 0), (33, 26, 36, 51, 3, 4, 0), (36, 2, 37, 0, 0, 0, 0), (37, 14, 40, 6, 3, 0, 0), (40, 1, 41, 1, 0, 0, 0), (41, 1, 42, 2, 0, 0, 0), (42, 26, 45, 50, 3, 4, 0), (45, 8, 48, 52, 0, 0, 0), (48, 0, 49, 0, 0, 0, 1), (49, 9, 52, 53, 0, 0, 0), (52, 0, 53, 0, 0, 0, 0), (53, 27, 54, 0, 0, 0, 0)]
def kX6_rules : List xE := [(0, 1, 1, 1, 0, 0, 0), (1, 8, 4, 9, 2, 0, 0), (4, 1, 5, 1, 0, 0, 0), (5, 0, 6, 0, 0, 0, 4), (6, 7, 9, 11, 2, 0, 0), (9, 0, 10, 0, 0, 0, -1), (10, 27, 11, 0, 0, 0, 0), (11, 2, 12, 0, 0, 0, 0), (12, 26, 15, 94, 1, 6, 0), (15, 2, 16, 0, 0, 0, 0), (16, 14, 19, 6, 3, 0, 0), (19, 10, 20, 0, 0, 0, 0), (20, 13, 23, 4, 4, 0, 0), (23, 0, 24, 0, 0, 0, 1), (24, 1, 25, 1, 0, 0, 0), (25, 6, 26, 0, 6, 0, 0), (26, 6, 27, 0, 5, 0, 0), (27, 15, 30, 4, 4, 0, 0), (30, 2, 31, 0, 0, 0, 0), (31, 14, 34, 6, 3, 0, 0), (34, 1, 35, 1, 0, 0, 0), (35, 26, 38, 53, 2, 4, 0), (38, 8, 41, 45, 0, 0, 0), (41, 0, 42, 0, 0, 0, 1), (42, 9, 45, 46, 0, 0, 0), (45, 0, 46, 0, 0, 0, 0), (46, 27, 47, 0, 0, 0, 0)]
def kX6_undo : List xE := [(0, 2, 1, 0, 0, 0, 0), (1, 14, 4, 6, 5, 0, 0), (4, 26, 7, 1, 1, 0, 0), (7, 8, 10, 13, 1, 0, 0), (10, 0, 12, 0, 0, 0, -2), (12, 27, 13, 0, 0, 0, 0), (13, 2, 14, 0, 0, 0, 0), (14, 14, 17, 6, 5, 0, 0), (17, 2, 18, 0, 0, 0, 0), (18, 14, 21, 6, 3, 0, 0), (21, 26, 24, 4, 2, 0, 0), (24, 2, 25, 0, 0, 0, 0), (25, 14, 28, 6, 10, 0, 0), (28, 26, 31, 55, 1, 5, 0), (31, 2, 32, 0, 0, 0, 0), (32, 14, 35, 6, 5, 0, 0), (35, 26, 38, 1, 1, 0, 0), (38, 27, 39, 0, 0, 0, 0)]
def kX6_plan : List xE := [(0, 2, 1, 0, 0, 0, 0), (1, 1, 2, 1, 0, 0, 0), (2, 26, 5, 92, 2, 6, 0), (5, 8, 8, 16, 0, 0, 0), (8, 2, 9, 0, 0, 0, 0), (9, 1, 10, 2, 0, 0, 0), (10, 26, 13, 93, 2, 6, 0), (13, 8, 16, 18, 1, 0, 0), (16, 0, 17, 0, 0, 0, -1), (17, 27, 18, 0, 0, 0, 0), (18, 2, 19, 0, 0, 0, 0), (19, 14, 22, 6, 10, 0, 0), (22, 26, 25, 56, 1, 5, 0), (25, 8, 28, 47, 0, 0, 0), (28, 2, 29, 0, 0, 0, 0), (29, 14, 32, 6, 10, 0, 0), (32, 2, 33, 0, 0, 0, 0), (33, 14, 36, 6, 2, 0, 0), (36, 1, 37, 1, 0, 0, 0), (37, 1, 38, 2, 0, 0, 0), (38, 26, 41, 40, 3, 3, 0), (41, 26, 44, 60, 2, 5, 0), (44, 9, 47, 49, 0, 0, 0), (47, 0, 49, 0, 0, 0, -9), (49, 27, 50, 0, 0, 0, 0)]
def kX6_cost : List xE := [(0, 1, 1, 1, 0, 0, 0), (1, 8, 4, 9, 2, 0, 0), (4, 1, 5, 1, 0, 0, 0), (5, 0, 6, 0, 0, 0, 1), (6, 7, 9, 11, 5, 0, 0), (9, 0, 10, 0, 0, 0, -1), (10, 27, 11, 0, 0, 0, 0), (11, 2, 12, 0, 0, 0, 0), (12, 14, 15, 6, 10, 0, 0), (15, 26, 18, 56, 1, 5, 0), (18, 8, 21, 24, 1, 0, 0), (21, 0, 23, 0, 0, 0, -9), (23, 27, 24, 0, 0, 0, 0), (24, 1, 25, 1, 0, 0, 0), (25, 8, 28, 38, 1, 0, 0), (28, 2, 29, 0, 0, 0, 0), (29, 14, 32, 6, 10, 0, 0), (32, 26, 35, 57, 1, 5, 0), (35, 9, 38, 45, 0, 0, 0), (38, 2, 39, 0, 0, 0, 0), (39, 14, 42, 6, 10, 0, 0), (42, 26, 45, 59, 1, 5, 0), (45, 27, 46, 0, 0, 0, 0)]
def kX6_spent : List xE := [(0, 2, 1, 0, 0, 0, 0), (1, 1, 2, 1, 0, 0, 0), (2, 26, 5, 91, 2, 6, 0), (5, 8, 8, 27, 0, 0, 0), (8, 1, 9, 2, 0, 0, 0), (9, 8, 12, 27, 2, 0, 0), (12, 1, 13, 2, 0, 0, 0), (13, 0, 14, 0, 0, 0, 2), (14, 7, 17, 27, 4, 0, 0), (17, 2, 18, 0, 0, 0, 0), (18, 14, 21, 6, 10, 0, 0), (21, 26, 24, 56, 1, 5, 0), (24, 8, 27, 30, 1, 0, 0), (27, 0, 29, 0, 0, 0, -1000000), (29, 27, 30, 0, 0, 0, 0), (30, 2, 31, 0, 0, 0, 0), (31, 14, 34, 6, 10, 0, 0), (34, 1, 35, 1, 0, 0, 0), (35, 26, 38, 62, 2, 5, 0), (38, 3, 39, 3, 0, 0, 0), (39, 1, 40, 2, 0, 0, 0), (40, 0, 41, 0, 0, 0, 2), (41, 7, 44, 46, 1, 0, 0), (44, 1, 45, 3, 0, 0, 0), (45, 27, 46, 0, 0, 0, 0), (46, 2, 47, 0, 0, 0, 0), (47, 14, 50, 6, 2, 0, 0), (50, 1, 51, 3, 0, 0, 0), (51, 26, 54, 42, 2, 3, 0), (54, 3, 56, 4, 0, 0, 0), (56, 1, 57, 2, 0, 0, 0), (57, 8, 60, 65, 1, 0, 0), (60, 1, 62, 4, 0, 0, 0), (62, 9, 65, 77, 0, 0, 0), (65, 2, 66, 0, 0, 0, 0), (66, 14, 69, 6, 2, 0, 0), (69, 14, 72, 3, 3, 0, 0), (72, 1, 73, 1, 0, 0, 0), (73, 18, 74, 0, 0, 0, 0), (74, 1, 76, 4, 0, 0, 0), (76, 6, 77, 0, 1, 0, 0), (77, 27, 78, 0, 0, 0, 0)]
def kX6_shown : List xE := [(0, 2, 1, 0, 0, 0, 0), (1, 1, 2, 1, 0, 0, 0), (2, 26, 5, 92, 2, 6, 0), (5, 8, 8, 10, 1, 0, 0), (8, 0, 9, 0, 0, 0, -1), (9, 27, 10, 0, 0, 0, 0), (10, 2, 11, 0, 0, 0, 0), (11, 14, 14, 6, 10, 0, 0), (14, 26, 17, 56, 1, 5, 0), (17, 8, 20, 31, 0, 0, 0), (20, 2, 21, 0, 0, 0, 0), (21, 14, 24, 6, 10, 0, 0), (24, 1, 25, 1, 0, 0, 0), (25, 26, 28, 61, 2, 5, 0), (28, 9, 31, 33, 0, 0, 0), (31, 0, 33, 0, 0, 0, -9), (33, 27, 34, 0, 0, 0, 0)]
def kX6_often : List xE := [(0, 1, 1, 1, 0, 0, 0), (1, 8, 4, 6, 3, 0, 0), (4, 0, 5, 0, 0, 0, -1), (5, 27, 6, 0, 0, 0, 0), (6, 2, 7, 0, 0, 0, 0), (7, 14, 10, 6, 10, 0, 0), (10, 26, 13, 56, 1, 5, 0), (13, 8, 16, 27, 0, 0, 0), (16, 2, 17, 0, 0, 0, 0), (17, 14, 20, 6, 10, 0, 0), (20, 1, 21, 1, 0, 0, 0), (21, 26, 24, 63, 2, 5, 0), (24, 9, 27, 29, 0, 0, 0), (27, 0, 29, 0, 0, 0, -9), (29, 27, 30, 0, 0, 0, 0)]
def kX6_needed : List xE := [(0, 2, 1, 0, 0, 0, 0), (1, 14, 4, 6, 10, 0, 0), (4, 26, 7, 65, 1, 5, 0), (7, 27, 8, 0, 0, 0, 0)]
def kX6_dearth : List xE := [(0, 2, 1, 0, 0, 0, 0), (1, 1, 2, 1, 0, 0, 0), (2, 26, 5, 91, 2, 6, 0), (5, 8, 8, 10, 1, 0, 0), (8, 0, 9, 0, 0, 0, -1), (9, 27, 10, 0, 0, 0, 0), (10, 2, 11, 0, 0, 0, 0), (11, 14, 14, 6, 10, 0, 0), (14, 1, 15, 1, 0, 0, 0), (15, 26, 18, 58, 2, 5, 0), (18, 3, 19, 2, 0, 0, 0), (19, 1, 20, 2, 0, 0, 0), (20, 0, 22, 0, 0, 0, -9), (22, 7, 25, 30, 1, 0, 0), (25, 0, 27, 0, 0, 0, -9), (27, 9, 30, 39, 0, 0, 0), (30, 1, 31, 2, 0, 0, 0), (31, 2, 32, 0, 0, 0, 0), (32, 14, 35, 6, 10, 0, 0), (35, 26, 38, 57, 1, 5, 0), (38, 6, 39, 0, 1, 0, 0), (39, 27, 40, 0, 0, 0, 0)]
def kX6_sees : List xE := [(0, 1, 1, 1, 0, 0, 0), (1, 0, 3, 0, 0, 0, 9), (3, 7, 6, 18, 0, 0, 0), (6, 1, 7, 1, 0, 0, 0), (7, 8, 10, 16, 2, 0, 0), (10, 1, 11, 1, 0, 0, 0), (11, 0, 13, 0, 0, 0, 6), (13, 7, 16, 18, 5, 0, 0), (16, 0, 17, 0, 0, 0, -1), (17, 27, 18, 0, 0, 0, 0), (18, 2, 19, 0, 0, 0, 0), (19, 13, 22, 6, 9, 0, 0), (22, 0, 23, 0, 0, 0, 4), (23, 7, 26, 29, 2, 0, 0), (26, 0, 28, 0, 0, 0, -3), (28, 27, 29, 0, 0, 0, 0), (29, 2, 30, 0, 0, 0, 0), (30, 14, 33, 6, 8, 0, 0), (33, 2, 34, 0, 0, 0, 0), (34, 13, 37, 6, 9, 0, 0), (37, 1, 38, 1, 0, 0, 0), (38, 19, 39, 0, 0, 0, 0), (39, 2, 40, 0, 0, 0, 0), (40, 10, 41, 0, 0, 0, 0), (41, 13, 44, 6, 9, 0, 0), (44, 0, 45, 0, 0, 0, 1), (45, 6, 46, 0, 0, 0, 0), (46, 15, 49, 6, 9, 0, 0), (49, 2, 50, 0, 0, 0, 0), (50, 13, 53, 6, 9, 0, 0), (53, 27, 54, 0, 0, 0, 0)]
def kX6_forget : List xE := [(0, 2, 1, 0, 0, 0, 0), (1, 13, 4, 6, 9, 0, 0), (4, 3, 5, 1, 0, 0, 0), (5, 2, 6, 0, 0, 0, 0), (6, 0, 7, 0, 0, 0, 0), (7, 15, 10, 6, 9, 0, 0), (10, 1, 11, 1, 0, 0, 0), (11, 27, 12, 0, 0, 0, 0)]
def kX6_unseen : List xE := [(0, 0, 1, 0, 0, 0, 0), (1, 3, 2, 1, 0, 0, 0), (2, 0, 3, 0, 0, 0, 0), (3, 3, 4, 2, 0, 0, 0), (4, 1, 5, 2, 0, 0, 0), (5, 2, 6, 0, 0, 0, 0), (6, 14, 9, 6, 2, 0, 0), (9, 13, 12, 3, 0, 0, 0), (12, 7, 15, 42, 3, 0, 0), (15, 2, 16, 0, 0, 0, 0), (16, 2, 17, 0, 0, 0, 0), (17, 14, 20, 6, 10, 0, 0), (20, 1, 21, 2, 0, 0, 0), (21, 26, 24, 58, 2, 5, 0), (24, 26, 27, 95, 2, 6, 0), (27, 8, 30, 36, 0, 0, 0), (30, 1, 31, 1, 0, 0, 0), (31, 0, 32, 0, 0, 0, 1), (32, 1, 33, 2, 0, 0, 0), (33, 6, 34, 0, 6, 0, 0), (34, 6, 35, 0, 4, 0, 0), (35, 3, 36, 1, 0, 0, 0), (36, 5, 39, 2, 0, 0, 1), (39, 9, 42, 4, 0, 0, 0), (42, 1, 43, 1, 0, 0, 0), (43, 27, 44, 0, 0, 0, 0)]
def kX6_keep : List xE := [(0, 1, 1, 1, 0, 0, 0), (1, 8, 4, 9, 2, 0, 0), (4, 1, 5, 1, 0, 0, 0), (5, 0, 6, 0, 0, 0, 2), (6, 7, 9, 11, 2, 0, 0), (9, 0, 10, 0, 0, 0, -1), (10, 27, 11, 0, 0, 0, 0), (11, 2, 12, 0, 0, 0, 0), (12, 14, 15, 6, 6, 0, 0), (15, 1, 16, 1, 0, 0, 0), (16, 22, 17, 0, 0, 0, 0), (17, 2, 18, 0, 0, 0, 0), (18, 14, 21, 6, 3, 0, 0), (21, 26, 24, 45, 2, 4, 0), (24, 2, 25, 0, 0, 0, 0), (25, 10, 26, 0, 0, 0, 0), (26, 13, 29, 6, 7, 0, 0), (29, 0, 30, 0, 0, 0, 1), (30, 1, 31, 1, 0, 0, 0), (31, 6, 32, 0, 6, 0, 0), (32, 6, 33, 0, 4, 0, 0), (33, 15, 36, 6, 7, 0, 0), (36, 2, 37, 0, 0, 0, 0), (37, 14, 40, 6, 2, 0, 0), (40, 13, 43, 3, 0, 0, 0), (43, 27, 44, 0, 0, 0, 0)]
def kX6_back : List xE := [(0, 1, 1, 1, 0, 0, 0), (1, 8, 4, 9, 2, 0, 0), (4, 1, 5, 1, 0, 0, 0), (5, 0, 6, 0, 0, 0, 2), (6, 7, 9, 11, 2, 0, 0), (9, 0, 10, 0, 0, 0, -1), (10, 27, 11, 0, 0, 0, 0), (11, 2, 12, 0, 0, 0, 0), (12, 13, 15, 6, 7, 0, 0), (15, 1, 16, 1, 0, 0, 0), (16, 6, 17, 0, 7, 0, 0), (17, 0, 18, 0, 0, 0, 1), (18, 6, 19, 0, 3, 0, 0), (19, 8, 22, 25, 1, 0, 0), (22, 0, 24, 0, 0, 0, -2), (24, 27, 25, 0, 0, 0, 0), (25, 2, 26, 0, 0, 0, 0), (26, 14, 29, 6, 3, 0, 0), (29, 2, 30, 0, 0, 0, 0), (30, 14, 33, 6, 6, 0, 0), (33, 1, 34, 1, 0, 0, 0), (34, 22, 35, 0, 0, 0, 0), (35, 26, 38, 45, 2, 4, 0), (38, 2, 39, 0, 0, 0, 0), (39, 14, 42, 6, 5, 0, 0), (42, 26, 45, 2, 1, 0, 0), (45, 2, 46, 0, 0, 0, 0), (46, 14, 49, 6, 10, 0, 0), (49, 26, 52, 55, 1, 5, 0), (52, 2, 53, 0, 0, 0, 0), (53, 14, 56, 6, 2, 0, 0), (56, 13, 59, 3, 0, 0, 0), (59, 27, 60, 0, 0, 0, 0)]
def kX6_count : List xE := [(0, 1, 1, 1, 0, 0, 0), (1, 34, 48, 106, 0, 2, 0), (48, 2, 49, 0, 0, 0, 0), (49, 14, 52, 6, 2, 0, 0), (52, 13, 55, 3, 0, 0, 0), (55, 27, 56, 0, 0, 0, 0), (56, 2, 57, 0, 0, 0, 0), (57, 14, 60, 6, 2, 0, 0), (60, 13, 63, 3, 1, 0, 0), (63, 27, 64, 0, 0, 0, 0), (64, 2, 65, 0, 0, 0, 0), (65, 14, 68, 6, 2, 0, 0), (68, 13, 71, 3, 2, 0, 0), (71, 27, 72, 0, 0, 0, 0), (72, 2, 73, 0, 0, 0, 0), (73, 14, 76, 6, 3, 0, 0), (76, 13, 79, 4, 4, 0, 0), (79, 27, 80, 0, 0, 0, 0), (80, 2, 81, 0, 0, 0, 0), (81, 14, 84, 6, 3, 0, 0), (84, 26, 87, 52, 1, 4, 0), (87, 27, 88, 0, 0, 0, 0), (88, 2, 89, 0, 0, 0, 0), (89, 13, 92, 6, 9, 0, 0), (92, 27, 93, 0, 0, 0, 0), (93, 2, 94, 0, 0, 0, 0), (94, 13, 97, 6, 1, 0, 0), (97, 27, 98, 0, 0, 0, 0), (98, 2, 99, 0, 0, 0, 0), (99, 14, 102, 6, 5, 0, 0), (102, 26, 105, 1, 1, 0, 0), (105, 27, 106, 0, 0, 0, 0), (106, 0, 107, 0, 0, 0, -1), (107, 27, 108, 0, 0, 0, 0)]
def kX6_isThing : List xE := [(0, 1, 1, 1, 0, 0, 0), (1, 8, 4, 19, 2, 0, 0), (4, 1, 5, 1, 0, 0, 0), (5, 2, 6, 0, 0, 0, 0), (6, 14, 9, 6, 2, 0, 0), (9, 13, 12, 3, 0, 0, 0), (12, 7, 15, 19, 3, 0, 0), (15, 0, 16, 0, 0, 0, 1), (16, 9, 19, 20, 0, 0, 0), (19, 0, 20, 0, 0, 0, 0), (20, 27, 21, 0, 1, 0, 0)]
def kX6_isSeason : List xE := [(0, 1, 1, 1, 0, 0, 0), (1, 8, 4, 19, 2, 0, 0), (4, 1, 5, 1, 0, 0, 0), (5, 2, 6, 0, 0, 0, 0), (6, 14, 9, 6, 2, 0, 0), (9, 13, 12, 3, 1, 0, 0), (12, 7, 15, 19, 3, 0, 0), (15, 0, 16, 0, 0, 0, 1), (16, 9, 19, 20, 0, 0, 0), (19, 0, 20, 0, 0, 0, 0), (20, 27, 21, 0, 1, 0, 0)]
def kX6_isCase : List xE := [(0, 1, 1, 1, 0, 0, 0), (1, 8, 4, 19, 2, 0, 0), (4, 1, 5, 1, 0, 0, 0), (5, 2, 6, 0, 0, 0, 0), (6, 14, 9, 6, 2, 0, 0), (9, 13, 12, 3, 2, 0, 0), (12, 7, 15, 19, 3, 0, 0), (15, 0, 16, 0, 0, 0, 1), (16, 9, 19, 20, 0, 0, 0), (19, 0, 20, 0, 0, 0, 0), (20, 27, 21, 0, 1, 0, 0)]
def kX6_rememberWishes : List xE := [(0, 2, 1, 0, 0, 0, 0), (1, 14, 4, 6, 5, 0, 0), (4, 2, 5, 0, 0, 0, 0), (5, 14, 8, 6, 3, 0, 0), (8, 26, 11, 3, 2, 0, 0), (11, 2, 12, 0, 0, 0, 0), (12, 14, 15, 6, 10, 0, 0), (15, 26, 18, 55, 1, 5, 0), (18, 28, 19, 0, 0, 0, 0)]
def kX6_isAllThatWasSeen : List xE := [(0, 1, 1, 1, 0, 0, 0), (1, 0, 3, 0, 0, 0, -9), (3, 7, 6, 11, 1, 0, 0), (6, 0, 8, 0, 0, 0, 9), (8, 9, 11, 12, 0, 0, 0), (11, 1, 12, 1, 0, 0, 0), (12, 3, 13, 2, 0, 0, 0), (13, 0, 14, 0, 0, 0, 0), (14, 3, 15, 3, 0, 0, 0), (15, 1, 16, 3, 0, 0, 0), (16, 2, 17, 0, 0, 0, 0), (17, 13, 20, 6, 9, 0, 0), (20, 7, 23, 41, 3, 0, 0), (23, 2, 24, 0, 0, 0, 0), (24, 14, 27, 6, 8, 0, 0), (27, 1, 28, 3, 0, 0, 0), (28, 18, 29, 0, 0, 0, 0), (29, 1, 30, 2, 0, 0, 0), (30, 7, 33, 35, 0, 0, 0), (33, 0, 34, 0, 0, 0, 0), (34, 27, 35, 0, 1, 0, 0), (35, 5, 38, 3, 0, 0, 1), (38, 9, 41, 15, 0, 0, 0), (41, 0, 42, 0, 0, 0, 1), (42, 27, 43, 0, 1, 0, 0)]
def kX7_init : List xE := [(0, 2, 1, 0, 0, 0, 0), (1, 32, 4, 0, 0, 0, 0), (4, 2, 5, 0, 0, 0, 0), (5, 0, 7, 0, 0, 0, 100), (7, 30, 9, 0, 1, 0, 0), (9, 17, 12, 7, 1, 0, 0), (12, 2, 13, 0, 0, 0, 0), (13, 0, 14, 0, 0, 0, 4), (14, 30, 16, 0, 1, 0, 0), (16, 17, 19, 7, 11, 0, 0), (19, 2, 20, 0, 0, 0, 0), (20, 0, 22, 0, 0, 0, 6), (22, 30, 24, 0, 1, 0, 0), (24, 17, 27, 7, 12, 0, 0), (27, 2, 28, 0, 0, 0, 0), (28, 0, 29, 0, 0, 0, 4), (29, 30, 31, 0, 1, 0, 0), (31, 17, 34, 7, 18, 0, 0), (34, 2, 35, 0, 0, 0, 0), (35, 0, 37, 0, 0, 0, 6), (37, 30, 39, 0, 1, 0, 0), (39, 17, 42, 7, 19, 0, 0), (42, 2, 43, 0, 0, 0, 0), (43, 0, 45, 0, 0, 0, 27), (45, 30, 47, 0, 1, 0, 0), (47, 17, 50, 7, 20, 0, 0), (50, 2, 51, 0, 0, 0, 0), (51, 0, 53, 0, 0, 0, 27), (53, 30, 55, 0, 1, 0, 0), (55, 17, 58, 7, 21, 0, 0), (58, 2, 59, 0, 0, 0, 0), (59, 0, 62, 0, 0, 0, 270), (62, 30, 64, 0, 1, 0, 0), (64, 17, 67, 7, 22, 0, 0), (67, 2, 68, 0, 0, 0, 0), (68, 0, 70, 0, 0, 0, 54), (70, 30, 72, 0, 1, 0, 0), (72, 17, 75, 7, 24, 0, 0), (75, 2, 76, 0, 0, 0, 0), (76, 0, 77, 0, 0, 0, 2), (77, 30, 79, 0, 2, 0, 0), (79, 17, 82, 7, 25, 0, 0), (82, 2, 83, 0, 0, 0, 0), (83, 0, 84, 0, 0, 0, 4), (84, 30, 86, 0, 1, 0, 0), (86, 17, 89, 7, 26, 0, 0), (89, 2, 90, 0, 0, 0, 0), (90, 0, 92, 0, 0, 0, 8), (92, 30, 94, 0, 1, 0, 0), (94, 17, 97, 7, 28, 0, 0), (97, 2, 98, 0, 0, 0, 0), (98, 0, 100, 0, 0, 0, 9), (100, 30, 102, 0, 1, 0, 0), (102, 17, 105, 7, 29, 0, 0), (105, 2, 106, 0, 0, 0, 0), (106, 0, 108, 0, 0, 0, 6), (108, 30, 110, 0, 1, 0, 0), (110, 17, 113, 7, 30, 0, 0), (113, 2, 114, 0, 0, 0, 0), (114, 0, 116, 0, 0, 0, 8), (116, 30, 118, 0, 1, 0, 0), (118, 17, 121, 7, 31, 0, 0), (121, 2, 122, 0, 0, 0, 0), (122, 26, 125, 106, 1, 7, 0), (125, 2, 126, 0, 0, 0, 0), (126, 26, 129, 111, 1, 7, 0), (129, 28, 130, 0, 0, 0, 0)]
def kX7_in : List xE := [(0, 1, 1, 0, 0, 0, 0), (1, 1, 2, 1, 0, 0, 0), (2, 7, 5, 14, 2, 0, 0), (5, 1, 6, 0, 0, 0, 0), (6, 1, 7, 2, 0, 0, 0), (7, 7, 10, 14, 4, 0, 0), (10, 0, 11, 0, 0, 0, 1), (11, 9, 14, 15, 0, 0, 0), (14, 0, 15, 0, 0, 0, 0), (15, 27, 16, 0, 1, 0, 0)]
def kX7_has : List xE := [(0, 1, 1, 0, 0, 0, 0), (1, 1, 2, 1, 0, 0, 0), (2, 6, 3, 0, 7, 0, 0), (3, 0, 4, 0, 0, 0, 1), (4, 6, 5, 0, 3, 0, 0), (5, 0, 6, 0, 0, 0, 1), (6, 7, 9, 13, 1, 0, 0), (9, 0, 10, 0, 0, 0, 1), (10, 9, 13, 14, 0, 0, 0), (13, 0, 14, 0, 0, 0, 0), (14, 27, 15, 0, 1, 0, 0)]
def kX7_type : List xE := [(0, 2, 1, 0, 0, 0, 0), (1, 0, 2, 0, 0, 0, 0), (2, 15, 5, 7, 0, 0, 0), (5, 1, 6, 1, 0, 0, 0), (6, 0, 7, 0, 0, 0, 0), (7, 0, 10, 0, 0, 0, 255), (10, 25, 13, 97, 3, 0, 0), (13, 8, 16, 18, 1, 0, 0), (16, 0, 17, 0, 0, 0, -1), (17, 27, 18, 0, 0, 0, 0), (18, 2, 19, 0, 0, 0, 0), (19, 13, 22, 7, 2, 0, 0), (22, 0, 24, 0, 0, 0, 100), (24, 7, 27, 30, 1, 0, 0), (27, 0, 29, 0, 0, 0, -3), (29, 27, 30, 0, 0, 0, 0), (30, 2, 31, 0, 0, 0, 0), (31, 14, 34, 7, 1, 0, 0), (34, 2, 35, 0, 0, 0, 0), (35, 13, 38, 7, 2, 0, 0), (38, 1, 39, 1, 0, 0, 0), (39, 19, 40, 0, 0, 0, 0), (40, 2, 41, 0, 0, 0, 0), (41, 10, 42, 0, 0, 0, 0), (42, 13, 45, 7, 2, 0, 0), (45, 0, 46, 0, 0, 0, 1), (46, 6, 47, 0, 0, 0, 0), (47, 15, 50, 7, 2, 0, 0), (50, 2, 51, 0, 0, 0, 0), (51, 13, 54, 7, 2, 0, 0), (54, 27, 55, 0, 0, 0, 0)]
def kX7_clear : List xE := [(0, 2, 1, 0, 0, 0, 0), (1, 0, 2, 0, 0, 0, 0), (2, 15, 5, 7, 0, 0, 0), (5, 2, 6, 0, 0, 0, 0), (6, 13, 9, 7, 2, 0, 0), (9, 3, 10, 1, 0, 0, 0), (10, 2, 11, 0, 0, 0, 0), (11, 0, 12, 0, 0, 0, 0), (12, 15, 15, 7, 2, 0, 0), (15, 1, 16, 1, 0, 0, 0), (16, 27, 17, 0, 0, 0, 0)]
def kX7_letterAt : List xE := [(0, 1, 1, 1, 0, 0, 0), (1, 2, 2, 0, 0, 0, 0), (2, 13, 5, 7, 2, 0, 0), (5, 7, 8, 17, 3, 0, 0), (8, 2, 9, 0, 0, 0, 0), (9, 14, 12, 7, 1, 0, 0), (12, 1, 13, 1, 0, 0, 0), (13, 18, 14, 0, 0, 0, 0), (14, 9, 17, 18, 0, 0, 0), (17, 0, 18, 0, 0, 0, -1), (18, 27, 19, 0, 0, 0, 0)]
def kX7_advances : List xE := [(0, 2, 1, 0, 0, 0, 0), (1, 2, 2, 0, 0, 0, 0), (2, 13, 5, 7, 3, 0, 0), (5, 26, 8, 101, 2, 7, 0), (8, 0, 10, 0, 0, 0, 32), (10, 7, 13, 26, 1, 0, 0), (13, 2, 14, 0, 0, 0, 0), (14, 10, 15, 0, 0, 0, 0), (15, 13, 18, 7, 3, 0, 0), (18, 0, 19, 0, 0, 0, 1), (19, 6, 20, 0, 0, 0, 0), (20, 15, 23, 7, 3, 0, 0), (23, 9, 26, 0, 0, 0, 0), (26, 2, 27, 0, 0, 0, 0), (27, 2, 28, 0, 0, 0, 0), (28, 13, 31, 7, 3, 0, 0), (31, 15, 34, 7, 5, 0, 0), (34, 2, 35, 0, 0, 0, 0), (35, 2, 36, 0, 0, 0, 0), (36, 13, 39, 7, 3, 0, 0), (39, 26, 42, 101, 2, 7, 0), (42, 3, 43, 1, 0, 0, 0), (43, 1, 44, 1, 0, 0, 0), (44, 8, 47, 55, 3, 0, 0), (47, 2, 48, 0, 0, 0, 0), (48, 0, 49, 0, 0, 0, 0), (49, 15, 52, 7, 4, 0, 0), (52, 9, 55, 245, 0, 0, 0), (55, 1, 56, 1, 0, 0, 0), (56, 0, 58, 0, 0, 0, 48), (58, 0, 60, 0, 0, 0, 57), (60, 25, 63, 97, 3, 0, 0), (63, 8, 66, 181, 0, 0, 0), (66, 2, 67, 0, 0, 0, 0), (67, 0, 68, 0, 0, 0, 0), (68, 15, 71, 7, 6, 0, 0), (71, 2, 72, 0, 0, 0, 0), (72, 2, 73, 0, 0, 0, 0), (73, 13, 76, 7, 3, 0, 0), (76, 26, 79, 101, 2, 7, 0), (79, 0, 81, 0, 0, 0, 48), (81, 0, 83, 0, 0, 0, 57), (83, 25, 86, 97, 3, 0, 0), (86, 8, 89, 141, 0, 0, 0), (89, 2, 90, 0, 0, 0, 0), (90, 2, 91, 0, 0, 0, 0), (91, 13, 94, 7, 6, 0, 0), (94, 0, 96, 0, 0, 0, 99), (96, 7, 99, 106, 5, 0, 0), (99, 2, 100, 0, 0, 0, 0), (100, 13, 103, 7, 6, 0, 0), (103, 9, 106, 125, 0, 0, 0), (106, 0, 108, 0, 0, 0, 10), (108, 2, 109, 0, 0, 0, 0), (109, 13, 112, 7, 6, 0, 0), (112, 6, 113, 0, 2, 0, 0), (113, 2, 114, 0, 0, 0, 0), (114, 2, 115, 0, 0, 0, 0), (115, 13, 118, 7, 3, 0, 0), (118, 26, 121, 101, 2, 7, 0), (121, 6, 122, 0, 0, 0, 0), (122, 0, 124, 0, 0, 0, 48), (124, 6, 125, 0, 1, 0, 0), (125, 15, 128, 7, 6, 0, 0), (128, 2, 129, 0, 0, 0, 0), (129, 10, 130, 0, 0, 0, 0), (130, 13, 133, 7, 3, 0, 0), (133, 0, 134, 0, 0, 0, 1), (134, 6, 135, 0, 0, 0, 0), (135, 15, 138, 7, 3, 0, 0), (138, 9, 141, 71, 0, 0, 0), (141, 2, 142, 0, 0, 0, 0), (142, 2, 143, 0, 0, 0, 0), (143, 13, 146, 7, 6, 0, 0), (146, 0, 148, 0, 0, 0, 99), (148, 7, 151, 170, 4, 0, 0), (151, 1, 152, 1, 0, 0, 0), (152, 0, 154, 0, 0, 0, 48), (154, 7, 157, 174, 1, 0, 0), (157, 2, 158, 0, 0, 0, 0), (158, 13, 161, 7, 3, 0, 0), (161, 2, 162, 0, 0, 0, 0), (162, 13, 165, 7, 5, 0, 0), (165, 6, 166, 0, 1, 0, 0), (166, 0, 167, 0, 0, 0, 1), (167, 7, 170, 174, 5, 0, 0), (170, 0, 171, 0, 0, 0, 4), (171, 9, 174, 175, 0, 0, 0), (174, 0, 175, 0, 0, 0, 2), (175, 15, 178, 7, 4, 0, 0), (178, 9, 181, 245, 0, 0, 0), (181, 2, 182, 0, 0, 0, 0), (182, 10, 183, 0, 0, 0, 0), (183, 13, 186, 7, 3, 0, 0), (186, 0, 187, 0, 0, 0, 1), (187, 6, 188, 0, 0, 0, 0), (188, 15, 191, 7, 3, 0, 0), (191, 2, 192, 0, 0, 0, 0), (192, 1, 193, 1, 0, 0, 0), (193, 15, 196, 7, 6, 0, 0), (196, 2, 197, 0, 0, 0, 0), (197, 1, 198, 1, 0, 0, 0), (198, 0, 200, 0, 0, 0, 59), (200, 7, 203, 207, 1, 0, 0), (203, 0, 204, 0, 0, 0, 3), (204, 9, 207, 242, 0, 0, 0), (207, 1, 208, 1, 0, 0, 0), (208, 0, 210, 0, 0, 0, 99), (210, 7, 213, 237, 0, 0, 0), (213, 1, 214, 1, 0, 0, 0), (214, 0, 216, 0, 0, 0, 108), (216, 7, 219, 237, 0, 0, 0), (219, 1, 220, 1, 0, 0, 0), (220, 0, 222, 0, 0, 0, 116), (222, 7, 225, 237, 0, 0, 0), (225, 1, 226, 1, 0, 0, 0), (226, 0, 228, 0, 0, 0, 120), (228, 7, 231, 237, 0, 0, 0), (231, 1, 232, 1, 0, 0, 0), (232, 0, 234, 0, 0, 0, 97), (234, 7, 237, 241, 1, 0, 0), (237, 0, 238, 0, 0, 0, 1), (238, 9, 241, 242, 0, 0, 0), (241, 0, 242, 0, 0, 0, 4), (242, 15, 245, 7, 4, 0, 0), (245, 28, 246, 0, 0, 0, 0)]
def kX7_isWell : List xE := [(0, 2, 1, 0, 0, 0, 0), (1, 13, 4, 7, 7, 0, 0), (4, 8, 7, 11, 3, 0, 0), (7, 0, 8, 0, 0, 0, 1), (8, 9, 11, 12, 0, 0, 0), (11, 0, 12, 0, 0, 0, 0), (12, 27, 13, 0, 1, 0, 0)]
def kX7_takes : List xE := [(0, 2, 1, 0, 0, 0, 0), (1, 26, 4, 103, 1, 7, 0), (4, 8, 7, 9, 1, 0, 0), (7, 0, 8, 0, 0, 0, 0), (8, 27, 9, 0, 0, 0, 0), (9, 1, 10, 1, 0, 0, 0), (10, 8, 13, 23, 1, 0, 0), (13, 2, 14, 0, 0, 0, 0), (14, 2, 15, 0, 0, 0, 0), (15, 13, 18, 7, 5, 0, 0), (18, 15, 21, 7, 7, 0, 0), (21, 0, 22, 0, 0, 0, 0), (22, 27, 23, 0, 0, 0, 0), (23, 2, 24, 0, 0, 0, 0), (24, 13, 27, 7, 6, 0, 0), (27, 3, 28, 2, 0, 0, 0), (28, 2, 29, 0, 0, 0, 0), (29, 26, 32, 102, 1, 7, 0), (32, 1, 33, 2, 0, 0, 0), (33, 27, 34, 0, 0, 0, 0)]
def kX7_number : List xE := [(0, 2, 1, 0, 0, 0, 0), (1, 2, 2, 0, 0, 0, 0), (2, 13, 5, 7, 4, 0, 0), (5, 0, 6, 0, 0, 0, 2), (6, 7, 9, 25, 1, 0, 0), (9, 2, 10, 0, 0, 0, 0), (10, 13, 13, 7, 6, 0, 0), (13, 1, 14, 1, 0, 0, 0), (14, 1, 15, 2, 0, 0, 0), (15, 25, 18, 97, 3, 0, 0), (18, 8, 21, 25, 0, 0, 0), (21, 0, 22, 0, 0, 0, 1), (22, 9, 25, 26, 0, 0, 0), (25, 0, 26, 0, 0, 0, 0), (26, 26, 29, 104, 2, 7, 0), (29, 27, 30, 0, 0, 0, 0)]
def kX7_begins : List xE := [(0, 2, 1, 0, 0, 0, 0), (1, 0, 2, 0, 0, 0, 0), (2, 15, 5, 7, 13, 0, 0), (5, 2, 6, 0, 0, 0, 0), (6, 0, 7, 0, 0, 0, 4), (7, 15, 10, 7, 14, 0, 0), (10, 2, 11, 0, 0, 0, 0), (11, 0, 12, 0, 0, 0, 2), (12, 15, 15, 7, 15, 0, 0), (15, 2, 16, 0, 0, 0, 0), (16, 0, 17, 0, 0, 0, 0), (17, 16, 20, 7, 16, 0, 0), (20, 2, 21, 0, 0, 0, 0), (21, 0, 22, 0, 0, 0, 0), (22, 16, 25, 7, 17, 0, 0), (25, 0, 26, 0, 0, 0, 0), (26, 3, 27, 1, 0, 0, 0), (27, 1, 28, 1, 0, 0, 0), (28, 0, 29, 0, 0, 0, 4), (29, 7, 32, 45, 3, 0, 0), (32, 2, 33, 0, 0, 0, 0), (33, 14, 36, 7, 18, 0, 0), (36, 1, 37, 1, 0, 0, 0), (37, 0, 38, 0, 0, 0, 5), (38, 19, 39, 0, 0, 0, 0), (39, 5, 42, 1, 0, 0, 1), (42, 9, 45, 27, 0, 0, 0), (45, 0, 46, 0, 0, 0, 0), (46, 3, 47, 1, 0, 0, 0), (47, 1, 48, 1, 0, 0, 0), (48, 0, 50, 0, 0, 0, 27), (50, 7, 53, 88, 3, 0, 0), (53, 2, 54, 0, 0, 0, 0), (54, 14, 57, 7, 20, 0, 0), (57, 1, 58, 1, 0, 0, 0), (58, 1, 59, 1, 0, 0, 0), (59, 0, 61, 0, 0, 0, 20), (61, 7, 64, 69, 3, 0, 0), (64, 0, 66, 0, 0, 0, -9), (66, 9, 69, 81, 0, 0, 0), (69, 1, 70, 1, 0, 0, 0), (70, 0, 72, 0, 0, 0, 26), (72, 7, 75, 79, 3, 0, 0), (75, 0, 76, 0, 0, 0, 0), (76, 9, 79, 81, 0, 0, 0), (79, 0, 81, 0, 0, 0, 15), (81, 19, 82, 0, 0, 0, 0), (82, 5, 85, 1, 0, 0, 1), (85, 9, 88, 47, 0, 0, 0), (88, 28, 89, 0, 0, 0, 0)]
def kX7_mayBegin : List xE := [(0, 2, 1, 0, 0, 0, 0), (1, 13, 4, 7, 6, 0, 0), (4, 0, 6, 0, 0, 0, 99), (6, 7, 9, 29, 1, 0, 0), (9, 2, 10, 0, 0, 0, 0), (10, 13, 13, 7, 16, 0, 0), (13, 8, 16, 27, 1, 0, 0), (16, 2, 17, 0, 0, 0, 0), (17, 13, 20, 7, 13, 0, 0), (20, 8, 23, 27, 1, 0, 0), (23, 0, 24, 0, 0, 0, 1), (24, 9, 27, 28, 0, 0, 0), (27, 0, 28, 0, 0, 0, 0), (28, 27, 29, 0, 1, 0, 0), (29, 2, 30, 0, 0, 0, 0), (30, 13, 33, 7, 6, 0, 0), (33, 0, 35, 0, 0, 0, 108), (35, 7, 38, 58, 1, 0, 0), (38, 2, 39, 0, 0, 0, 0), (39, 13, 42, 7, 17, 0, 0), (42, 8, 45, 56, 1, 0, 0), (45, 2, 46, 0, 0, 0, 0), (46, 13, 49, 7, 13, 0, 0), (49, 8, 52, 56, 1, 0, 0), (52, 0, 53, 0, 0, 0, 1), (53, 9, 56, 57, 0, 0, 0), (56, 0, 57, 0, 0, 0, 0), (57, 27, 58, 0, 1, 0, 0), (58, 2, 59, 0, 0, 0, 0), (59, 13, 62, 7, 6, 0, 0), (62, 0, 64, 0, 0, 0, 116), (64, 7, 67, 76, 1, 0, 0), (67, 2, 68, 0, 0, 0, 0), (68, 13, 71, 7, 13, 0, 0), (71, 0, 73, 0, 0, 0, 6), (73, 7, 76, 80, 3, 0, 0), (76, 0, 77, 0, 0, 0, 1), (77, 9, 80, 81, 0, 0, 0), (80, 0, 81, 0, 0, 0, 0), (81, 27, 82, 0, 1, 0, 0)]
def kX7_readsLights : List xE := [(0, 2, 1, 0, 0, 0, 0), (1, 0, 2, 0, 0, 0, 1), (2, 16, 5, 7, 17, 0, 0), (5, 2, 6, 0, 0, 0, 0), (6, 0, 7, 0, 0, 0, 0), (7, 15, 10, 7, 14, 0, 0), (10, 2, 11, 0, 0, 0, 0), (11, 14, 14, 7, 18, 0, 0), (14, 2, 15, 0, 0, 0, 0), (15, 13, 18, 7, 14, 0, 0), (18, 2, 19, 0, 0, 0, 0), (19, 0, 20, 0, 0, 0, 0), (20, 0, 22, 0, 0, 0, 30), (22, 26, 25, 105, 3, 7, 0), (25, 19, 26, 0, 0, 0, 0), (26, 2, 27, 0, 0, 0, 0), (27, 10, 28, 0, 0, 0, 0), (28, 13, 31, 7, 14, 0, 0), (31, 0, 32, 0, 0, 0, 1), (32, 6, 33, 0, 0, 0, 0), (33, 15, 36, 7, 14, 0, 0), (36, 2, 37, 0, 0, 0, 0), (37, 26, 40, 103, 1, 7, 0), (40, 8, 43, 59, 0, 0, 0), (43, 2, 44, 0, 0, 0, 0), (44, 13, 47, 7, 4, 0, 0), (47, 0, 48, 0, 0, 0, 2), (48, 7, 51, 59, 1, 0, 0), (51, 2, 52, 0, 0, 0, 0), (52, 13, 55, 7, 14, 0, 0), (55, 0, 56, 0, 0, 0, 4), (56, 7, 59, 10, 2, 0, 0), (59, 28, 60, 0, 0, 0, 0)]
def kX7_readsItem : List xE := [(0, 1, 1, 1, 0, 0, 0), (1, 0, 3, 0, 0, 0, 99), (3, 7, 6, 24, 1, 0, 0), (6, 2, 7, 0, 0, 0, 0), (7, 2, 8, 0, 0, 0, 0), (8, 0, 9, 0, 0, 0, 1), (9, 0, 10, 0, 0, 0, 2), (10, 26, 13, 105, 3, 7, 0), (13, 15, 16, 7, 15, 0, 0), (16, 2, 17, 0, 0, 0, 0), (17, 0, 18, 0, 0, 0, 1), (18, 16, 21, 7, 16, 0, 0), (21, 9, 24, 250, 0, 0, 0), (24, 1, 25, 1, 0, 0, 0), (25, 0, 27, 0, 0, 0, 108), (27, 7, 30, 37, 1, 0, 0), (30, 2, 31, 0, 0, 0, 0), (31, 26, 34, 108, 1, 7, 0), (34, 9, 37, 250, 0, 0, 0), (37, 1, 38, 1, 0, 0, 0), (38, 0, 40, 0, 0, 0, 116), (40, 7, 43, 72, 1, 0, 0), (43, 2, 44, 0, 0, 0, 0), (44, 14, 47, 7, 19, 0, 0), (47, 2, 48, 0, 0, 0, 0), (48, 13, 51, 7, 13, 0, 0), (51, 2, 52, 0, 0, 0, 0), (52, 0, 53, 0, 0, 0, 0), (53, 0, 55, 0, 0, 0, 99), (55, 26, 58, 105, 3, 7, 0), (58, 19, 59, 0, 0, 0, 0), (59, 2, 60, 0, 0, 0, 0), (60, 10, 61, 0, 0, 0, 0), (61, 13, 64, 7, 13, 0, 0), (64, 0, 65, 0, 0, 0, 1), (65, 6, 66, 0, 0, 0, 0), (66, 15, 69, 7, 13, 0, 0), (69, 9, 72, 250, 0, 0, 0), (72, 1, 73, 1, 0, 0, 0), (73, 0, 75, 0, 0, 0, 120), (75, 7, 78, 192, 1, 0, 0), (78, 2, 79, 0, 0, 0, 0), (79, 0, 80, 0, 0, 0, 0), (80, 2, 81, 0, 0, 0, 0), (81, 13, 84, 7, 13, 0, 0), (84, 0, 85, 0, 0, 0, 1), (85, 6, 86, 0, 1, 0, 0), (86, 26, 89, 105, 3, 7, 0), (89, 3, 90, 2, 0, 0, 0), (90, 2, 91, 0, 0, 0, 0), (91, 2, 92, 0, 0, 0, 0), (92, 13, 95, 7, 4, 0, 0), (95, 0, 96, 0, 0, 0, 2), (96, 7, 99, 147, 1, 0, 0), (99, 2, 100, 0, 0, 0, 0), (100, 13, 103, 7, 6, 0, 0), (103, 0, 104, 0, 0, 0, 0), (104, 2, 105, 0, 0, 0, 0), (105, 13, 108, 7, 13, 0, 0), (108, 0, 109, 0, 0, 0, 1), (109, 6, 110, 0, 1, 0, 0), (110, 25, 113, 97, 3, 0, 0), (113, 8, 116, 147, 0, 0, 0), (116, 2, 117, 0, 0, 0, 0), (117, 13, 120, 7, 6, 0, 0), (120, 1, 121, 2, 0, 0, 0), (121, 7, 124, 147, 0, 0, 0), (124, 2, 125, 0, 0, 0, 0), (125, 14, 128, 7, 20, 0, 0), (128, 0, 130, 0, 0, 0, 20), (130, 1, 131, 2, 0, 0, 0), (131, 6, 132, 0, 0, 0, 0), (132, 18, 133, 0, 0, 0, 0), (133, 2, 134, 0, 0, 0, 0), (134, 13, 137, 7, 6, 0, 0), (137, 25, 140, 98, 2, 0, 0), (140, 8, 143, 147, 1, 0, 0), (143, 0, 144, 0, 0, 0, 1), (144, 9, 147, 148, 0, 0, 0), (147, 0, 148, 0, 0, 0, 0), (148, 26, 151, 104, 2, 7, 0), (151, 3, 152, 3, 0, 0, 0), (152, 2, 153, 0, 0, 0, 0), (153, 26, 156, 103, 1, 7, 0), (156, 8, 159, 189, 0, 0, 0), (159, 2, 160, 0, 0, 0, 0), (160, 14, 163, 7, 20, 0, 0), (163, 0, 165, 0, 0, 0, 20), (165, 1, 166, 2, 0, 0, 0), (166, 6, 167, 0, 0, 0, 0), (167, 11, 168, 0, 0, 0, 0), (168, 18, 169, 0, 0, 0, 0), (169, 0, 170, 0, 0, 0, 1), (170, 1, 171, 3, 0, 0, 0), (171, 6, 172, 0, 6, 0, 0), (172, 6, 173, 0, 4, 0, 0), (173, 19, 174, 0, 0, 0, 0), (174, 2, 175, 0, 0, 0, 0), (175, 14, 178, 7, 20, 0, 0), (178, 0, 180, 0, 0, 0, 20), (180, 1, 181, 3, 0, 0, 0), (181, 6, 182, 0, 0, 0, 0), (182, 11, 183, 0, 0, 0, 0), (183, 18, 184, 0, 0, 0, 0), (184, 0, 185, 0, 0, 0, 1), (185, 1, 186, 2, 0, 0, 0), (186, 6, 187, 0, 6, 0, 0), (187, 6, 188, 0, 4, 0, 0), (188, 19, 189, 0, 0, 0, 0), (189, 9, 192, 250, 0, 0, 0), (192, 2, 193, 0, 0, 0, 0), (193, 0, 194, 0, 0, 0, 0), (194, 2, 195, 0, 0, 0, 0), (195, 13, 198, 7, 13, 0, 0), (198, 0, 199, 0, 0, 0, 1), (199, 6, 200, 0, 1, 0, 0), (200, 26, 203, 105, 3, 7, 0), (203, 3, 204, 2, 0, 0, 0), (204, 2, 205, 0, 0, 0, 0), (205, 0, 206, 0, 0, 0, 0), (206, 2, 207, 0, 0, 0, 0), (207, 13, 210, 7, 14, 0, 0), (210, 0, 211, 0, 0, 0, 1), (211, 6, 212, 0, 1, 0, 0), (212, 26, 215, 105, 3, 7, 0), (215, 3, 216, 3, 0, 0, 0), (216, 2, 217, 0, 0, 0, 0), (217, 1, 218, 3, 0, 0, 0), (218, 2, 219, 0, 0, 0, 0), (219, 13, 222, 7, 14, 0, 0), (222, 0, 223, 0, 0, 0, 1), (223, 6, 224, 0, 1, 0, 0), (224, 26, 227, 105, 3, 7, 0), (227, 3, 229, 4, 0, 0, 0), (229, 2, 230, 0, 0, 0, 0), (230, 14, 233, 7, 20, 0, 0), (233, 0, 235, 0, 0, 0, 8), (235, 1, 236, 2, 0, 0, 0), (236, 6, 237, 0, 0, 0, 0), (237, 1, 238, 3, 0, 0, 0), (238, 19, 239, 0, 0, 0, 0), (239, 2, 240, 0, 0, 0, 0), (240, 14, 243, 7, 20, 0, 0), (243, 0, 245, 0, 0, 0, 14), (245, 1, 246, 2, 0, 0, 0), (246, 6, 247, 0, 0, 0, 0), (247, 1, 249, 4, 0, 0, 0), (249, 19, 250, 0, 0, 0, 0), (250, 28, 251, 0, 0, 0, 0)]
def kX7_house : List xE := [(0, 2, 1, 0, 0, 0, 0), (1, 0, 2, 0, 0, 0, 0), (2, 15, 5, 7, 0, 0, 0), (5, 2, 6, 0, 0, 0, 0), (6, 0, 7, 0, 0, 0, -1), (7, 15, 10, 7, 7, 0, 0), (10, 2, 11, 0, 0, 0, 0), (11, 0, 12, 0, 0, 0, 0), (12, 15, 15, 7, 3, 0, 0), (15, 2, 16, 0, 0, 0, 0), (16, 26, 19, 106, 1, 7, 0), (19, 0, 20, 0, 0, 0, 0), (20, 3, 21, 1, 0, 0, 0), (21, 2, 22, 0, 0, 0, 0), (22, 26, 25, 102, 1, 7, 0), (25, 2, 26, 0, 0, 0, 0), (26, 26, 29, 103, 1, 7, 0), (29, 8, 32, 100, 0, 0, 0), (32, 2, 33, 0, 0, 0, 0), (33, 13, 36, 7, 4, 0, 0), (36, 8, 39, 100, 0, 0, 0), (39, 2, 40, 0, 0, 0, 0), (40, 2, 41, 0, 0, 0, 0), (41, 13, 44, 7, 4, 0, 0), (44, 0, 45, 0, 0, 0, 1), (45, 7, 48, 59, 1, 0, 0), (48, 2, 49, 0, 0, 0, 0), (49, 26, 52, 107, 1, 7, 0), (52, 8, 55, 59, 0, 0, 0), (55, 0, 56, 0, 0, 0, 1), (56, 9, 59, 60, 0, 0, 0), (59, 0, 60, 0, 0, 0, 0), (60, 26, 63, 104, 2, 7, 0), (63, 3, 64, 2, 0, 0, 0), (64, 2, 65, 0, 0, 0, 0), (65, 26, 68, 103, 1, 7, 0), (68, 8, 71, 76, 0, 0, 0), (71, 2, 72, 0, 0, 0, 0), (72, 1, 73, 2, 0, 0, 0), (73, 26, 76, 109, 2, 7, 0), (76, 2, 77, 0, 0, 0, 0), (77, 2, 78, 0, 0, 0, 0), (78, 13, 81, 7, 4, 0, 0), (81, 0, 82, 0, 0, 0, 3), (82, 7, 85, 89, 1, 0, 0), (85, 0, 86, 0, 0, 0, 1), (86, 9, 89, 90, 0, 0, 0), (89, 0, 90, 0, 0, 0, 0), (90, 26, 93, 104, 2, 7, 0), (93, 12, 94, 0, 0, 0, 0), (94, 5, 97, 1, 0, 0, 1), (97, 9, 100, 25, 0, 0, 0), (100, 2, 101, 0, 0, 0, 0), (101, 26, 104, 103, 1, 7, 0), (104, 8, 107, 115, 1, 0, 0), (107, 0, 109, 0, 0, 0, -10), (109, 2, 110, 0, 0, 0, 0), (110, 13, 113, 7, 7, 0, 0), (113, 6, 114, 0, 1, 0, 0), (114, 27, 115, 0, 0, 0, 0), (115, 2, 116, 0, 0, 0, 0), (116, 26, 119, 111, 1, 7, 0), (119, 1, 120, 1, 0, 0, 0), (120, 27, 121, 0, 0, 0, 0)]
def kX7_settles : List xE := [(0, 2, 1, 0, 0, 0, 0), (1, 2, 2, 0, 0, 0, 0), (2, 13, 5, 7, 13, 0, 0), (5, 15, 8, 7, 8, 0, 0), (8, 2, 9, 0, 0, 0, 0), (9, 2, 10, 0, 0, 0, 0), (10, 13, 13, 7, 14, 0, 0), (13, 15, 16, 7, 9, 0, 0), (16, 2, 17, 0, 0, 0, 0), (17, 2, 18, 0, 0, 0, 0), (18, 13, 21, 7, 15, 0, 0), (21, 15, 24, 7, 10, 0, 0), (24, 0, 25, 0, 0, 0, 0), (25, 3, 26, 1, 0, 0, 0), (26, 1, 27, 1, 0, 0, 0), (27, 0, 28, 0, 0, 0, 4), (28, 7, 31, 49, 3, 0, 0), (31, 2, 32, 0, 0, 0, 0), (32, 14, 35, 7, 11, 0, 0), (35, 1, 36, 1, 0, 0, 0), (36, 2, 37, 0, 0, 0, 0), (37, 14, 40, 7, 18, 0, 0), (40, 1, 41, 1, 0, 0, 0), (41, 18, 42, 0, 0, 0, 0), (42, 19, 43, 0, 0, 0, 0), (43, 5, 46, 1, 0, 0, 1), (46, 9, 49, 26, 0, 0, 0), (49, 0, 50, 0, 0, 0, 0), (50, 3, 51, 1, 0, 0, 0), (51, 1, 52, 1, 0, 0, 0), (52, 0, 54, 0, 0, 0, 6), (54, 7, 57, 75, 3, 0, 0), (57, 2, 58, 0, 0, 0, 0), (58, 14, 61, 7, 12, 0, 0), (61, 1, 62, 1, 0, 0, 0), (62, 2, 63, 0, 0, 0, 0), (63, 14, 66, 7, 19, 0, 0), (66, 1, 67, 1, 0, 0, 0), (67, 18, 68, 0, 0, 0, 0), (68, 19, 69, 0, 0, 0, 0), (69, 5, 72, 1, 0, 0, 1), (72, 9, 75, 51, 0, 0, 0), (75, 0, 76, 0, 0, 0, 0), (76, 3, 77, 1, 0, 0, 0), (77, 1, 78, 1, 0, 0, 0), (78, 0, 80, 0, 0, 0, 27), (80, 7, 83, 101, 3, 0, 0), (83, 2, 84, 0, 0, 0, 0), (84, 14, 87, 7, 21, 0, 0), (87, 1, 88, 1, 0, 0, 0), (88, 2, 89, 0, 0, 0, 0), (89, 14, 92, 7, 20, 0, 0), (92, 1, 93, 1, 0, 0, 0), (93, 18, 94, 0, 0, 0, 0), (94, 19, 95, 0, 0, 0, 0), (95, 5, 98, 1, 0, 0, 1), (98, 9, 101, 77, 0, 0, 0), (101, 2, 102, 0, 0, 0, 0), (102, 0, 103, 0, 0, 0, 0), (103, 15, 106, 7, 2, 0, 0), (106, 2, 107, 0, 0, 0, 0), (107, 0, 108, 0, 0, 0, 0), (108, 15, 111, 7, 27, 0, 0), (111, 2, 112, 0, 0, 0, 0), (112, 0, 113, 0, 0, 0, 0), (113, 15, 116, 7, 23, 0, 0), (116, 2, 117, 0, 0, 0, 0), (117, 14, 120, 7, 25, 0, 0), (120, 0, 121, 0, 0, 0, 0), (121, 0, 122, 0, 0, 0, 0), (122, 21, 123, 0, 0, 0, 0), (123, 2, 124, 0, 0, 0, 0), (124, 14, 127, 7, 25, 0, 0), (127, 0, 128, 0, 0, 0, 1), (128, 0, 129, 0, 0, 0, 0), (129, 21, 130, 0, 0, 0, 0), (130, 28, 131, 0, 0, 0, 0)]
def kX7_isThing : List xE := [(0, 1, 1, 1, 0, 0, 0), (1, 0, 2, 0, 0, 0, 0), (2, 2, 3, 0, 0, 0, 0), (3, 13, 6, 7, 8, 0, 0), (6, 0, 7, 0, 0, 0, 1), (7, 6, 8, 0, 1, 0, 0), (8, 25, 11, 97, 3, 0, 0), (11, 27, 12, 0, 1, 0, 0)]
def kX7_isSeason : List xE := [(0, 1, 1, 1, 0, 0, 0), (1, 0, 2, 0, 0, 0, 0), (2, 2, 3, 0, 0, 0, 0), (3, 13, 6, 7, 9, 0, 0), (6, 0, 7, 0, 0, 0, 1), (7, 6, 8, 0, 1, 0, 0), (8, 25, 11, 97, 3, 0, 0), (11, 27, 12, 0, 1, 0, 0)]
def kX7_isCase : List xE := [(0, 1, 1, 1, 0, 0, 0), (1, 0, 2, 0, 0, 0, 0), (2, 2, 3, 0, 0, 0, 0), (3, 13, 6, 7, 10, 0, 0), (6, 0, 7, 0, 0, 0, 1), (7, 6, 8, 0, 1, 0, 0), (8, 25, 11, 97, 3, 0, 0), (11, 27, 12, 0, 1, 0, 0)]
def kX7_thing : List xE := [(0, 2, 1, 0, 0, 0, 0), (1, 0, 2, 0, 0, 0, 0), (2, 15, 5, 7, 0, 0, 0), (5, 2, 6, 0, 0, 0, 0), (6, 1, 7, 1, 0, 0, 0), (7, 26, 10, 112, 2, 7, 0), (10, 8, 13, 22, 0, 0, 0), (13, 1, 14, 2, 0, 0, 0), (14, 0, 15, 0, 0, 0, 0), (15, 0, 16, 0, 0, 0, 3), (16, 25, 19, 97, 3, 0, 0), (19, 8, 22, 24, 1, 0, 0), (22, 0, 23, 0, 0, 0, -1), (23, 27, 24, 0, 0, 0, 0), (24, 1, 25, 2, 0, 0, 0), (25, 8, 28, 37, 1, 0, 0), (28, 2, 29, 0, 0, 0, 0), (29, 14, 32, 7, 12, 0, 0), (32, 1, 33, 1, 0, 0, 0), (33, 18, 34, 0, 0, 0, 0), (34, 9, 37, 80, 0, 0, 0), (37, 1, 38, 2, 0, 0, 0), (38, 0, 39, 0, 0, 0, 1), (39, 7, 42, 54, 1, 0, 0), (42, 2, 43, 0, 0, 0, 0), (43, 14, 46, 7, 21, 0, 0), (46, 0, 48, 0, 0, 0, 8), (48, 1, 49, 1, 0, 0, 0), (49, 6, 50, 0, 0, 0, 0), (50, 18, 51, 0, 0, 0, 0), (51, 9, 54, 80, 0, 0, 0), (54, 1, 55, 2, 0, 0, 0), (55, 0, 56, 0, 0, 0, 2), (56, 7, 59, 71, 1, 0, 0), (59, 2, 60, 0, 0, 0, 0), (60, 14, 63, 7, 21, 0, 0), (63, 0, 65, 0, 0, 0, 14), (65, 1, 66, 1, 0, 0, 0), (66, 6, 67, 0, 0, 0, 0), (67, 18, 68, 0, 0, 0, 0), (68, 9, 71, 80, 0, 0, 0), (71, 2, 72, 0, 0, 0, 0), (72, 14, 75, 7, 21, 0, 0), (75, 0, 77, 0, 0, 0, 20), (77, 1, 78, 1, 0, 0, 0), (78, 6, 79, 0, 0, 0, 0), (79, 18, 80, 0, 0, 0, 0), (80, 27, 81, 0, 0, 0, 0)]
def kX7_light : List xE := [(0, 2, 1, 0, 0, 0, 0), (1, 0, 2, 0, 0, 0, 0), (2, 15, 5, 7, 0, 0, 0), (5, 2, 6, 0, 0, 0, 0), (6, 1, 7, 1, 0, 0, 0), (7, 26, 10, 113, 2, 7, 0), (10, 8, 13, 22, 0, 0, 0), (13, 2, 14, 0, 0, 0, 0), (14, 14, 17, 7, 11, 0, 0), (17, 1, 18, 1, 0, 0, 0), (18, 18, 19, 0, 0, 0, 0), (19, 9, 22, 23, 0, 0, 0), (22, 0, 23, 0, 0, 0, -1), (23, 27, 24, 0, 0, 0, 0)]
def kX7_down : List xE := [(0, 2, 1, 0, 0, 0, 0), (1, 0, 2, 0, 0, 0, 0), (2, 15, 5, 7, 0, 0, 0), (5, 2, 6, 0, 0, 0, 0), (6, 1, 7, 1, 0, 0, 0), (7, 26, 10, 113, 2, 7, 0), (10, 8, 13, 36, 0, 0, 0), (13, 2, 14, 0, 0, 0, 0), (14, 1, 15, 2, 0, 0, 0), (15, 26, 18, 114, 2, 7, 0), (18, 8, 21, 36, 0, 0, 0), (21, 2, 22, 0, 0, 0, 0), (22, 14, 25, 7, 21, 0, 0), (25, 0, 26, 0, 0, 0, 0), (26, 0, 27, 0, 0, 0, 2), (27, 1, 28, 1, 0, 0, 0), (28, 6, 29, 0, 2, 0, 0), (29, 6, 30, 0, 0, 0, 0), (30, 1, 31, 2, 0, 0, 0), (31, 6, 32, 0, 0, 0, 0), (32, 18, 33, 0, 0, 0, 0), (33, 9, 36, 37, 0, 0, 0), (36, 0, 37, 0, 0, 0, -1), (37, 27, 38, 0, 0, 0, 0)]
def kX7_notes : List xE := [(0, 2, 1, 0, 0, 0, 0), (1, 13, 4, 7, 23, 0, 0), (4, 0, 6, 0, 0, 0, 10), (6, 7, 9, 45, 1, 0, 0), (9, 0, 10, 0, 0, 0, 0), (10, 3, 11, 1, 0, 0, 0), (11, 1, 12, 1, 0, 0, 0), (12, 0, 15, 0, 0, 0, 243), (15, 7, 18, 39, 3, 0, 0), (18, 2, 19, 0, 0, 0, 0), (19, 14, 22, 7, 22, 0, 0), (22, 1, 23, 1, 0, 0, 0), (23, 2, 24, 0, 0, 0, 0), (24, 14, 27, 7, 22, 0, 0), (27, 1, 28, 1, 0, 0, 0), (28, 0, 30, 0, 0, 0, 27), (30, 6, 31, 0, 0, 0, 0), (31, 18, 32, 0, 0, 0, 0), (32, 19, 33, 0, 0, 0, 0), (33, 5, 36, 1, 0, 0, 1), (36, 9, 39, 11, 0, 0, 0), (39, 2, 40, 0, 0, 0, 0), (40, 0, 42, 0, 0, 0, 9), (42, 15, 45, 7, 23, 0, 0), (45, 0, 46, 0, 0, 0, 0), (46, 3, 47, 1, 0, 0, 0), (47, 1, 48, 1, 0, 0, 0), (48, 0, 50, 0, 0, 0, 27), (50, 7, 53, 79, 3, 0, 0), (53, 2, 54, 0, 0, 0, 0), (54, 14, 57, 7, 22, 0, 0), (57, 0, 59, 0, 0, 0, 27), (59, 2, 60, 0, 0, 0, 0), (60, 13, 63, 7, 23, 0, 0), (63, 6, 64, 0, 2, 0, 0), (64, 1, 65, 1, 0, 0, 0), (65, 6, 66, 0, 0, 0, 0), (66, 2, 67, 0, 0, 0, 0), (67, 14, 70, 7, 21, 0, 0), (70, 1, 71, 1, 0, 0, 0), (71, 18, 72, 0, 0, 0, 0), (72, 19, 73, 0, 0, 0, 0), (73, 5, 76, 1, 0, 0, 1), (76, 9, 79, 47, 0, 0, 0), (79, 2, 80, 0, 0, 0, 0), (80, 10, 81, 0, 0, 0, 0), (81, 13, 84, 7, 23, 0, 0), (84, 0, 85, 0, 0, 0, 1), (85, 6, 86, 0, 0, 0, 0), (86, 15, 89, 7, 23, 0, 0), (89, 28, 90, 0, 0, 0, 0)]
def kX7_sets : List xE := [(0, 2, 1, 0, 0, 0, 0), (1, 0, 2, 0, 0, 0, 0), (2, 15, 5, 7, 0, 0, 0), (5, 2, 6, 0, 0, 0, 0), (6, 1, 7, 1, 0, 0, 0), (7, 26, 10, 113, 2, 7, 0), (10, 8, 13, 35, 0, 0, 0), (13, 2, 14, 0, 0, 0, 0), (14, 1, 15, 2, 0, 0, 0), (15, 26, 18, 114, 2, 7, 0), (18, 8, 21, 35, 0, 0, 0), (21, 1, 22, 3, 0, 0, 0), (22, 0, 24, 0, 0, 0, 6), (24, 7, 27, 37, 0, 0, 0), (27, 2, 28, 0, 0, 0, 0), (28, 1, 29, 3, 0, 0, 0), (29, 26, 32, 112, 2, 7, 0), (32, 8, 35, 37, 1, 0, 0), (35, 0, 36, 0, 0, 0, -1), (36, 27, 37, 0, 0, 0, 0), (37, 0, 38, 0, 0, 0, 0), (38, 0, 39, 0, 0, 0, 2), (39, 1, 40, 1, 0, 0, 0), (40, 6, 41, 0, 2, 0, 0), (41, 6, 42, 0, 0, 0, 0), (42, 1, 43, 2, 0, 0, 0), (43, 6, 44, 0, 0, 0, 0), (44, 3, 46, 4, 0, 0, 0), (46, 1, 47, 3, 0, 0, 0), (47, 0, 49, 0, 0, 0, 6), (49, 7, 52, 57, 1, 0, 0), (52, 0, 54, 0, 0, 0, -9), (54, 9, 57, 58, 0, 0, 0), (57, 1, 58, 3, 0, 0, 0), (58, 3, 60, 5, 0, 0, 0), (60, 2, 61, 0, 0, 0, 0), (61, 14, 64, 7, 21, 0, 0), (64, 1, 66, 4, 0, 0, 0), (66, 18, 67, 0, 0, 0, 0), (67, 3, 69, 6, 0, 0, 0), (69, 1, 71, 6, 0, 0, 0), (71, 1, 73, 5, 0, 0, 0), (73, 7, 76, 79, 1, 0, 0), (76, 0, 78, 0, 0, 0, -2), (78, 27, 79, 0, 0, 0, 0), (79, 2, 80, 0, 0, 0, 0), (80, 26, 83, 118, 1, 7, 0), (83, 2, 84, 0, 0, 0, 0), (84, 14, 87, 7, 21, 0, 0), (87, 1, 89, 4, 0, 0, 0), (89, 1, 91, 5, 0, 0, 0), (91, 19, 92, 0, 0, 0, 0), (92, 1, 94, 6, 0, 0, 0), (94, 27, 95, 0, 0, 0, 0)]
def kX7_lends : List xE := [(0, 2, 1, 0, 0, 0, 0), (1, 0, 2, 0, 0, 0, 0), (2, 15, 5, 7, 0, 0, 0), (5, 1, 6, 2, 0, 0, 0), (6, 0, 7, 0, 0, 0, 4), (7, 7, 10, 18, 1, 0, 0), (10, 1, 11, 3, 0, 0, 0), (11, 8, 14, 18, 1, 0, 0), (14, 0, 15, 0, 0, 0, 1), (15, 9, 18, 19, 0, 0, 0), (18, 0, 19, 0, 0, 0, 0), (19, 3, 21, 4, 0, 0, 0), (21, 2, 22, 0, 0, 0, 0), (22, 1, 23, 1, 0, 0, 0), (23, 26, 26, 112, 2, 7, 0), (26, 8, 29, 56, 0, 0, 0), (29, 1, 31, 4, 0, 0, 0), (31, 8, 34, 58, 1, 0, 0), (34, 2, 35, 0, 0, 0, 0), (35, 1, 36, 2, 0, 0, 0), (36, 26, 39, 113, 2, 7, 0), (39, 8, 42, 56, 0, 0, 0), (42, 1, 43, 3, 0, 0, 0), (43, 1, 44, 2, 0, 0, 0), (44, 2, 45, 0, 0, 0, 0), (45, 13, 48, 7, 9, 0, 0), (48, 0, 49, 0, 0, 0, 1), (49, 6, 50, 0, 1, 0, 0), (50, 25, 53, 97, 3, 0, 0), (53, 8, 56, 58, 1, 0, 0), (56, 0, 57, 0, 0, 0, -1), (57, 27, 58, 0, 0, 0, 0), (58, 1, 60, 4, 0, 0, 0), (60, 8, 63, 68, 0, 0, 0), (63, 0, 65, 0, 0, 0, -9), (65, 9, 68, 69, 0, 0, 0), (68, 1, 69, 2, 0, 0, 0), (69, 3, 71, 5, 0, 0, 0), (71, 1, 73, 4, 0, 0, 0), (73, 8, 76, 81, 0, 0, 0), (76, 0, 78, 0, 0, 0, -9), (78, 9, 81, 82, 0, 0, 0), (81, 1, 82, 3, 0, 0, 0), (82, 3, 84, 6, 0, 0, 0), (84, 2, 85, 0, 0, 0, 0), (85, 14, 88, 7, 21, 0, 0), (88, 0, 90, 0, 0, 0, 8), (90, 1, 91, 1, 0, 0, 0), (91, 6, 92, 0, 0, 0, 0), (92, 18, 93, 0, 0, 0, 0), (93, 1, 95, 5, 0, 0, 0), (95, 7, 98, 115, 1, 0, 0), (98, 2, 99, 0, 0, 0, 0), (99, 14, 102, 7, 21, 0, 0), (102, 0, 104, 0, 0, 0, 14), (104, 1, 105, 1, 0, 0, 0), (105, 6, 106, 0, 0, 0, 0), (106, 18, 107, 0, 0, 0, 0), (107, 1, 109, 6, 0, 0, 0), (109, 7, 112, 115, 1, 0, 0), (112, 0, 114, 0, 0, 0, -2), (114, 27, 115, 0, 0, 0, 0), (115, 2, 116, 0, 0, 0, 0), (116, 26, 119, 118, 1, 7, 0), (119, 2, 120, 0, 0, 0, 0), (120, 14, 123, 7, 21, 0, 0), (123, 0, 125, 0, 0, 0, 8), (125, 1, 126, 1, 0, 0, 0), (126, 6, 127, 0, 0, 0, 0), (127, 18, 128, 0, 0, 0, 0), (128, 0, 130, 0, 0, 0, -9), (130, 7, 133, 138, 1, 0, 0), (133, 0, 135, 0, 0, 0, -9), (135, 9, 138, 160, 0, 0, 0), (138, 0, 140, 0, 0, 0, 10), (140, 2, 141, 0, 0, 0, 0), (141, 14, 144, 7, 21, 0, 0), (144, 0, 146, 0, 0, 0, 8), (146, 1, 147, 1, 0, 0, 0), (147, 6, 148, 0, 0, 0, 0), (148, 18, 149, 0, 0, 0, 0), (149, 6, 150, 0, 2, 0, 0), (150, 2, 151, 0, 0, 0, 0), (151, 14, 154, 7, 21, 0, 0), (154, 0, 156, 0, 0, 0, 14), (156, 1, 157, 1, 0, 0, 0), (157, 6, 158, 0, 0, 0, 0), (158, 18, 159, 0, 0, 0, 0), (159, 6, 160, 0, 0, 0, 0), (160, 3, 162, 7, 0, 0, 0), (162, 2, 163, 0, 0, 0, 0), (163, 14, 166, 7, 21, 0, 0), (166, 0, 168, 0, 0, 0, 8), (168, 1, 169, 1, 0, 0, 0), (169, 6, 170, 0, 0, 0, 0), (170, 1, 172, 5, 0, 0, 0), (172, 19, 173, 0, 0, 0, 0), (173, 2, 174, 0, 0, 0, 0), (174, 14, 177, 7, 21, 0, 0), (177, 0, 179, 0, 0, 0, 14), (179, 1, 180, 1, 0, 0, 0), (180, 6, 181, 0, 0, 0, 0), (181, 1, 183, 6, 0, 0, 0), (183, 19, 184, 0, 0, 0, 0), (184, 1, 186, 7, 0, 0, 0), (186, 27, 187, 0, 0, 0, 0)]
def kX7_pairs : List xE := [(0, 2, 1, 0, 0, 0, 0), (1, 0, 2, 0, 0, 0, 0), (2, 15, 5, 7, 0, 0, 0), (5, 2, 6, 0, 0, 0, 0), (6, 1, 7, 1, 0, 0, 0), (7, 26, 10, 112, 2, 7, 0), (10, 8, 13, 26, 0, 0, 0), (13, 2, 14, 0, 0, 0, 0), (14, 1, 15, 2, 0, 0, 0), (15, 26, 18, 112, 2, 7, 0), (18, 8, 21, 26, 0, 0, 0), (21, 1, 22, 1, 0, 0, 0), (22, 1, 23, 2, 0, 0, 0), (23, 7, 26, 28, 1, 0, 0), (26, 0, 27, 0, 0, 0, -1), (27, 27, 28, 0, 0, 0, 0), (28, 2, 29, 0, 0, 0, 0), (29, 26, 32, 118, 1, 7, 0), (32, 2, 33, 0, 0, 0, 0), (33, 14, 36, 7, 21, 0, 0), (36, 0, 38, 0, 0, 0, 20), (38, 1, 39, 1, 0, 0, 0), (39, 6, 40, 0, 0, 0, 0), (40, 11, 41, 0, 0, 0, 0), (41, 18, 42, 0, 0, 0, 0), (42, 0, 43, 0, 0, 0, 1), (43, 1, 44, 2, 0, 0, 0), (44, 6, 45, 0, 6, 0, 0), (45, 6, 46, 0, 5, 0, 0), (46, 19, 47, 0, 0, 0, 0), (47, 2, 48, 0, 0, 0, 0), (48, 14, 51, 7, 21, 0, 0), (51, 0, 53, 0, 0, 0, 20), (53, 1, 54, 2, 0, 0, 0), (54, 6, 55, 0, 0, 0, 0), (55, 11, 56, 0, 0, 0, 0), (56, 18, 57, 0, 0, 0, 0), (57, 0, 58, 0, 0, 0, 1), (58, 1, 59, 1, 0, 0, 0), (59, 6, 60, 0, 6, 0, 0), (60, 6, 61, 0, 5, 0, 0), (61, 19, 62, 0, 0, 0, 0), (62, 2, 63, 0, 0, 0, 0), (63, 14, 66, 7, 21, 0, 0), (66, 0, 68, 0, 0, 0, 20), (68, 1, 69, 1, 0, 0, 0), (69, 6, 70, 0, 0, 0, 0), (70, 18, 71, 0, 0, 0, 0), (71, 1, 72, 2, 0, 0, 0), (72, 6, 73, 0, 7, 0, 0), (73, 0, 74, 0, 0, 0, 1), (74, 6, 75, 0, 3, 0, 0), (75, 27, 76, 0, 0, 0, 0)]
def kX7_rules : List xE := [(0, 2, 1, 0, 0, 0, 0), (1, 0, 2, 0, 0, 0, 0), (2, 15, 5, 7, 0, 0, 0), (5, 1, 6, 1, 0, 0, 0), (6, 0, 7, 0, 0, 0, 0), (7, 0, 8, 0, 0, 0, 3), (8, 25, 11, 97, 3, 0, 0), (11, 8, 14, 16, 1, 0, 0), (14, 0, 15, 0, 0, 0, -1), (15, 27, 16, 0, 0, 0, 0), (16, 2, 17, 0, 0, 0, 0), (17, 26, 20, 118, 1, 7, 0), (20, 2, 21, 0, 0, 0, 0), (21, 14, 24, 7, 21, 0, 0), (24, 0, 26, 0, 0, 0, 26), (26, 11, 27, 0, 0, 0, 0), (27, 18, 28, 0, 0, 0, 0), (28, 0, 29, 0, 0, 0, 1), (29, 1, 30, 1, 0, 0, 0), (30, 6, 31, 0, 6, 0, 0), (31, 6, 32, 0, 5, 0, 0), (32, 19, 33, 0, 0, 0, 0), (33, 2, 34, 0, 0, 0, 0), (34, 14, 37, 7, 21, 0, 0), (37, 0, 39, 0, 0, 0, 26), (39, 18, 40, 0, 0, 0, 0), (40, 1, 41, 1, 0, 0, 0), (41, 6, 42, 0, 7, 0, 0), (42, 0, 43, 0, 0, 0, 1), (43, 6, 44, 0, 3, 0, 0), (44, 27, 45, 0, 0, 0, 0)]
def kX7_undo : List xE := [(0, 2, 1, 0, 0, 0, 0), (1, 0, 2, 0, 0, 0, 0), (2, 15, 5, 7, 0, 0, 0), (5, 2, 6, 0, 0, 0, 0), (6, 13, 9, 7, 23, 0, 0), (9, 8, 12, 15, 1, 0, 0), (12, 0, 14, 0, 0, 0, -2), (14, 27, 15, 0, 0, 0, 0), (15, 2, 16, 0, 0, 0, 0), (16, 10, 17, 0, 0, 0, 0), (17, 13, 20, 7, 23, 0, 0), (20, 0, 21, 0, 0, 0, 1), (21, 6, 22, 0, 1, 0, 0), (22, 15, 25, 7, 23, 0, 0), (25, 0, 26, 0, 0, 0, 0), (26, 3, 27, 1, 0, 0, 0), (27, 1, 28, 1, 0, 0, 0), (28, 0, 30, 0, 0, 0, 27), (30, 7, 33, 59, 3, 0, 0), (33, 2, 34, 0, 0, 0, 0), (34, 14, 37, 7, 21, 0, 0), (37, 1, 38, 1, 0, 0, 0), (38, 2, 39, 0, 0, 0, 0), (39, 14, 42, 7, 22, 0, 0), (42, 0, 44, 0, 0, 0, 27), (44, 2, 45, 0, 0, 0, 0), (45, 13, 48, 7, 23, 0, 0), (48, 6, 49, 0, 2, 0, 0), (49, 1, 50, 1, 0, 0, 0), (50, 6, 51, 0, 0, 0, 0), (51, 18, 52, 0, 0, 0, 0), (52, 19, 53, 0, 0, 0, 0), (53, 5, 56, 1, 0, 0, 1), (56, 9, 59, 27, 0, 0, 0), (59, 2, 60, 0, 0, 0, 0), (60, 13, 63, 7, 23, 0, 0), (63, 27, 64, 0, 0, 0, 0)]
def kX7_isOn : List xE := [(0, 2, 1, 0, 0, 0, 0), (1, 14, 4, 7, 21, 0, 0), (4, 0, 6, 0, 0, 0, 26), (6, 18, 7, 0, 0, 0, 0), (7, 1, 8, 1, 0, 0, 0), (8, 25, 11, 98, 2, 0, 0), (11, 27, 12, 0, 1, 0, 0)]
def kX7_mayStand : List xE := [(0, 2, 1, 0, 0, 0, 0), (1, 14, 4, 7, 28, 0, 0), (4, 1, 5, 1, 0, 0, 0), (5, 18, 6, 0, 0, 0, 0), (6, 3, 7, 3, 0, 0, 0), (7, 1, 8, 1, 0, 0, 0), (8, 2, 9, 0, 0, 0, 0), (9, 13, 12, 7, 10, 0, 0), (12, 6, 13, 0, 9, 0, 0), (13, 3, 15, 4, 0, 0, 0), (15, 1, 16, 1, 0, 0, 0), (16, 2, 17, 0, 0, 0, 0), (17, 13, 20, 7, 10, 0, 0), (20, 6, 21, 0, 10, 0, 0), (21, 3, 23, 5, 0, 0, 0), (23, 2, 24, 0, 0, 0, 0), (24, 14, 27, 7, 21, 0, 0), (27, 0, 28, 0, 0, 0, 0), (28, 0, 29, 0, 0, 0, 2), (29, 1, 31, 4, 0, 0, 0), (31, 6, 32, 0, 2, 0, 0), (32, 6, 33, 0, 0, 0, 0), (33, 1, 35, 5, 0, 0, 0), (35, 6, 36, 0, 0, 0, 0), (36, 18, 37, 0, 0, 0, 0), (37, 3, 39, 6, 0, 0, 0), (39, 1, 40, 3, 0, 0, 0), (40, 1, 41, 2, 0, 0, 0), (41, 7, 44, 65, 0, 0, 0), (44, 2, 45, 0, 0, 0, 0), (45, 0, 46, 0, 0, 0, 3), (46, 26, 49, 124, 2, 7, 0), (49, 8, 52, 67, 0, 0, 0), (52, 1, 54, 6, 0, 0, 0), (54, 0, 56, 0, 0, 0, -9), (56, 7, 59, 67, 0, 0, 0), (59, 1, 61, 6, 0, 0, 0), (61, 1, 62, 3, 0, 0, 0), (62, 7, 65, 67, 0, 0, 0), (65, 0, 66, 0, 0, 0, 0), (66, 27, 67, 0, 1, 0, 0), (67, 2, 68, 0, 0, 0, 0), (68, 0, 69, 0, 0, 0, 1), (69, 26, 72, 124, 2, 7, 0), (72, 8, 75, 117, 0, 0, 0), (75, 2, 76, 0, 0, 0, 0), (76, 14, 79, 7, 21, 0, 0), (79, 0, 81, 0, 0, 0, 8), (81, 1, 82, 3, 0, 0, 0), (82, 6, 83, 0, 0, 0, 0), (83, 18, 84, 0, 0, 0, 0), (84, 0, 86, 0, 0, 0, -9), (86, 7, 89, 117, 0, 0, 0), (89, 1, 91, 4, 0, 0, 0), (91, 2, 92, 0, 0, 0, 0), (92, 14, 95, 7, 21, 0, 0), (95, 0, 97, 0, 0, 0, 8), (97, 1, 98, 3, 0, 0, 0), (98, 6, 99, 0, 0, 0, 0), (99, 18, 100, 0, 0, 0, 0), (100, 2, 101, 0, 0, 0, 0), (101, 14, 104, 7, 21, 0, 0), (104, 0, 106, 0, 0, 0, 14), (106, 1, 107, 3, 0, 0, 0), (107, 6, 108, 0, 0, 0, 0), (108, 18, 109, 0, 0, 0, 0), (109, 25, 112, 97, 3, 0, 0), (112, 8, 115, 117, 0, 0, 0), (115, 0, 116, 0, 0, 0, 0), (116, 27, 117, 0, 1, 0, 0), (117, 1, 119, 5, 0, 0, 0), (119, 8, 122, 165, 0, 0, 0), (122, 1, 123, 3, 0, 0, 0), (123, 2, 124, 0, 0, 0, 0), (124, 14, 127, 7, 28, 0, 0), (127, 1, 128, 1, 0, 0, 0), (128, 0, 129, 0, 0, 0, 1), (129, 6, 130, 0, 1, 0, 0), (130, 18, 131, 0, 0, 0, 0), (131, 7, 134, 169, 0, 0, 0), (134, 2, 135, 0, 0, 0, 0), (135, 0, 136, 0, 0, 0, 2), (136, 26, 139, 124, 2, 7, 0), (139, 8, 142, 165, 0, 0, 0), (142, 2, 143, 0, 0, 0, 0), (143, 14, 146, 7, 21, 0, 0), (146, 0, 148, 0, 0, 0, 20), (148, 1, 149, 3, 0, 0, 0), (149, 6, 150, 0, 0, 0, 0), (150, 18, 151, 0, 0, 0, 0), (151, 2, 152, 0, 0, 0, 0), (152, 14, 155, 7, 28, 0, 0), (155, 1, 156, 1, 0, 0, 0), (156, 0, 157, 0, 0, 0, 1), (157, 6, 158, 0, 1, 0, 0), (158, 18, 159, 0, 0, 0, 0), (159, 25, 162, 98, 2, 0, 0), (162, 8, 165, 169, 1, 0, 0), (165, 0, 166, 0, 0, 0, 1), (166, 9, 169, 170, 0, 0, 0), (169, 0, 170, 0, 0, 0, 0), (170, 27, 171, 0, 1, 0, 0)]
def kX7_changeAt : List xE := [(0, 1, 1, 1, 0, 0, 0), (1, 2, 2, 0, 0, 0, 0), (2, 13, 5, 7, 10, 0, 0), (5, 7, 8, 32, 2, 0, 0), (8, 2, 9, 0, 0, 0, 0), (9, 14, 12, 7, 28, 0, 0), (12, 1, 13, 1, 0, 0, 0), (13, 18, 14, 0, 0, 0, 0), (14, 2, 15, 0, 0, 0, 0), (15, 14, 18, 7, 28, 0, 0), (18, 1, 19, 1, 0, 0, 0), (19, 2, 20, 0, 0, 0, 0), (20, 13, 23, 7, 10, 0, 0), (23, 6, 24, 0, 1, 0, 0), (24, 18, 25, 0, 0, 0, 0), (25, 7, 28, 32, 0, 0, 0), (28, 0, 29, 0, 0, 0, 1), (29, 9, 32, 33, 0, 0, 0), (32, 0, 33, 0, 0, 0, 0), (33, 27, 34, 0, 0, 0, 0)]
def kX7_fits : List xE := [(0, 2, 1, 0, 0, 0, 0), (1, 14, 4, 7, 28, 0, 0), (4, 1, 5, 1, 0, 0, 0), (5, 18, 6, 0, 0, 0, 0), (6, 3, 8, 4, 0, 0, 0), (8, 2, 9, 0, 0, 0, 0), (9, 1, 10, 1, 0, 0, 0), (10, 1, 11, 2, 0, 0, 0), (11, 26, 14, 125, 3, 7, 0), (14, 8, 17, 19, 1, 0, 0), (17, 0, 18, 0, 0, 0, 0), (18, 27, 19, 0, 1, 0, 0), (19, 2, 20, 0, 0, 0, 0), (20, 14, 23, 7, 30, 0, 0), (23, 1, 25, 4, 0, 0, 0), (25, 18, 26, 0, 0, 0, 0), (26, 2, 27, 0, 0, 0, 0), (27, 14, 30, 7, 11, 0, 0), (30, 1, 31, 1, 0, 0, 0), (31, 2, 32, 0, 0, 0, 0), (32, 13, 35, 7, 10, 0, 0), (35, 6, 36, 0, 9, 0, 0), (36, 18, 37, 0, 0, 0, 0), (37, 6, 38, 0, 0, 0, 0), (38, 2, 39, 0, 0, 0, 0), (39, 14, 42, 7, 12, 0, 0), (42, 1, 44, 4, 0, 0, 0), (44, 18, 45, 0, 0, 0, 0), (45, 6, 46, 0, 1, 0, 0), (46, 3, 48, 5, 0, 0, 0), (48, 1, 49, 3, 0, 0, 0), (49, 8, 52, 67, 0, 0, 0), (52, 1, 54, 5, 0, 0, 0), (54, 2, 55, 0, 0, 0, 0), (55, 13, 58, 7, 32, 0, 0), (58, 7, 61, 65, 3, 0, 0), (61, 0, 62, 0, 0, 0, 1), (62, 9, 65, 66, 0, 0, 0), (65, 0, 66, 0, 0, 0, 0), (66, 27, 67, 0, 1, 0, 0), (67, 2, 68, 0, 0, 0, 0), (68, 0, 69, 0, 0, 0, 0), (69, 26, 72, 124, 2, 7, 0), (72, 8, 75, 80, 0, 0, 0), (75, 1, 77, 5, 0, 0, 0), (77, 8, 80, 103, 4, 0, 0), (80, 2, 81, 0, 0, 0, 0), (81, 14, 84, 7, 29, 0, 0), (84, 1, 85, 1, 0, 0, 0), (85, 18, 86, 0, 0, 0, 0), (86, 2, 87, 0, 0, 0, 0), (87, 1, 88, 1, 0, 0, 0), (88, 26, 91, 126, 2, 7, 0), (91, 6, 92, 0, 0, 0, 0), (92, 2, 93, 0, 0, 0, 0), (93, 13, 96, 7, 32, 0, 0), (96, 7, 99, 103, 4, 0, 0), (99, 0, 100, 0, 0, 0, 1), (100, 9, 103, 104, 0, 0, 0), (103, 0, 104, 0, 0, 0, 0), (104, 27, 105, 0, 1, 0, 0)]
def kX7_weighs : List xE := [(0, 0, 1, 0, 0, 0, 0), (1, 3, 2, 2, 0, 0, 0), (2, 0, 3, 0, 0, 0, 0), (3, 3, 4, 3, 0, 0, 0), (4, 0, 5, 0, 0, 0, 0), (5, 3, 7, 4, 0, 0, 0), (7, 1, 9, 4, 0, 0, 0), (9, 2, 10, 0, 0, 0, 0), (10, 13, 13, 7, 8, 0, 0), (13, 7, 16, 84, 3, 0, 0), (16, 2, 17, 0, 0, 0, 0), (17, 14, 20, 7, 30, 0, 0), (20, 1, 22, 4, 0, 0, 0), (22, 18, 23, 0, 0, 0, 0), (23, 1, 24, 2, 0, 0, 0), (24, 7, 27, 37, 5, 0, 0), (27, 2, 28, 0, 0, 0, 0), (28, 14, 31, 7, 30, 0, 0), (31, 1, 33, 4, 0, 0, 0), (33, 18, 34, 0, 0, 0, 0), (34, 9, 37, 38, 0, 0, 0), (37, 1, 38, 2, 0, 0, 0), (38, 3, 39, 2, 0, 0, 0), (39, 2, 40, 0, 0, 0, 0), (40, 14, 43, 7, 30, 0, 0), (43, 1, 45, 4, 0, 0, 0), (45, 18, 46, 0, 0, 0, 0), (46, 2, 47, 0, 0, 0, 0), (47, 14, 50, 7, 12, 0, 0), (50, 1, 52, 4, 0, 0, 0), (52, 18, 53, 0, 0, 0, 0), (53, 6, 54, 0, 1, 0, 0), (54, 1, 55, 3, 0, 0, 0), (55, 7, 58, 76, 5, 0, 0), (58, 2, 59, 0, 0, 0, 0), (59, 14, 62, 7, 30, 0, 0), (62, 1, 64, 4, 0, 0, 0), (64, 18, 65, 0, 0, 0, 0), (65, 2, 66, 0, 0, 0, 0), (66, 14, 69, 7, 12, 0, 0), (69, 1, 71, 4, 0, 0, 0), (71, 18, 72, 0, 0, 0, 0), (72, 6, 73, 0, 1, 0, 0), (73, 9, 76, 77, 0, 0, 0), (76, 1, 77, 3, 0, 0, 0), (77, 3, 78, 3, 0, 0, 0), (78, 5, 81, 4, 0, 0, 1), (81, 9, 84, 7, 0, 0, 0), (84, 1, 85, 1, 0, 0, 0), (85, 8, 88, 109, 0, 0, 0), (88, 2, 89, 0, 0, 0, 0), (89, 1, 90, 3, 0, 0, 0), (90, 2, 91, 0, 0, 0, 0), (91, 13, 94, 7, 32, 0, 0), (94, 7, 97, 101, 3, 0, 0), (97, 1, 98, 3, 0, 0, 0), (98, 9, 101, 105, 0, 0, 0), (101, 2, 102, 0, 0, 0, 0), (102, 13, 105, 7, 32, 0, 0), (105, 15, 108, 7, 32, 0, 0), (108, 28, 109, 0, 0, 0, 0), (109, 2, 110, 0, 0, 0, 0), (110, 14, 113, 7, 29, 0, 0), (113, 2, 114, 0, 0, 0, 0), (114, 13, 117, 7, 9, 0, 0), (117, 2, 118, 0, 0, 0, 0), (118, 13, 121, 7, 10, 0, 0), (121, 6, 122, 0, 2, 0, 0), (122, 18, 123, 0, 0, 0, 0), (123, 3, 125, 4, 0, 0, 0), (125, 1, 127, 4, 0, 0, 0), (127, 2, 128, 0, 0, 0, 0), (128, 13, 131, 7, 32, 0, 0), (131, 7, 134, 142, 2, 0, 0), (134, 1, 135, 2, 0, 0, 0), (135, 2, 136, 0, 0, 0, 0), (136, 13, 139, 7, 33, 0, 0), (139, 7, 142, 183, 3, 0, 0), (142, 2, 143, 0, 0, 0, 0), (143, 1, 145, 4, 0, 0, 0), (145, 15, 148, 7, 32, 0, 0), (148, 2, 149, 0, 0, 0, 0), (149, 1, 150, 2, 0, 0, 0), (150, 15, 153, 7, 33, 0, 0), (153, 0, 154, 0, 0, 0, 0), (154, 3, 156, 5, 0, 0, 0), (156, 1, 158, 5, 0, 0, 0), (158, 0, 160, 0, 0, 0, 8), (160, 7, 163, 183, 3, 0, 0), (163, 2, 164, 0, 0, 0, 0), (164, 14, 167, 7, 31, 0, 0), (167, 1, 169, 5, 0, 0, 0), (169, 2, 170, 0, 0, 0, 0), (170, 14, 173, 7, 28, 0, 0), (173, 1, 175, 5, 0, 0, 0), (175, 18, 176, 0, 0, 0, 0), (176, 19, 177, 0, 0, 0, 0), (177, 5, 180, 5, 0, 0, 1), (180, 9, 183, 156, 0, 0, 0), (183, 28, 184, 0, 0, 0, 0)]
def kX7_tries : List xE := [(0, 2, 1, 0, 0, 0, 0), (1, 1, 2, 2, 0, 0, 0), (2, 8, 5, 10, 0, 0, 0), (5, 0, 7, 0, 0, 0, 100), (7, 9, 10, 12, 0, 0, 0), (10, 0, 12, 0, 0, 0, 99), (12, 15, 15, 7, 32, 0, 0), (15, 2, 16, 0, 0, 0, 0), (16, 0, 19, 0, 0, 0, 1000), (19, 15, 22, 7, 33, 0, 0), (22, 0, 23, 0, 0, 0, 0), (23, 3, 24, 3, 0, 0, 0), (24, 1, 25, 3, 0, 0, 0), (25, 0, 27, 0, 0, 0, 6), (27, 7, 30, 43, 3, 0, 0), (30, 2, 31, 0, 0, 0, 0), (31, 14, 34, 7, 30, 0, 0), (34, 1, 35, 3, 0, 0, 0), (35, 0, 36, 0, 0, 0, 0), (36, 19, 37, 0, 0, 0, 0), (37, 5, 40, 3, 0, 0, 1), (40, 9, 43, 24, 0, 0, 0), (43, 0, 44, 0, 0, 0, 0), (44, 3, 45, 3, 0, 0, 0), (45, 2, 46, 0, 0, 0, 0), (46, 14, 49, 7, 28, 0, 0), (49, 0, 50, 0, 0, 0, 0), (50, 0, 51, 0, 0, 0, -1), (51, 19, 52, 0, 0, 0, 0), (52, 2, 53, 0, 0, 0, 0), (53, 14, 56, 7, 29, 0, 0), (56, 0, 57, 0, 0, 0, 0), (57, 0, 58, 0, 0, 0, 0), (58, 19, 59, 0, 0, 0, 0), (59, 1, 60, 3, 0, 0, 0), (60, 8, 63, 243, 2, 0, 0), (63, 2, 64, 0, 0, 0, 0), (64, 14, 67, 7, 28, 0, 0), (67, 1, 68, 3, 0, 0, 0), (68, 18, 69, 0, 0, 0, 0), (69, 8, 72, 97, 2, 0, 0), (72, 2, 73, 0, 0, 0, 0), (73, 14, 76, 7, 30, 0, 0), (76, 2, 77, 0, 0, 0, 0), (77, 14, 80, 7, 28, 0, 0), (80, 1, 81, 3, 0, 0, 0), (81, 18, 82, 0, 0, 0, 0), (82, 11, 83, 0, 0, 0, 0), (83, 18, 84, 0, 0, 0, 0), (84, 2, 85, 0, 0, 0, 0), (85, 14, 88, 7, 11, 0, 0), (88, 1, 89, 3, 0, 0, 0), (89, 2, 90, 0, 0, 0, 0), (90, 13, 93, 7, 10, 0, 0), (93, 6, 94, 0, 9, 0, 0), (94, 18, 95, 0, 0, 0, 0), (95, 6, 96, 0, 1, 0, 0), (96, 19, 97, 0, 0, 0, 0), (97, 2, 98, 0, 0, 0, 0), (98, 14, 101, 7, 28, 0, 0), (101, 1, 102, 3, 0, 0, 0), (102, 11, 103, 0, 0, 0, 0), (103, 18, 104, 0, 0, 0, 0), (104, 0, 105, 0, 0, 0, 1), (105, 6, 106, 0, 0, 0, 0), (106, 19, 107, 0, 0, 0, 0), (107, 2, 108, 0, 0, 0, 0), (108, 14, 111, 7, 28, 0, 0), (111, 1, 112, 3, 0, 0, 0), (112, 18, 113, 0, 0, 0, 0), (113, 2, 114, 0, 0, 0, 0), (114, 13, 117, 7, 8, 0, 0), (117, 7, 120, 143, 3, 0, 0), (120, 2, 121, 0, 0, 0, 0), (121, 1, 122, 3, 0, 0, 0), (122, 1, 123, 1, 0, 0, 0), (123, 1, 124, 2, 0, 0, 0), (124, 26, 127, 127, 4, 7, 0), (127, 8, 130, 143, 1, 0, 0), (130, 2, 131, 0, 0, 0, 0), (131, 14, 134, 7, 28, 0, 0), (134, 1, 135, 3, 0, 0, 0), (135, 11, 136, 0, 0, 0, 0), (136, 18, 137, 0, 0, 0, 0), (137, 0, 138, 0, 0, 0, 1), (138, 6, 139, 0, 0, 0, 0), (139, 19, 140, 0, 0, 0, 0), (140, 9, 143, 107, 0, 0, 0), (143, 2, 144, 0, 0, 0, 0), (144, 14, 147, 7, 28, 0, 0), (147, 1, 148, 3, 0, 0, 0), (148, 18, 149, 0, 0, 0, 0), (149, 2, 150, 0, 0, 0, 0), (150, 13, 153, 7, 8, 0, 0), (153, 7, 156, 162, 1, 0, 0), (156, 5, 159, 3, 0, 0, -1), (159, 9, 162, 59, 0, 0, 0), (162, 2, 163, 0, 0, 0, 0), (163, 14, 166, 7, 30, 0, 0), (166, 2, 167, 0, 0, 0, 0), (167, 14, 170, 7, 28, 0, 0), (170, 1, 171, 3, 0, 0, 0), (171, 18, 172, 0, 0, 0, 0), (172, 11, 173, 0, 0, 0, 0), (173, 18, 174, 0, 0, 0, 0), (174, 2, 175, 0, 0, 0, 0), (175, 14, 178, 7, 11, 0, 0), (178, 1, 179, 3, 0, 0, 0), (179, 2, 180, 0, 0, 0, 0), (180, 13, 183, 7, 10, 0, 0), (183, 6, 184, 0, 9, 0, 0), (184, 18, 185, 0, 0, 0, 0), (185, 6, 186, 0, 0, 0, 0), (186, 19, 187, 0, 0, 0, 0), (187, 2, 188, 0, 0, 0, 0), (188, 14, 191, 7, 29, 0, 0), (191, 1, 192, 3, 0, 0, 0), (192, 0, 193, 0, 0, 0, 1), (193, 6, 194, 0, 0, 0, 0), (194, 2, 195, 0, 0, 0, 0), (195, 14, 198, 7, 29, 0, 0), (198, 1, 199, 3, 0, 0, 0), (199, 18, 200, 0, 0, 0, 0), (200, 2, 201, 0, 0, 0, 0), (201, 1, 202, 3, 0, 0, 0), (202, 26, 205, 126, 2, 7, 0), (205, 6, 206, 0, 0, 0, 0), (206, 19, 207, 0, 0, 0, 0), (207, 1, 208, 3, 0, 0, 0), (208, 2, 209, 0, 0, 0, 0), (209, 13, 212, 7, 9, 0, 0), (212, 2, 213, 0, 0, 0, 0), (213, 13, 216, 7, 10, 0, 0), (216, 6, 217, 0, 2, 0, 0), (217, 0, 218, 0, 0, 0, 1), (218, 6, 219, 0, 1, 0, 0), (219, 7, 222, 230, 1, 0, 0), (222, 2, 223, 0, 0, 0, 0), (223, 1, 224, 2, 0, 0, 0), (224, 26, 227, 128, 2, 7, 0), (227, 9, 230, 59, 0, 0, 0), (230, 5, 233, 3, 0, 0, 1), (233, 2, 234, 0, 0, 0, 0), (234, 14, 237, 7, 28, 0, 0), (237, 1, 238, 3, 0, 0, 0), (238, 0, 239, 0, 0, 0, -1), (239, 19, 240, 0, 0, 0, 0), (240, 9, 243, 59, 0, 0, 0), (243, 28, 244, 0, 0, 0, 0)]
def kX7_isPlan : List xE := [(0, 2, 1, 0, 0, 0, 0), (1, 0, 2, 0, 0, 0, -1), (2, 0, 3, 0, 0, 0, 0), (3, 26, 6, 129, 3, 7, 0), (6, 2, 7, 0, 0, 0, 0), (7, 13, 10, 7, 32, 0, 0), (10, 0, 12, 0, 0, 0, 99), (12, 7, 15, 19, 3, 0, 0), (15, 0, 16, 0, 0, 0, 1), (16, 9, 19, 20, 0, 0, 0), (19, 0, 20, 0, 0, 0, 0), (20, 27, 21, 0, 1, 0, 0)]
def kX7_plan : List xE := [(0, 2, 1, 0, 0, 0, 0), (1, 0, 2, 0, 0, 0, 0), (2, 15, 5, 7, 0, 0, 0), (5, 2, 6, 0, 0, 0, 0), (6, 1, 7, 1, 0, 0, 0), (7, 26, 10, 113, 2, 7, 0), (10, 8, 13, 21, 0, 0, 0), (13, 2, 14, 0, 0, 0, 0), (14, 1, 15, 2, 0, 0, 0), (15, 26, 18, 114, 2, 7, 0), (18, 8, 21, 23, 1, 0, 0), (21, 0, 22, 0, 0, 0, -1), (22, 27, 23, 0, 0, 0, 0), (23, 2, 24, 0, 0, 0, 0), (24, 26, 27, 130, 1, 7, 0), (27, 8, 30, 46, 0, 0, 0), (30, 2, 31, 0, 0, 0, 0), (31, 14, 34, 7, 31, 0, 0), (34, 2, 35, 0, 0, 0, 0), (35, 13, 38, 7, 10, 0, 0), (38, 1, 39, 1, 0, 0, 0), (39, 6, 40, 0, 2, 0, 0), (40, 1, 41, 2, 0, 0, 0), (41, 6, 42, 0, 0, 0, 0), (42, 18, 43, 0, 0, 0, 0), (43, 9, 46, 48, 0, 0, 0), (46, 0, 48, 0, 0, 0, -9), (48, 27, 49, 0, 0, 0, 0)]
def kX7_cost : List xE := [(0, 2, 1, 0, 0, 0, 0), (1, 0, 2, 0, 0, 0, 0), (2, 15, 5, 7, 0, 0, 0), (5, 1, 6, 1, 0, 0, 0), (6, 0, 7, 0, 0, 0, 0), (7, 0, 8, 0, 0, 0, 1), (8, 25, 11, 97, 3, 0, 0), (11, 8, 14, 16, 1, 0, 0), (14, 0, 15, 0, 0, 0, -1), (15, 27, 16, 0, 0, 0, 0), (16, 2, 17, 0, 0, 0, 0), (17, 26, 20, 130, 1, 7, 0), (20, 8, 23, 28, 1, 0, 0), (23, 0, 25, 0, 0, 0, -9), (25, 9, 28, 43, 0, 0, 0), (28, 1, 29, 1, 0, 0, 0), (29, 8, 32, 39, 1, 0, 0), (32, 2, 33, 0, 0, 0, 0), (33, 13, 36, 7, 32, 0, 0), (36, 9, 39, 43, 0, 0, 0), (39, 2, 40, 0, 0, 0, 0), (40, 13, 43, 7, 33, 0, 0), (43, 27, 44, 0, 0, 0, 0)]
def kX7_seasonsOf : List xE := [(0, 0, 1, 0, 0, 0, 0), (1, 3, 2, 2, 0, 0, 0), (2, 0, 3, 0, 0, 0, 0), (3, 3, 4, 3, 0, 0, 0), (4, 1, 5, 3, 0, 0, 0), (5, 2, 6, 0, 0, 0, 0), (6, 13, 9, 7, 9, 0, 0), (9, 2, 10, 0, 0, 0, 0), (10, 13, 13, 7, 10, 0, 0), (13, 6, 14, 0, 2, 0, 0), (14, 7, 17, 48, 3, 0, 0), (17, 1, 18, 2, 0, 0, 0), (18, 2, 19, 0, 0, 0, 0), (19, 14, 22, 7, 31, 0, 0), (22, 1, 23, 3, 0, 0, 0), (23, 18, 24, 0, 0, 0, 0), (24, 1, 25, 1, 0, 0, 0), (25, 7, 28, 39, 1, 0, 0), (28, 0, 29, 0, 0, 0, 1), (29, 1, 30, 3, 0, 0, 0), (30, 2, 31, 0, 0, 0, 0), (31, 13, 34, 7, 10, 0, 0), (34, 6, 35, 0, 9, 0, 0), (35, 6, 36, 0, 6, 0, 0), (36, 9, 39, 40, 0, 0, 0), (39, 0, 40, 0, 0, 0, 0), (40, 6, 41, 0, 4, 0, 0), (41, 3, 42, 2, 0, 0, 0), (42, 5, 45, 3, 0, 0, 1), (45, 9, 48, 4, 0, 0, 0), (48, 1, 49, 2, 0, 0, 0), (49, 27, 50, 0, 0, 0, 0)]
def kX7_spent : List xE := [(0, 2, 1, 0, 0, 0, 0), (1, 0, 2, 0, 0, 0, 0), (2, 15, 5, 7, 0, 0, 0), (5, 2, 6, 0, 0, 0, 0), (6, 1, 7, 1, 0, 0, 0), (7, 26, 10, 112, 2, 7, 0), (10, 8, 13, 29, 0, 0, 0), (13, 1, 14, 2, 0, 0, 0), (14, 0, 15, 0, 0, 0, 0), (15, 0, 16, 0, 0, 0, 2), (16, 25, 19, 97, 3, 0, 0), (19, 8, 22, 29, 0, 0, 0), (22, 2, 23, 0, 0, 0, 0), (23, 26, 26, 130, 1, 7, 0), (26, 8, 29, 32, 1, 0, 0), (29, 0, 31, 0, 0, 0, -1000000), (31, 27, 32, 0, 0, 0, 0), (32, 2, 33, 0, 0, 0, 0), (33, 1, 34, 1, 0, 0, 0), (34, 26, 37, 133, 2, 7, 0), (37, 3, 38, 3, 0, 0, 0), (38, 0, 39, 0, 0, 0, 0), (39, 3, 41, 4, 0, 0, 0), (41, 0, 42, 0, 0, 0, 0), (42, 3, 44, 5, 0, 0, 0), (44, 1, 46, 5, 0, 0, 0), (46, 2, 47, 0, 0, 0, 0), (47, 13, 50, 7, 9, 0, 0), (50, 7, 53, 84, 3, 0, 0), (53, 1, 55, 4, 0, 0, 0), (55, 1, 56, 3, 0, 0, 0), (56, 1, 58, 5, 0, 0, 0), (58, 25, 61, 98, 2, 0, 0), (61, 8, 64, 74, 0, 0, 0), (64, 2, 65, 0, 0, 0, 0), (65, 14, 68, 7, 11, 0, 0), (68, 1, 70, 5, 0, 0, 0), (70, 18, 71, 0, 0, 0, 0), (71, 9, 74, 75, 0, 0, 0), (74, 0, 75, 0, 0, 0, 0), (75, 6, 76, 0, 0, 0, 0), (76, 3, 78, 4, 0, 0, 0), (78, 5, 81, 5, 0, 0, 1), (81, 9, 84, 44, 0, 0, 0), (84, 1, 85, 2, 0, 0, 0), (85, 8, 88, 93, 1, 0, 0), (88, 1, 90, 4, 0, 0, 0), (90, 9, 93, 111, 0, 0, 0), (93, 1, 94, 2, 0, 0, 0), (94, 0, 95, 0, 0, 0, 1), (95, 7, 98, 110, 1, 0, 0), (98, 2, 99, 0, 0, 0, 0), (99, 14, 102, 7, 12, 0, 0), (102, 1, 103, 1, 0, 0, 0), (103, 18, 104, 0, 0, 0, 0), (104, 1, 106, 4, 0, 0, 0), (106, 6, 107, 0, 1, 0, 0), (107, 9, 110, 111, 0, 0, 0), (110, 1, 111, 3, 0, 0, 0), (111, 27, 112, 0, 0, 0, 0)]
def kX7_shown : List xE := [(0, 2, 1, 0, 0, 0, 0), (1, 0, 2, 0, 0, 0, 0), (2, 15, 5, 7, 0, 0, 0), (5, 2, 6, 0, 0, 0, 0), (6, 1, 7, 1, 0, 0, 0), (7, 26, 10, 113, 2, 7, 0), (10, 8, 13, 15, 1, 0, 0), (13, 0, 14, 0, 0, 0, -1), (14, 27, 15, 0, 0, 0, 0), (15, 2, 16, 0, 0, 0, 0), (16, 26, 19, 130, 1, 7, 0), (19, 8, 22, 25, 1, 0, 0), (22, 0, 24, 0, 0, 0, -9), (24, 27, 25, 0, 0, 0, 0), (25, 0, 26, 0, 0, 0, 0), (26, 3, 27, 2, 0, 0, 0), (27, 0, 28, 0, 0, 0, 0), (28, 3, 29, 3, 0, 0, 0), (29, 1, 30, 3, 0, 0, 0), (30, 2, 31, 0, 0, 0, 0), (31, 13, 34, 7, 10, 0, 0), (34, 7, 37, 61, 3, 0, 0), (37, 1, 38, 2, 0, 0, 0), (38, 0, 39, 0, 0, 0, 1), (39, 2, 40, 0, 0, 0, 0), (40, 14, 43, 7, 31, 0, 0), (43, 2, 44, 0, 0, 0, 0), (44, 13, 47, 7, 10, 0, 0), (47, 1, 48, 1, 0, 0, 0), (48, 6, 49, 0, 2, 0, 0), (49, 1, 50, 3, 0, 0, 0), (50, 6, 51, 0, 0, 0, 0), (51, 18, 52, 0, 0, 0, 0), (52, 6, 53, 0, 6, 0, 0), (53, 6, 54, 0, 4, 0, 0), (54, 3, 55, 2, 0, 0, 0), (55, 5, 58, 3, 0, 0, 1), (58, 9, 61, 29, 0, 0, 0), (61, 1, 62, 2, 0, 0, 0), (62, 27, 63, 0, 0, 0, 0)]
def kX7_manyOf : List xE := [(0, 0, 1, 0, 0, 0, 0), (1, 3, 2, 2, 0, 0, 0), (2, 2, 3, 0, 0, 0, 0), (3, 1, 4, 1, 0, 0, 0), (4, 26, 7, 133, 2, 7, 0), (7, 3, 8, 3, 0, 0, 0), (8, 1, 9, 3, 0, 0, 0), (9, 8, 12, 24, 0, 0, 0), (12, 5, 15, 2, 0, 0, 1), (15, 1, 16, 3, 0, 0, 0), (16, 1, 17, 3, 0, 0, 0), (17, 0, 18, 0, 0, 0, 1), (18, 6, 19, 0, 1, 0, 0), (19, 6, 20, 0, 3, 0, 0), (20, 3, 21, 3, 0, 0, 0), (21, 9, 24, 8, 0, 0, 0), (24, 1, 25, 2, 0, 0, 0), (25, 27, 26, 0, 0, 0, 0)]
def kX7_often : List xE := [(0, 2, 1, 0, 0, 0, 0), (1, 0, 2, 0, 0, 0, 0), (2, 15, 5, 7, 0, 0, 0), (5, 1, 6, 1, 0, 0, 0), (6, 8, 9, 11, 3, 0, 0), (9, 0, 10, 0, 0, 0, -1), (10, 27, 11, 0, 0, 0, 0), (11, 0, 13, 0, 0, 0, -9), (13, 3, 14, 2, 0, 0, 0), (14, 2, 15, 0, 0, 0, 0), (15, 26, 18, 130, 1, 7, 0), (18, 3, 19, 3, 0, 0, 0), (19, 0, 20, 0, 0, 0, 0), (20, 3, 22, 4, 0, 0, 0), (22, 1, 24, 4, 0, 0, 0), (24, 2, 25, 0, 0, 0, 0), (25, 13, 28, 7, 8, 0, 0), (28, 7, 31, 122, 3, 0, 0), (31, 1, 32, 3, 0, 0, 0), (32, 8, 35, 122, 0, 0, 0), (35, 0, 36, 0, 0, 0, 0), (36, 3, 38, 5, 0, 0, 0), (38, 0, 39, 0, 0, 0, 0), (39, 3, 41, 6, 0, 0, 0), (41, 1, 43, 6, 0, 0, 0), (43, 2, 44, 0, 0, 0, 0), (44, 13, 47, 7, 8, 0, 0), (47, 7, 50, 103, 3, 0, 0), (50, 1, 52, 5, 0, 0, 0), (52, 2, 53, 0, 0, 0, 0), (53, 1, 55, 6, 0, 0, 0), (55, 26, 58, 136, 2, 7, 0), (58, 2, 59, 0, 0, 0, 0), (59, 1, 61, 4, 0, 0, 0), (61, 26, 64, 136, 2, 7, 0), (64, 7, 67, 89, 4, 0, 0), (67, 2, 68, 0, 0, 0, 0), (68, 1, 70, 6, 0, 0, 0), (70, 26, 73, 136, 2, 7, 0), (73, 2, 74, 0, 0, 0, 0), (74, 1, 76, 4, 0, 0, 0), (76, 26, 79, 136, 2, 7, 0), (79, 7, 82, 93, 1, 0, 0), (82, 1, 84, 6, 0, 0, 0), (84, 1, 86, 4, 0, 0, 0), (86, 7, 89, 93, 3, 0, 0), (89, 0, 90, 0, 0, 0, 1), (90, 9, 93, 94, 0, 0, 0), (93, 0, 94, 0, 0, 0, 0), (94, 6, 95, 0, 0, 0, 0), (95, 3, 97, 5, 0, 0, 0), (97, 5, 100, 6, 0, 0, 1), (100, 9, 103, 41, 0, 0, 0), (103, 1, 105, 5, 0, 0, 0), (105, 1, 106, 1, 0, 0, 0), (106, 7, 109, 114, 1, 0, 0), (109, 1, 111, 4, 0, 0, 0), (111, 9, 114, 115, 0, 0, 0), (114, 1, 115, 2, 0, 0, 0), (115, 3, 116, 2, 0, 0, 0), (116, 5, 119, 4, 0, 0, 1), (119, 9, 122, 22, 0, 0, 0), (122, 1, 123, 2, 0, 0, 0), (123, 27, 124, 0, 0, 0, 0)]
def kX7_needed : List xE := [(0, 2, 1, 0, 0, 0, 0), (1, 0, 2, 0, 0, 0, 0), (2, 15, 5, 7, 0, 0, 0), (5, 2, 6, 0, 0, 0, 0), (6, 0, 7, 0, 0, 0, 0), (7, 26, 10, 124, 2, 7, 0), (10, 8, 13, 27, 1, 0, 0), (13, 2, 14, 0, 0, 0, 0), (14, 26, 17, 130, 1, 7, 0), (17, 8, 20, 24, 0, 0, 0), (20, 0, 21, 0, 0, 0, 0), (21, 9, 24, 26, 0, 0, 0), (24, 0, 26, 0, 0, 0, -9), (26, 27, 27, 0, 0, 0, 0), (27, 2, 28, 0, 0, 0, 0), (28, 0, 29, 0, 0, 0, -1), (29, 0, 30, 0, 0, 0, 1), (30, 26, 33, 129, 3, 7, 0), (33, 2, 34, 0, 0, 0, 0), (34, 13, 37, 7, 32, 0, 0), (37, 0, 39, 0, 0, 0, 100), (39, 7, 42, 49, 3, 0, 0), (42, 2, 43, 0, 0, 0, 0), (43, 13, 46, 7, 32, 0, 0), (46, 9, 49, 51, 0, 0, 0), (49, 0, 51, 0, 0, 0, -9), (51, 27, 52, 0, 0, 0, 0)]
def kX7_without : List xE := [(0, 2, 1, 0, 0, 0, 0), (1, 1, 2, 1, 0, 0, 0), (2, 0, 3, 0, 0, 0, 0), (3, 26, 6, 129, 3, 7, 0), (6, 2, 7, 0, 0, 0, 0), (7, 13, 10, 7, 32, 0, 0), (10, 0, 12, 0, 0, 0, 99), (12, 7, 15, 22, 3, 0, 0), (15, 2, 16, 0, 0, 0, 0), (16, 13, 19, 7, 32, 0, 0), (19, 9, 22, 24, 0, 0, 0), (22, 0, 24, 0, 0, 0, 9), (24, 27, 25, 0, 0, 0, 0)]
def kX7_dearth : List xE := [(0, 2, 1, 0, 0, 0, 0), (1, 0, 2, 0, 0, 0, 0), (2, 15, 5, 7, 0, 0, 0), (5, 2, 6, 0, 0, 0, 0), (6, 1, 7, 1, 0, 0, 0), (7, 26, 10, 112, 2, 7, 0), (10, 8, 13, 15, 1, 0, 0), (13, 0, 14, 0, 0, 0, -1), (14, 27, 15, 0, 0, 0, 0), (15, 2, 16, 0, 0, 0, 0), (16, 0, 17, 0, 0, 0, -1), (17, 26, 20, 139, 2, 7, 0), (20, 3, 21, 2, 0, 0, 0), (21, 2, 22, 0, 0, 0, 0), (22, 1, 23, 1, 0, 0, 0), (23, 26, 26, 139, 2, 7, 0), (26, 3, 27, 3, 0, 0, 0), (27, 1, 28, 2, 0, 0, 0), (28, 0, 30, 0, 0, 0, 9), (30, 7, 33, 39, 0, 0, 0), (33, 1, 34, 3, 0, 0, 0), (34, 0, 36, 0, 0, 0, 9), (36, 7, 39, 44, 1, 0, 0), (39, 0, 41, 0, 0, 0, -9), (41, 9, 44, 47, 0, 0, 0), (44, 1, 45, 3, 0, 0, 0), (45, 1, 46, 2, 0, 0, 0), (46, 6, 47, 0, 1, 0, 0), (47, 27, 48, 0, 0, 0, 0)]
def kX7_sees : List xE := [(0, 2, 1, 0, 0, 0, 0), (1, 0, 2, 0, 0, 0, 0), (2, 15, 5, 7, 0, 0, 0), (5, 1, 6, 1, 0, 0, 0), (6, 0, 7, 0, 0, 0, 0), (7, 0, 9, 0, 0, 0, 6), (9, 25, 12, 97, 3, 0, 0), (12, 8, 15, 23, 1, 0, 0), (15, 1, 16, 1, 0, 0, 0), (16, 0, 18, 0, 0, 0, 9), (18, 7, 21, 23, 0, 0, 0), (21, 0, 22, 0, 0, 0, -1), (22, 27, 23, 0, 0, 0, 0), (23, 2, 24, 0, 0, 0, 0), (24, 13, 27, 7, 27, 0, 0), (27, 0, 28, 0, 0, 0, 4), (28, 7, 31, 34, 1, 0, 0), (31, 0, 33, 0, 0, 0, -3), (33, 27, 34, 0, 0, 0, 0), (34, 2, 35, 0, 0, 0, 0), (35, 14, 38, 7, 26, 0, 0), (38, 2, 39, 0, 0, 0, 0), (39, 13, 42, 7, 27, 0, 0), (42, 1, 43, 1, 0, 0, 0), (43, 19, 44, 0, 0, 0, 0), (44, 2, 45, 0, 0, 0, 0), (45, 10, 46, 0, 0, 0, 0), (46, 13, 49, 7, 27, 0, 0), (49, 0, 50, 0, 0, 0, 1), (50, 6, 51, 0, 0, 0, 0), (51, 15, 54, 7, 27, 0, 0), (54, 2, 55, 0, 0, 0, 0), (55, 13, 58, 7, 27, 0, 0), (58, 27, 59, 0, 0, 0, 0)]
def kX7_forget : List xE := [(0, 2, 1, 0, 0, 0, 0), (1, 0, 2, 0, 0, 0, 0), (2, 15, 5, 7, 0, 0, 0), (5, 2, 6, 0, 0, 0, 0), (6, 13, 9, 7, 27, 0, 0), (9, 3, 10, 1, 0, 0, 0), (10, 2, 11, 0, 0, 0, 0), (11, 0, 12, 0, 0, 0, 0), (12, 15, 15, 7, 27, 0, 0), (15, 1, 16, 1, 0, 0, 0), (16, 27, 17, 0, 0, 0, 0)]
def kX7_unseen : List xE := [(0, 2, 1, 0, 0, 0, 0), (1, 0, 2, 0, 0, 0, 0), (2, 15, 5, 7, 0, 0, 0), (5, 0, 6, 0, 0, 0, 0), (6, 3, 7, 1, 0, 0, 0), (7, 0, 8, 0, 0, 0, 0), (8, 3, 9, 2, 0, 0, 0), (9, 1, 10, 2, 0, 0, 0), (10, 2, 11, 0, 0, 0, 0), (11, 13, 14, 7, 8, 0, 0), (14, 7, 17, 97, 3, 0, 0), (17, 0, 18, 0, 0, 0, 1), (18, 3, 19, 3, 0, 0, 0), (19, 2, 20, 0, 0, 0, 0), (20, 13, 23, 7, 27, 0, 0), (23, 8, 26, 30, 1, 0, 0), (26, 0, 27, 0, 0, 0, 0), (27, 9, 30, 35, 0, 0, 0), (30, 2, 31, 0, 0, 0, 0), (31, 1, 32, 2, 0, 0, 0), (32, 26, 35, 139, 2, 7, 0), (35, 3, 37, 4, 0, 0, 0), (37, 0, 38, 0, 0, 0, 0), (38, 3, 40, 5, 0, 0, 0), (40, 1, 42, 5, 0, 0, 0), (42, 2, 43, 0, 0, 0, 0), (43, 13, 46, 7, 27, 0, 0), (46, 7, 49, 77, 3, 0, 0), (49, 1, 50, 3, 0, 0, 0), (50, 8, 53, 69, 0, 0, 0), (53, 2, 54, 0, 0, 0, 0), (54, 14, 57, 7, 26, 0, 0), (57, 1, 59, 5, 0, 0, 0), (59, 18, 60, 0, 0, 0, 0), (60, 1, 62, 4, 0, 0, 0), (62, 7, 65, 69, 1, 0, 0), (65, 0, 66, 0, 0, 0, 1), (66, 9, 69, 70, 0, 0, 0), (69, 0, 70, 0, 0, 0, 0), (70, 3, 71, 3, 0, 0, 0), (71, 5, 74, 5, 0, 0, 1), (74, 9, 77, 40, 0, 0, 0), (77, 1, 78, 1, 0, 0, 0), (78, 1, 79, 3, 0, 0, 0), (79, 8, 82, 88, 0, 0, 0), (82, 0, 83, 0, 0, 0, 1), (83, 1, 84, 2, 0, 0, 0), (84, 6, 85, 0, 6, 0, 0), (85, 9, 88, 89, 0, 0, 0), (88, 0, 89, 0, 0, 0, 0), (89, 6, 90, 0, 4, 0, 0), (90, 3, 91, 1, 0, 0, 0), (91, 5, 94, 2, 0, 0, 1), (94, 9, 97, 9, 0, 0, 0), (97, 1, 98, 1, 0, 0, 0), (98, 27, 99, 0, 0, 0, 0)]
def kX7_keep : List xE := [(0, 2, 1, 0, 0, 0, 0), (1, 0, 2, 0, 0, 0, 0), (2, 15, 5, 7, 0, 0, 0), (5, 1, 6, 1, 0, 0, 0), (6, 0, 7, 0, 0, 0, 0), (7, 0, 8, 0, 0, 0, 1), (8, 25, 11, 97, 3, 0, 0), (11, 8, 14, 16, 1, 0, 0), (14, 0, 15, 0, 0, 0, -1), (15, 27, 16, 0, 0, 0, 0), (16, 0, 17, 0, 0, 0, 0), (17, 3, 18, 2, 0, 0, 0), (18, 1, 19, 2, 0, 0, 0), (19, 0, 21, 0, 0, 0, 27), (21, 7, 24, 47, 3, 0, 0), (24, 2, 25, 0, 0, 0, 0), (25, 14, 28, 7, 24, 0, 0), (28, 0, 30, 0, 0, 0, 27), (30, 1, 31, 1, 0, 0, 0), (31, 6, 32, 0, 2, 0, 0), (32, 1, 33, 2, 0, 0, 0), (33, 6, 34, 0, 0, 0, 0), (34, 2, 35, 0, 0, 0, 0), (35, 14, 38, 7, 21, 0, 0), (38, 1, 39, 2, 0, 0, 0), (39, 18, 40, 0, 0, 0, 0), (40, 19, 41, 0, 0, 0, 0), (41, 5, 44, 2, 0, 0, 1), (44, 9, 47, 18, 0, 0, 0), (47, 2, 48, 0, 0, 0, 0), (48, 14, 51, 7, 25, 0, 0), (51, 1, 52, 1, 0, 0, 0), (52, 0, 53, 0, 0, 0, 1), (53, 21, 54, 0, 0, 0, 0), (54, 2, 55, 0, 0, 0, 0), (55, 13, 58, 7, 8, 0, 0), (58, 27, 59, 0, 0, 0, 0)]
def kX7_back : List xE := [(0, 2, 1, 0, 0, 0, 0), (1, 0, 2, 0, 0, 0, 0), (2, 15, 5, 7, 0, 0, 0), (5, 1, 6, 1, 0, 0, 0), (6, 0, 7, 0, 0, 0, 0), (7, 0, 8, 0, 0, 0, 1), (8, 25, 11, 97, 3, 0, 0), (11, 8, 14, 16, 1, 0, 0), (14, 0, 15, 0, 0, 0, -1), (15, 27, 16, 0, 0, 0, 0), (16, 2, 17, 0, 0, 0, 0), (17, 14, 20, 7, 25, 0, 0), (20, 1, 21, 1, 0, 0, 0), (21, 20, 22, 0, 0, 0, 0), (22, 8, 25, 28, 1, 0, 0), (25, 0, 27, 0, 0, 0, -2), (27, 27, 28, 0, 0, 0, 0), (28, 0, 29, 0, 0, 0, 0), (29, 3, 30, 2, 0, 0, 0), (30, 1, 31, 2, 0, 0, 0), (31, 0, 33, 0, 0, 0, 27), (33, 7, 36, 59, 3, 0, 0), (36, 2, 37, 0, 0, 0, 0), (37, 14, 40, 7, 21, 0, 0), (40, 1, 41, 2, 0, 0, 0), (41, 2, 42, 0, 0, 0, 0), (42, 14, 45, 7, 24, 0, 0), (45, 0, 47, 0, 0, 0, 27), (47, 1, 48, 1, 0, 0, 0), (48, 6, 49, 0, 2, 0, 0), (49, 1, 50, 2, 0, 0, 0), (50, 6, 51, 0, 0, 0, 0), (51, 18, 52, 0, 0, 0, 0), (52, 19, 53, 0, 0, 0, 0), (53, 5, 56, 2, 0, 0, 1), (56, 9, 59, 30, 0, 0, 0), (59, 2, 60, 0, 0, 0, 0), (60, 0, 61, 0, 0, 0, 0), (61, 15, 64, 7, 23, 0, 0), (64, 2, 65, 0, 0, 0, 0), (65, 13, 68, 7, 8, 0, 0), (68, 27, 69, 0, 0, 0, 0)]
def kX7_count : List xE := [(0, 2, 1, 0, 0, 0, 0), (1, 0, 2, 0, 0, 0, 0), (2, 15, 5, 7, 0, 0, 0), (5, 1, 6, 1, 0, 0, 0), (6, 0, 7, 0, 0, 0, 0), (7, 0, 9, 0, 0, 0, 7), (9, 25, 12, 97, 3, 0, 0), (12, 8, 15, 17, 1, 0, 0), (15, 0, 16, 0, 0, 0, -1), (16, 27, 17, 0, 0, 0, 0), (17, 1, 18, 1, 0, 0, 0), (18, 0, 19, 0, 0, 0, 4), (19, 7, 22, 65, 3, 0, 0), (22, 1, 23, 1, 0, 0, 0), (23, 8, 26, 33, 1, 0, 0), (26, 2, 27, 0, 0, 0, 0), (27, 13, 30, 7, 8, 0, 0), (30, 9, 33, 64, 0, 0, 0), (33, 1, 34, 1, 0, 0, 0), (34, 0, 35, 0, 0, 0, 1), (35, 7, 38, 45, 1, 0, 0), (38, 2, 39, 0, 0, 0, 0), (39, 13, 42, 7, 9, 0, 0), (42, 9, 45, 64, 0, 0, 0), (45, 1, 46, 1, 0, 0, 0), (46, 0, 47, 0, 0, 0, 2), (47, 7, 50, 57, 1, 0, 0), (50, 2, 51, 0, 0, 0, 0), (51, 13, 54, 7, 10, 0, 0), (54, 9, 57, 64, 0, 0, 0), (57, 2, 58, 0, 0, 0, 0), (58, 14, 61, 7, 21, 0, 0), (61, 0, 63, 0, 0, 0, 26), (63, 18, 64, 0, 0, 0, 0), (64, 27, 65, 0, 0, 0, 0), (65, 0, 66, 0, 0, 0, 0), (66, 3, 67, 2, 0, 0, 0), (67, 0, 68, 0, 0, 0, 0), (68, 3, 69, 3, 0, 0, 0), (69, 1, 70, 3, 0, 0, 0), (70, 2, 71, 0, 0, 0, 0), (71, 13, 74, 7, 8, 0, 0), (74, 7, 77, 123, 3, 0, 0), (77, 0, 78, 0, 0, 0, 0), (78, 3, 80, 4, 0, 0, 0), (80, 1, 82, 4, 0, 0, 0), (82, 1, 83, 3, 0, 0, 0), (83, 7, 86, 117, 3, 0, 0), (86, 1, 87, 2, 0, 0, 0), (87, 2, 88, 0, 0, 0, 0), (88, 14, 91, 7, 21, 0, 0), (91, 0, 93, 0, 0, 0, 20), (93, 1, 94, 3, 0, 0, 0), (94, 6, 95, 0, 0, 0, 0), (95, 18, 96, 0, 0, 0, 0), (96, 1, 98, 4, 0, 0, 0), (98, 25, 101, 98, 2, 0, 0), (101, 8, 104, 108, 0, 0, 0), (104, 0, 105, 0, 0, 0, 1), (105, 9, 108, 109, 0, 0, 0), (108, 0, 109, 0, 0, 0, 0), (109, 6, 110, 0, 0, 0, 0), (110, 3, 111, 2, 0, 0, 0), (111, 5, 114, 4, 0, 0, 1), (114, 9, 117, 80, 0, 0, 0), (117, 5, 120, 3, 0, 0, 1), (120, 9, 123, 69, 0, 0, 0), (123, 1, 124, 1, 0, 0, 0), (124, 0, 125, 0, 0, 0, 4), (125, 7, 128, 132, 1, 0, 0), (128, 1, 129, 2, 0, 0, 0), (129, 9, 132, 161, 0, 0, 0), (132, 1, 133, 1, 0, 0, 0), (133, 0, 134, 0, 0, 0, 5), (134, 7, 137, 144, 1, 0, 0), (137, 2, 138, 0, 0, 0, 0), (138, 13, 141, 7, 27, 0, 0), (141, 9, 144, 161, 0, 0, 0), (144, 1, 145, 1, 0, 0, 0), (145, 0, 147, 0, 0, 0, 6), (147, 7, 150, 157, 1, 0, 0), (150, 2, 151, 0, 0, 0, 0), (151, 13, 154, 7, 2, 0, 0), (154, 9, 157, 161, 0, 0, 0), (157, 2, 158, 0, 0, 0, 0), (158, 13, 161, 7, 23, 0, 0), (161, 27, 162, 0, 0, 0, 0)]
def kJ6_bitCount : List xE := [(0, 1, 1, 0, 0, 0, 0), (1, 1, 2, 0, 0, 0, 0), (2, 0, 3, 0, 0, 0, 1), (3, 6, 4, 0, 8, 0, 0), (4, 0, 7, 0, 0, 0, 1431655765), (7, 6, 8, 0, 3, 0, 0), (8, 6, 9, 0, 1, 0, 0), (9, 3, 10, 0, 0, 0, 0), (10, 1, 11, 0, 0, 0, 0), (11, 0, 14, 0, 0, 0, 858993459), (14, 6, 15, 0, 3, 0, 0), (15, 1, 16, 0, 0, 0, 0), (16, 0, 17, 0, 0, 0, 2), (17, 6, 18, 0, 8, 0, 0), (18, 0, 21, 0, 0, 0, 858993459), (21, 6, 22, 0, 3, 0, 0), (22, 6, 23, 0, 0, 0, 0), (23, 3, 24, 0, 0, 0, 0), (24, 1, 25, 0, 0, 0, 0), (25, 1, 26, 0, 0, 0, 0), (26, 0, 27, 0, 0, 0, 4), (27, 6, 28, 0, 8, 0, 0), (28, 6, 29, 0, 0, 0, 0), (29, 0, 32, 0, 0, 0, 252645135), (32, 6, 33, 0, 3, 0, 0), (33, 3, 34, 0, 0, 0, 0), (34, 1, 35, 0, 0, 0, 0), (35, 1, 36, 0, 0, 0, 0), (36, 0, 38, 0, 0, 0, 8), (38, 6, 39, 0, 8, 0, 0), (39, 6, 40, 0, 0, 0, 0), (40, 3, 41, 0, 0, 0, 0), (41, 1, 42, 0, 0, 0, 0), (42, 1, 43, 0, 0, 0, 0), (43, 0, 45, 0, 0, 0, 16), (45, 6, 46, 0, 8, 0, 0), (46, 6, 47, 0, 0, 0, 0), (47, 3, 48, 0, 0, 0, 0), (48, 1, 49, 0, 0, 0, 0), (49, 0, 51, 0, 0, 0, 63), (51, 6, 52, 0, 3, 0, 0), (52, 27, 53, 0, 0, 0, 0)]
def kJ7_fill : List xE := [(0, 0, 1, 0, 0, 0, 0), (1, 3, 2, 2, 0, 0, 0), (2, 2, 3, 0, 0, 0, 0), (3, 24, 4, 0, 0, 0, 0), (4, 3, 5, 3, 0, 0, 0), (5, 1, 6, 2, 0, 0, 0), (6, 1, 7, 3, 0, 0, 0), (7, 7, 10, 20, 3, 0, 0), (10, 2, 11, 0, 0, 0, 0), (11, 1, 12, 2, 0, 0, 0), (12, 1, 13, 1, 0, 0, 0), (13, 19, 14, 0, 0, 0, 0), (14, 5, 17, 2, 0, 0, 1), (17, 9, 20, 5, 0, 0, 0), (20, 28, 21, 0, 0, 0, 0)]
def x_mt : List (Nat × List xE) := [(2, kX0_init), (1, kX0_known), (1, kX0_loseAll), (2, kX0_remember), (2, kX0_restore), (2, kX1_init), (1, kX1_place), (3, kX1_readAll), (1, kX1_readItem), (1, kX1_readCases), (2, kX1_readLights), (1, kX1_readThing), (3, kX1_readBarred), (3, kX1_readLoan), (1, kX1_nextIsEnd), (3, kX1_nextIsNumber), (3, kX1_isNumber), (1, kX1_advance), (2, kX1_advanceOverNumber), (1, kX1_isFigure), (1, kX1_isSign), (3, kX2_init), (1, kX2_bestMost), (2, kX2_copyBestTo), (3, kX2_canBeFilled), (5, kX2_fewestChanges), (6, kX2_prepare), (6, kX2_openSeason), (5, kX2_withPartner), (4, kX2_thingsThatBear), (4, kX2_countRuns), (7, kX2_leavesAt), (6, kX2_fill), (4, kX2_besideFirst), (9, kX2_place), (2, kX2_changesBeside), (2, kX2_take), (1, kX3_init), (1, kX3_beAsAtFirst), (2, kX3_takeFrom), (3, kX3_slotOf), (4, kX3_rankByLight), (4, kX3_lightOver), (1, kX4_init), (1, kX4_beAsAtFirst), (2, kX4_takeFrom), (2, kX4_loanAsNumber), (4, kX4_awayNow), (2, kX4_wantedNow), (2, kX4_barredNow), (3, kX4_isBarred), (3, kX4_turnPair), (3, kX4_barredPairs), (2, kX4_isOn), (3, kX5_init), (1, kX5_growStale), (1, kX5_hasPlan), (1, kX5_changesNow), (3, kX5_changesWithout), (1, kX5_mostLight), (2, kX5_thingIn), (4, kX5_thingsIn), (4, kX5_seasonsOf), (3, kX5_thingOfRank), (6, kX5_rankOf), (5, kX5_leastMore), (2, kX6_init), (2, kX6_type), (2, kX6_clear), (2, kX6_house), (3, kX6_thing), (2, kX6_light), (3, kX6_down), (7, kX6_sets), (9, kX6_lends), (3, kX6_pairs), (2, kX6_rules), (1, kX6_undo), (3, kX6_plan), (2, kX6_cost), (5, kX6_spent), (2, kX6_shown), (2, kX6_often), (1, kX6_needed), (3, kX6_dearth), (2, kX6_sees), (2, kX6_forget), (3, kX6_unseen), (2, kX6_keep), (2, kX6_back), (2, kX6_count), (2, kX6_isThing), (2, kX6_isSeason), (2, kX6_isCase), (1, kX6_rememberWishes), (4, kX6_isAllThatWasSeen), (1, kX7_init), (3, kX7_in), (2, kX7_has), (2, kX7_type), (2, kX7_clear), (2, kX7_letterAt), (2, kX7_advances), (1, kX7_isWell), (3, kX7_takes), (3, kX7_number), (2, kX7_begins), (1, kX7_mayBegin), (1, kX7_readsLights), (5, kX7_readsItem), (3, kX7_house), (2, kX7_settles), (2, kX7_isThing), (2, kX7_isSeason), (2, kX7_isCase), (3, kX7_thing), (2, kX7_light), (3, kX7_down), (2, kX7_notes), (7, kX7_sets), (8, kX7_lends), (3, kX7_pairs), (2, kX7_rules), (2, kX7_undo), (2, kX7_isOn), (7, kX7_mayStand), (2, kX7_changeAt), (6, kX7_fits), (6, kX7_weighs), (4, kX7_tries), (1, kX7_isPlan), (3, kX7_plan), (2, kX7_cost), (4, kX7_seasonsOf), (6, kX7_spent), (4, kX7_shown), (4, kX7_manyOf), (7, kX7_often), (1, kX7_needed), (2, kX7_without), (4, kX7_dearth), (2, kX7_sees), (2, kX7_forget), (6, kX7_unseen), (3, kX7_keep), (3, kX7_back), (5, kX7_count), (1, kJ6_bitCount), (4, kJ7_fill)]
/-- name, bytes, locals, result, kind (0 static, 1 virtual, 2 a constructor), class, parameters, code -/
abbrev xI : Type := MethodName × ByteArray × Nat × Option FieldType × Nat × Nat × Nat × List xE
def x_cn : List String := [RX0, RX1, RX2, RX3, RX4, RX5, RX6, RX7, RJ6, RJ9, RJ7]
def nX0_init : xI := (yX0_init, cX0_init, 2, none, 2, 0, 0, kX0_init)
def nX0_known : xI := (yX0_known, cX0_known, 1, some .int, 1, 0, 0, kX0_known)
def nX0_loseAll : xI := (yX0_loseAll, cX0_loseAll, 1, none, 1, 0, 0, kX0_loseAll)
def nX0_remember : xI := (yX0_remember, cX0_remember, 2, none, 1, 0, 1, kX0_remember)
def nX0_restore : xI := (yX0_restore, cX0_restore, 2, none, 1, 0, 1, kX0_restore)
def nX1_init : xI := (yX1_init, cX1_init, 2, none, 2, 1, 1, kX1_init)
def nX1_place : xI := (yX1_place, cX1_place, 1, some .int, 1, 1, 0, kX1_place)
def nX1_readAll : xI := (yX1_readAll, cX1_readAll, 3, some .int, 1, 1, 1, kX1_readAll)
def nX1_readItem : xI := (yX1_readItem, cX1_readItem, 1, some .boolean, 1, 1, 0, kX1_readItem)
def nX1_readCases : xI := (yX1_readCases, cX1_readCases, 1, some .boolean, 1, 1, 0, kX1_readCases)
def nX1_readLights : xI := (yX1_readLights, cX1_readLights, 2, some .boolean, 1, 1, 0, kX1_readLights)
def nX1_readThing : xI := (yX1_readThing, cX1_readThing, 1, some .boolean, 1, 1, 0, kX1_readThing)
def nX1_readBarred : xI := (yX1_readBarred, cX1_readBarred, 3, some .boolean, 1, 1, 0, kX1_readBarred)
def nX1_readLoan : xI := (yX1_readLoan, cX1_readLoan, 3, some .boolean, 1, 1, 0, kX1_readLoan)
def nX1_nextIsEnd : xI := (yX1_nextIsEnd, cX1_nextIsEnd, 1, some .boolean, 1, 1, 0, kX1_nextIsEnd)
def nX1_nextIsNumber : xI := (yX1_nextIsNumber, cX1_nextIsNumber, 3, some .boolean, 1, 1, 2, kX1_nextIsNumber)
def nX1_isNumber : xI := (yX1_isNumber, cX1_isNumber, 3, some .boolean, 1, 1, 2, kX1_isNumber)
def nX1_advance : xI := (yX1_advance, cX1_advance, 1, none, 1, 1, 0, kX1_advance)
def nX1_advanceOverNumber : xI := (yX1_advanceOverNumber, cX1_advanceOverNumber, 2, none, 1, 1, 0, kX1_advanceOverNumber)
def nX1_isFigure : xI := (yX1_isFigure, cX1_isFigure, 1, some .boolean, 0, 1, 1, kX1_isFigure)
def nX1_isSign : xI := (yX1_isSign, cX1_isSign, 1, some .boolean, 0, 1, 1, kX1_isSign)
def nX2_init : xI := (yX2_init, cX2_init, 3, none, 2, 2, 2, kX2_init)
def nX2_bestMost : xI := (yX2_bestMost, cX2_bestMost, 1, some .int, 1, 2, 0, kX2_bestMost)
def nX2_copyBestTo : xI := (yX2_copyBestTo, cX2_copyBestTo, 2, none, 1, 2, 1, kX2_copyBestTo)
def nX2_canBeFilled : xI := (yX2_canBeFilled, cX2_canBeFilled, 3, some .boolean, 1, 2, 2, kX2_canBeFilled)
def nX2_fewestChanges : xI := (yX2_fewestChanges, cX2_fewestChanges, 5, some .int, 1, 2, 3, kX2_fewestChanges)
def nX2_prepare : xI := (yX2_prepare, cX2_prepare, 6, none, 1, 2, 3, kX2_prepare)
def nX2_openSeason : xI := (yX2_openSeason, cX2_openSeason, 6, none, 1, 2, 3, kX2_openSeason)
def nX2_withPartner : xI := (yX2_withPartner, cX2_withPartner, 5, some .int, 1, 2, 2, kX2_withPartner)
def nX2_thingsThatBear : xI := (yX2_thingsThatBear, cX2_thingsThatBear, 4, some .int, 1, 2, 1, kX2_thingsThatBear)
def nX2_countRuns : xI := (yX2_countRuns, cX2_countRuns, 4, none, 1, 2, 0, kX2_countRuns)
def nX2_leavesAt : xI := (yX2_leavesAt, cX2_leavesAt, 7, some .int, 1, 2, 3, kX2_leavesAt)
def nX2_fill : xI := (yX2_fill, cX2_fill, 6, none, 1, 2, 3, kX2_fill)
def nX2_besideFirst : xI := (yX2_besideFirst, cX2_besideFirst, 4, some .int, 1, 2, 1, kX2_besideFirst)
def nX2_place : xI := (yX2_place, cX2_place, 9, none, 1, 2, 4, kX2_place)
def nX2_changesBeside : xI := (yX2_changesBeside, cX2_changesBeside, 2, some .int, 1, 2, 1, kX2_changesBeside)
def nX2_take : xI := (yX2_take, cX2_take, 2, none, 1, 2, 1, kX2_take)
def nX3_init : xI := (yX3_init, cX3_init, 1, none, 2, 3, 0, kX3_init)
def nX3_beAsAtFirst : xI := (yX3_beAsAtFirst, cX3_beAsAtFirst, 1, none, 1, 3, 0, kX3_beAsAtFirst)
def nX3_takeFrom : xI := (yX3_takeFrom, cX3_takeFrom, 2, none, 1, 3, 1, kX3_takeFrom)
def nX3_slotOf : xI := (yX3_slotOf, cX3_slotOf, 3, some .int, 1, 3, 2, kX3_slotOf)
def nX3_rankByLight : xI := (yX3_rankByLight, cX3_rankByLight, 4, some .int, 1, 3, 1, kX3_rankByLight)
def nX3_lightOver : xI := (yX3_lightOver, cX3_lightOver, 4, some .int, 1, 3, 1, kX3_lightOver)
def nX4_init : xI := (yX4_init, cX4_init, 1, none, 2, 4, 0, kX4_init)
def nX4_beAsAtFirst : xI := (yX4_beAsAtFirst, cX4_beAsAtFirst, 1, none, 1, 4, 0, kX4_beAsAtFirst)
def nX4_takeFrom : xI := (yX4_takeFrom, cX4_takeFrom, 2, none, 1, 4, 1, kX4_takeFrom)
def nX4_loanAsNumber : xI := (yX4_loanAsNumber, cX4_loanAsNumber, 2, some .int, 1, 4, 1, kX4_loanAsNumber)
def nX4_awayNow : xI := (yX4_awayNow, cX4_awayNow, 4, some .int, 1, 4, 1, kX4_awayNow)
def nX4_wantedNow : xI := (yX4_wantedNow, cX4_wantedNow, 2, some .int, 1, 4, 1, kX4_wantedNow)
def nX4_barredNow : xI := (yX4_barredNow, cX4_barredNow, 2, some .int, 1, 4, 1, kX4_barredNow)
def nX4_isBarred : xI := (yX4_isBarred, cX4_isBarred, 3, some .boolean, 1, 4, 2, kX4_isBarred)
def nX4_turnPair : xI := (yX4_turnPair, cX4_turnPair, 3, none, 1, 4, 2, kX4_turnPair)
def nX4_barredPairs : xI := (yX4_barredPairs, cX4_barredPairs, 3, some .int, 1, 4, 0, kX4_barredPairs)
def nX4_isOn : xI := (yX4_isOn, cX4_isOn, 2, some .boolean, 1, 4, 1, kX4_isOn)
def nX5_init : xI := (yX5_init, cX5_init, 3, none, 2, 5, 2, kX5_init)
def nX5_growStale : xI := (yX5_growStale, cX5_growStale, 1, none, 1, 5, 0, kX5_growStale)
def nX5_hasPlan : xI := (yX5_hasPlan, cX5_hasPlan, 1, some .boolean, 1, 5, 0, kX5_hasPlan)
def nX5_changesNow : xI := (yX5_changesNow, cX5_changesNow, 1, some .int, 1, 5, 0, kX5_changesNow)
def nX5_changesWithout : xI := (yX5_changesWithout, cX5_changesWithout, 3, some .int, 1, 5, 1, kX5_changesWithout)
def nX5_mostLight : xI := (yX5_mostLight, cX5_mostLight, 1, some .int, 1, 5, 0, kX5_mostLight)
def nX5_thingIn : xI := (yX5_thingIn, cX5_thingIn, 2, some .int, 1, 5, 1, kX5_thingIn)
def nX5_thingsIn : xI := (yX5_thingsIn, cX5_thingsIn, 4, some .int, 1, 5, 1, kX5_thingsIn)
def nX5_seasonsOf : xI := (yX5_seasonsOf, cX5_seasonsOf, 4, some .int, 1, 5, 1, kX5_seasonsOf)
def nX5_thingOfRank : xI := (yX5_thingOfRank, cX5_thingOfRank, 3, some .int, 1, 5, 1, kX5_thingOfRank)
def nX5_rankOf : xI := (yX5_rankOf, cX5_rankOf, 6, some .int, 1, 5, 1, kX5_rankOf)
def nX5_leastMore : xI := (yX5_leastMore, cX5_leastMore, 5, some .int, 1, 5, 0, kX5_leastMore)
def nX6_init : xI := (yX6_init, cX6_init, 2, none, 2, 6, 0, kX6_init)
def nX6_type : xI := (yX6_type, cX6_type, 2, some .int, 1, 6, 1, kX6_type)
def nX6_clear : xI := (yX6_clear, cX6_clear, 2, some .int, 1, 6, 0, kX6_clear)
def nX6_house : xI := (yX6_house, cX6_house, 2, some .int, 1, 6, 0, kX6_house)
def nX6_thing : xI := (yX6_thing, cX6_thing, 3, some .int, 1, 6, 2, kX6_thing)
def nX6_light : xI := (yX6_light, cX6_light, 2, some .int, 1, 6, 1, kX6_light)
def nX6_down : xI := (yX6_down, cX6_down, 3, some .int, 1, 6, 2, kX6_down)
def nX6_sets : xI := (yX6_sets, cX6_sets, 7, some .int, 1, 6, 3, kX6_sets)
def nX6_lends : xI := (yX6_lends, cX6_lends, 9, some .int, 1, 6, 3, kX6_lends)
def nX6_pairs : xI := (yX6_pairs, cX6_pairs, 3, some .int, 1, 6, 2, kX6_pairs)
def nX6_rules : xI := (yX6_rules, cX6_rules, 2, some .int, 1, 6, 1, kX6_rules)
def nX6_undo : xI := (yX6_undo, cX6_undo, 1, some .int, 1, 6, 0, kX6_undo)
def nX6_plan : xI := (yX6_plan, cX6_plan, 3, some .int, 1, 6, 2, kX6_plan)
def nX6_cost : xI := (yX6_cost, cX6_cost, 2, some .int, 1, 6, 1, kX6_cost)
def nX6_spent : xI := (yX6_spent, cX6_spent, 5, some .int, 1, 6, 2, kX6_spent)
def nX6_shown : xI := (yX6_shown, cX6_shown, 2, some .int, 1, 6, 1, kX6_shown)
def nX6_often : xI := (yX6_often, cX6_often, 2, some .int, 1, 6, 1, kX6_often)
def nX6_needed : xI := (yX6_needed, cX6_needed, 1, some .int, 1, 6, 0, kX6_needed)
def nX6_dearth : xI := (yX6_dearth, cX6_dearth, 3, some .int, 1, 6, 1, kX6_dearth)
def nX6_sees : xI := (yX6_sees, cX6_sees, 2, some .int, 1, 6, 1, kX6_sees)
def nX6_forget : xI := (yX6_forget, cX6_forget, 2, some .int, 1, 6, 0, kX6_forget)
def nX6_unseen : xI := (yX6_unseen, cX6_unseen, 3, some .int, 1, 6, 0, kX6_unseen)
def nX6_keep : xI := (yX6_keep, cX6_keep, 2, some .int, 1, 6, 1, kX6_keep)
def nX6_back : xI := (yX6_back, cX6_back, 2, some .int, 1, 6, 1, kX6_back)
def nX6_count : xI := (yX6_count, cX6_count, 2, some .int, 1, 6, 1, kX6_count)
def nX6_isThing : xI := (yX6_isThing, cX6_isThing, 2, some .boolean, 1, 6, 1, kX6_isThing)
def nX6_isSeason : xI := (yX6_isSeason, cX6_isSeason, 2, some .boolean, 1, 6, 1, kX6_isSeason)
def nX6_isCase : xI := (yX6_isCase, cX6_isCase, 2, some .boolean, 1, 6, 1, kX6_isCase)
def nX6_rememberWishes : xI := (yX6_rememberWishes, cX6_rememberWishes, 1, none, 1, 6, 0, kX6_rememberWishes)
def nX6_isAllThatWasSeen : xI := (yX6_isAllThatWasSeen, cX6_isAllThatWasSeen, 4, some .boolean, 1, 6, 1, kX6_isAllThatWasSeen)
def nX7_init : xI := (yX7_init, cX7_init, 1, none, 2, 7, 0, kX7_init)
def nX7_in : xI := (yX7_in, cX7_in, 3, some .boolean, 0, 7, 3, kX7_in)
def nX7_has : xI := (yX7_has, cX7_has, 2, some .boolean, 0, 7, 2, kX7_has)
def nX7_type : xI := (yX7_type, cX7_type, 2, some .int, 1, 7, 1, kX7_type)
def nX7_clear : xI := (yX7_clear, cX7_clear, 2, some .int, 1, 7, 0, kX7_clear)
def nX7_letterAt : xI := (yX7_letterAt, cX7_letterAt, 2, some .int, 1, 7, 1, kX7_letterAt)
def nX7_advances : xI := (yX7_advances, cX7_advances, 2, none, 1, 7, 0, kX7_advances)
def nX7_isWell : xI := (yX7_isWell, cX7_isWell, 1, some .boolean, 1, 7, 0, kX7_isWell)
def nX7_takes : xI := (yX7_takes, cX7_takes, 3, some .int, 1, 7, 1, kX7_takes)
def nX7_number : xI := (yX7_number, cX7_number, 3, some .int, 1, 7, 2, kX7_number)
def nX7_begins : xI := (yX7_begins, cX7_begins, 2, none, 1, 7, 0, kX7_begins)
def nX7_mayBegin : xI := (yX7_mayBegin, cX7_mayBegin, 1, some .boolean, 1, 7, 0, kX7_mayBegin)
def nX7_readsLights : xI := (yX7_readsLights, cX7_readsLights, 1, none, 1, 7, 0, kX7_readsLights)
def nX7_readsItem : xI := (yX7_readsItem, cX7_readsItem, 5, none, 1, 7, 1, kX7_readsItem)
def nX7_house : xI := (yX7_house, cX7_house, 3, some .int, 1, 7, 0, kX7_house)
def nX7_settles : xI := (yX7_settles, cX7_settles, 2, none, 1, 7, 0, kX7_settles)
def nX7_isThing : xI := (yX7_isThing, cX7_isThing, 2, some .boolean, 1, 7, 1, kX7_isThing)
def nX7_isSeason : xI := (yX7_isSeason, cX7_isSeason, 2, some .boolean, 1, 7, 1, kX7_isSeason)
def nX7_isCase : xI := (yX7_isCase, cX7_isCase, 2, some .boolean, 1, 7, 1, kX7_isCase)
def nX7_thing : xI := (yX7_thing, cX7_thing, 3, some .int, 1, 7, 2, kX7_thing)
def nX7_light : xI := (yX7_light, cX7_light, 2, some .int, 1, 7, 1, kX7_light)
def nX7_down : xI := (yX7_down, cX7_down, 3, some .int, 1, 7, 2, kX7_down)
def nX7_notes : xI := (yX7_notes, cX7_notes, 2, none, 1, 7, 0, kX7_notes)
def nX7_sets : xI := (yX7_sets, cX7_sets, 7, some .int, 1, 7, 3, kX7_sets)
def nX7_lends : xI := (yX7_lends, cX7_lends, 8, some .int, 1, 7, 3, kX7_lends)
def nX7_pairs : xI := (yX7_pairs, cX7_pairs, 3, some .int, 1, 7, 2, kX7_pairs)
def nX7_rules : xI := (yX7_rules, cX7_rules, 2, some .int, 1, 7, 1, kX7_rules)
def nX7_undo : xI := (yX7_undo, cX7_undo, 2, some .int, 1, 7, 0, kX7_undo)
def nX7_isOn : xI := (yX7_isOn, cX7_isOn, 2, some .boolean, 1, 7, 1, kX7_isOn)
def nX7_mayStand : xI := (yX7_mayStand, cX7_mayStand, 7, some .boolean, 1, 7, 2, kX7_mayStand)
def nX7_changeAt : xI := (yX7_changeAt, cX7_changeAt, 2, some .int, 1, 7, 1, kX7_changeAt)
def nX7_fits : xI := (yX7_fits, cX7_fits, 6, some .boolean, 1, 7, 3, kX7_fits)
def nX7_weighs : xI := (yX7_weighs, cX7_weighs, 6, none, 1, 7, 1, kX7_weighs)
def nX7_tries : xI := (yX7_tries, cX7_tries, 4, none, 1, 7, 2, kX7_tries)
def nX7_isPlan : xI := (yX7_isPlan, cX7_isPlan, 1, some .boolean, 1, 7, 0, kX7_isPlan)
def nX7_plan : xI := (yX7_plan, cX7_plan, 3, some .int, 1, 7, 2, kX7_plan)
def nX7_cost : xI := (yX7_cost, cX7_cost, 2, some .int, 1, 7, 1, kX7_cost)
def nX7_seasonsOf : xI := (yX7_seasonsOf, cX7_seasonsOf, 4, some .int, 1, 7, 1, kX7_seasonsOf)
def nX7_spent : xI := (yX7_spent, cX7_spent, 6, some .int, 1, 7, 2, kX7_spent)
def nX7_shown : xI := (yX7_shown, cX7_shown, 4, some .int, 1, 7, 1, kX7_shown)
def nX7_manyOf : xI := (yX7_manyOf, cX7_manyOf, 4, some .int, 1, 7, 1, kX7_manyOf)
def nX7_often : xI := (yX7_often, cX7_often, 7, some .int, 1, 7, 1, kX7_often)
def nX7_needed : xI := (yX7_needed, cX7_needed, 1, some .int, 1, 7, 0, kX7_needed)
def nX7_without : xI := (yX7_without, cX7_without, 2, some .int, 1, 7, 1, kX7_without)
def nX7_dearth : xI := (yX7_dearth, cX7_dearth, 4, some .int, 1, 7, 1, kX7_dearth)
def nX7_sees : xI := (yX7_sees, cX7_sees, 2, some .int, 1, 7, 1, kX7_sees)
def nX7_forget : xI := (yX7_forget, cX7_forget, 2, some .int, 1, 7, 0, kX7_forget)
def nX7_unseen : xI := (yX7_unseen, cX7_unseen, 6, some .int, 1, 7, 0, kX7_unseen)
def nX7_keep : xI := (yX7_keep, cX7_keep, 3, some .int, 1, 7, 1, kX7_keep)
def nX7_back : xI := (yX7_back, cX7_back, 3, some .int, 1, 7, 1, kX7_back)
def nX7_count : xI := (yX7_count, cX7_count, 5, some .int, 1, 7, 1, kX7_count)
def nJ6_bitCount : xI := (yJ6_bitCount_0f7a4, cJ6_bitCount_0f7a4, 1, some .int, 0, 8, 1, kJ6_bitCount)
def nJ7_fill : xI := (yJ7_fill_53178, cJ7_fill_53178, 4, none, 0, 10, 2, kJ7_fill)
def x_inf : List xI := [nX0_init, nX0_known, nX0_loseAll, nX0_remember, nX0_restore, nX1_init, nX1_place, nX1_readAll, nX1_readItem, nX1_readCases, nX1_readLights, nX1_readThing, nX1_readBarred, nX1_readLoan, nX1_nextIsEnd, nX1_nextIsNumber, nX1_isNumber, nX1_advance, nX1_advanceOverNumber, nX1_isFigure, nX1_isSign, nX2_init, nX2_bestMost, nX2_copyBestTo, nX2_canBeFilled, nX2_fewestChanges, nX2_prepare, nX2_openSeason, nX2_withPartner, nX2_thingsThatBear, nX2_countRuns, nX2_leavesAt, nX2_fill, nX2_besideFirst, nX2_place, nX2_changesBeside, nX2_take, nX3_init, nX3_beAsAtFirst, nX3_takeFrom, nX3_slotOf, nX3_rankByLight, nX3_lightOver, nX4_init, nX4_beAsAtFirst, nX4_takeFrom, nX4_loanAsNumber, nX4_awayNow, nX4_wantedNow, nX4_barredNow, nX4_isBarred, nX4_turnPair, nX4_barredPairs, nX4_isOn, nX5_init, nX5_growStale, nX5_hasPlan, nX5_changesNow, nX5_changesWithout, nX5_mostLight, nX5_thingIn, nX5_thingsIn, nX5_seasonsOf, nX5_thingOfRank, nX5_rankOf, nX5_leastMore, nX6_init, nX6_type, nX6_clear, nX6_house, nX6_thing, nX6_light, nX6_down, nX6_sets, nX6_lends, nX6_pairs, nX6_rules, nX6_undo, nX6_plan, nX6_cost, nX6_spent, nX6_shown, nX6_often, nX6_needed, nX6_dearth, nX6_sees, nX6_forget, nX6_unseen, nX6_keep, nX6_back, nX6_count, nX6_isThing, nX6_isSeason, nX6_isCase, nX6_rememberWishes, nX6_isAllThatWasSeen, nX7_init, nX7_in, nX7_has, nX7_type, nX7_clear, nX7_letterAt, nX7_advances, nX7_isWell, nX7_takes, nX7_number, nX7_begins, nX7_mayBegin, nX7_readsLights, nX7_readsItem, nX7_house, nX7_settles, nX7_isThing, nX7_isSeason, nX7_isCase, nX7_thing, nX7_light, nX7_down, nX7_notes, nX7_sets, nX7_lends, nX7_pairs, nX7_rules, nX7_undo, nX7_isOn, nX7_mayStand, nX7_changeAt, nX7_fits, nX7_weighs, nX7_tries, nX7_isPlan, nX7_plan, nX7_cost, nX7_seasonsOf, nX7_spent, nX7_shown, nX7_manyOf, nX7_often, nX7_needed, nX7_without, nX7_dearth, nX7_sees, nX7_forget, nX7_unseen, nX7_keep, nX7_back, nX7_count, nJ6_bitCount, nJ7_fill]
set_option maxRecDepth 100000 in
theorem x_mt_eq : x_mt = x_inf.map (fun q => (q.2.2.1, q.2.2.2.2.2.2.2)) := rfl
/-- links, by own class and index, with the place of their word in lw_tbl -/
def x_FL : List (Nat × Nat × Nat × Nat × Nat) := [(3, 21, 3, 0, 88), (1, 81, 3, 0, 89), (2, 95, 3, 0, 90), (5, 86, 3, 0, 91), (6, 182, 3, 0, 92), (3, 25, 3, 1, 93), (2, 84, 3, 1, 94), (1, 103, 3, 1, 95), (5, 80, 3, 1, 96), (6, 188, 3, 1, 97), (3, 28, 3, 2, 98), (1, 91, 3, 2, 99), (2, 89, 3, 2, 100), (5, 71, 3, 2, 101), (6, 191, 3, 2, 102), (3, 9, 3, 3, 103), (6, 96, 3, 3, 104), (2, 104, 3, 3, 105), (1, 106, 3, 3, 106), (3, 15, 3, 4, 107), (6, 111, 3, 4, 108), (1, 100, 3, 4, 109), (2, 123, 3, 4, 110), (4, 9, 4, 0, 134), (6, 117, 4, 0, 135), (4, 15, 4, 1, 136), (6, 99, 4, 1, 137), (1, 116, 4, 1, 138), (4, 18, 4, 2, 139), (6, 102, 4, 2, 140), (1, 119, 4, 2, 141), (4, 21, 4, 3, 142), (6, 105, 4, 3, 143), (4, 33, 4, 4, 144), (6, 138, 4, 4, 145), (1, 12, 1, 0, 167), (6, 77, 1, 0, 168), (1, 21, 1, 1, 169), (6, 82, 1, 1, 170), (1, 25, 1, 2, 171), (1, 39, 1, 3, 172), (1, 42, 1, 4, 173), (1, 29, 1, 5, 174), (1, 59, 1, 6, 175), (1, 88, 1, 7, 176), (1, 45, 1, 8, 177), (1, 49, 1, 9, 178), (0, 11, 0, 0, 209), (0, 17, 0, 1, 210), (0, 21, 0, 2, 211), (2, 39, 2, 0, 231), (2, 43, 2, 1, 232), (2, 9, 2, 2, 233), (2, 15, 2, 3, 234), (2, 18, 2, 4, 235), (2, 21, 2, 5, 236), (2, 24, 2, 6, 237), (2, 27, 2, 7, 238), (2, 30, 2, 8, 239), (2, 33, 2, 9, 240), (2, 36, 2, 10, 241), (2, 92, 2, 11, 242), (2, 67, 2, 12, 243), (2, 78, 2, 13, 244), (2, 75, 2, 14, 245), (2, 47, 2, 15, 246), (2, 81, 2, 16, 247), (5, 22, 5, 0, 283), (5, 26, 5, 1, 284), (5, 35, 5, 2, 285), (5, 9, 5, 3, 286), (5, 15, 5, 4, 287), (5, 18, 5, 5, 288), (5, 54, 5, 6, 289), (6, 9, 6, 0, 305), (6, 13, 6, 1, 306), (6, 20, 6, 2, 307), (6, 27, 6, 3, 308), (6, 36, 6, 4, 309), (6, 43, 6, 5, 310), (6, 47, 6, 6, 311), (6, 51, 6, 7, 312), (6, 54, 6, 8, 313), (6, 57, 6, 9, 314), (6, 65, 6, 10, 315), (7, 62, 7, 0, 735), (7, 7, 7, 1, 736), (7, 70, 7, 2, 737), (7, 73, 7, 3, 738), (7, 83, 7, 4, 739), (7, 80, 7, 5, 740), (7, 86, 7, 6, 741), (7, 89, 7, 7, 742), (7, 137, 7, 8, 743), (7, 140, 7, 9, 744), (7, 143, 7, 10, 745), (7, 13, 7, 11, 746), (7, 16, 7, 12, 747), (7, 103, 7, 13, 748), (7, 106, 7, 14, 749), (7, 109, 7, 15, 750), (7, 112, 7, 16, 751), (7, 116, 7, 17, 752), (7, 19, 7, 18, 753), (7, 22, 7, 19, 754), (7, 25, 7, 20, 755), (7, 28, 7, 21, 756), (7, 31, 7, 22, 757), (7, 149, 7, 23, 758), (7, 34, 7, 24, 759), (7, 37, 7, 25, 760), (7, 41, 7, 26, 761), (7, 146, 7, 27, 762), (7, 44, 7, 28, 763), (7, 47, 7, 29, 764), (7, 50, 7, 30, 765), (7, 53, 7, 31, 766), (7, 171, 7, 32, 767), (7, 177, 7, 33, 768)]
def x_ML : List (Nat × Nat × Nat × Nat) := [(6, 19, 37, 77), (3, 18, 38, 81), (3, 31, 148, 85), (6, 26, 43, 125), (4, 24, 44, 129), (4, 27, 148, 133), (6, 33, 5, 159), (1, 11, 37, 164), (1, 20, 43, 166), (6, 42, 0, 202), (0, 24, 43, 208), (6, 62, 54, 221), (5, 32, 21, 227), (6, 69, 7, 351), (1, 56, 17, 360), (1, 122, 19, 364), (1, 126, 18, 367), (1, 129, 20, 371), (1, 62, 8, 374), (1, 66, 9, 378), (1, 84, 15, 382), (1, 97, 16, 386), (1, 94, 14, 390), (1, 69, 10, 394), (1, 72, 11, 398), (1, 75, 12, 402), (1, 109, 50, 406), (1, 112, 51, 410), (1, 78, 13, 414), (6, 73, 6, 418), (6, 78, 39, 422), (6, 83, 45, 429), (6, 86, 2, 434), (6, 89, 55, 438), (6, 92, 91, 446), (6, 108, 92, 454), (6, 114, 93, 462), (6, 120, 40, 466), (6, 124, 94, 474), (6, 197, 3, 478), (0, 25, 45, 482), (6, 127, 46, 488), (6, 130, 51, 496), (6, 134, 50, 497), (6, 141, 53, 502), (6, 144, 1, 510), (6, 147, 4, 514), (6, 150, 56, 522), (5, 39, 57, 526), (5, 43, 24, 530), (2, 63, 26, 534), (2, 98, 53, 538), (2, 107, 49, 539), (4, 43, 53, 543), (2, 111, 41, 544), (2, 114, 40, 548), (2, 117, 27, 549), (2, 126, 29, 553), (2, 129, 47, 557), (2, 132, 48, 561), (2, 135, 28, 565), (2, 120, 30, 569), (2, 138, 148, 573), (2, 143, 31, 574), (2, 71, 32, 579), (2, 147, 36, 583), (2, 151, 33, 588), (2, 154, 34, 592), (2, 158, 35, 596), (5, 47, 25, 603), (5, 51, 22, 607), (5, 57, 23, 611), (5, 61, 148, 615), (6, 154, 60, 616), (6, 157, 57, 624), (6, 160, 59, 625), (6, 164, 62, 634), (5, 83, 61, 638), (5, 76, 40, 642), (6, 167, 42, 643), (6, 170, 61, 651), (6, 173, 63, 656), (5, 89, 64, 660), (5, 67, 62, 664), (5, 92, 147, 665), (6, 176, 65, 675), (5, 97, 53, 679), (6, 179, 58, 684), (6, 185, 95, 700), (6, 194, 52, 716), (4, 47, 147, 720), (7, 56, 106, 727), (7, 59, 111, 731), (7, 66, 97, 843), (7, 96, 102, 854), (7, 76, 101, 858), (7, 92, 103, 862), (7, 130, 107, 866), (7, 99, 104, 870), (7, 133, 109, 874), (7, 119, 105, 878), (7, 123, 108, 882), (7, 126, 98, 886), (7, 152, 112, 893), (7, 156, 113, 901), (7, 159, 114, 909), (7, 162, 118, 917), (7, 192, 130, 941), (7, 188, 129, 945), (7, 180, 127, 949), (7, 168, 125, 953), (7, 165, 124, 957), (7, 174, 126, 961), (7, 184, 128, 965), (7, 196, 133, 978), (7, 199, 136, 990), (7, 202, 139, 1002)]
def x_NL : List (Nat × Nat × Nat × Nat) := [(1, 52, 38, 358), (1, 55, 44, 359)]
def x_CL : List (Nat × Nat × Int32 × Nat) := [(6, 163, -1000000, 633), (8, 265, 1431655765, 668), (8, 266, 858993459, 669), (8, 267, 252645135, 670), (7, 195, -1000000, 977)]
def x_KL : List (Nat × Nat × Nat × Nat) := [(6, 17, 3, 75), (6, 24, 4, 123), (6, 31, 1, 157), (1, 9, 3, 163), (1, 18, 4, 165), (6, 40, 0, 200), (0, 9, 4, 206), (6, 60, 5, 219), (5, 30, 2, 225)]
def x_OL : List (Nat × Nat × Nat) := [(6, 3, 72), (3, 3, 80), (4, 3, 128), (1, 3, 162), (0, 3, 205), (5, 3, 224), (2, 3, 230), (7, 1, 726)]
def x_AL : List (Nat × Nat × Nat) := [(3, 37, 426), (4, 37, 433), (2, 57, 587)]
def x_XL : List (Nat × Nat × Nat × Nat) := [(1, 33, 12, 355), (0, 29, 12, 483), (2, 51, 12, 578), (2, 161, 11, 600)]
def x_PL : List (Nat × Nat × Nat × Nat) := [(204, 60, 203, 0), (513, 60, 511, 512), (437, 60, 435, 436), (481, 60, 479, 480), (517, 60, 515, 516), (161, 59, 160, 0), (421, 59, 419, 420), (354, 59, 352, 353), (377, 59, 376, 4), (381, 59, 380, 5), (397, 59, 396, 9), (401, 59, 400, 10), (405, 59, 404, 11), (417, 59, 416, 12), (393, 59, 392, 8), (385, 59, 384, 6), (389, 59, 388, 7), (363, 59, 362, 2), (370, 59, 369, 3), (366, 59, 365, 0), (373, 59, 372, 0), (229, 62, 228, 0), (610, 62, 608, 609), (614, 62, 612, 613), (533, 62, 531, 532), (606, 62, 604, 605), (537, 62, 536, 17), (552, 62, 551, 18), (568, 62, 567, 20), (556, 62, 555, 19), (572, 62, 571, 21), (577, 62, 576, 22), (582, 62, 581, 23), (591, 62, 590, 25), (595, 62, 594, 26), (599, 62, 598, 27), (586, 62, 585, 24), (79, 56, 78, 0), (84, 56, 83, 0), (425, 56, 423, 424), (469, 56, 467, 468), (547, 56, 545, 546), (646, 56, 644, 645), (127, 58, 126, 0), (132, 58, 131, 1), (432, 58, 430, 431), (491, 58, 489, 490), (560, 58, 558, 559), (564, 58, 562, 563), (542, 58, 540, 541), (409, 58, 407, 408), (413, 58, 411, 412), (719, 58, 717, 718), (505, 58, 503, 504), (223, 61, 222, 0), (441, 61, 439, 440), (525, 61, 523, 524), (529, 61, 527, 528), (687, 61, 685, 686), (628, 61, 626, 627), (619, 61, 617, 618), (641, 61, 639, 640), (637, 61, 635, 636), (659, 61, 657, 658), (663, 61, 662, 28), (678, 61, 676, 677), (71, 55, 70, 0), (342, 55, 340, 341), (346, 55, 344, 345), (350, 55, 348, 349), (445, 55, 443, 444), (453, 55, 451, 452), (461, 55, 459, 460), (473, 55, 471, 472), (487, 55, 485, 486), (495, 55, 493, 494), (501, 55, 499, 500), (509, 55, 507, 508), (521, 55, 519, 520), (623, 55, 621, 622), (632, 55, 630, 631), (650, 55, 648, 649), (655, 55, 653, 654), (674, 55, 672, 673), (683, 55, 681, 682), (691, 55, 689, 690), (695, 55, 693, 694), (699, 55, 697, 698), (707, 55, 705, 706), (711, 55, 709, 710), (715, 55, 713, 714), (449, 55, 448, 13), (457, 55, 456, 14), (465, 55, 464, 15), (477, 55, 476, 16), (703, 55, 702, 29), (725, 63, 724, 0), (845, 63, 844, 0), (888, 63, 887, 0), (842, 63, 840, 841), (849, 63, 847, 848), (861, 63, 860, 33), (857, 63, 856, 32), (865, 63, 864, 34), (873, 63, 872, 36), (881, 63, 880, 38), (730, 63, 729, 30), (869, 63, 868, 35), (885, 63, 884, 39), (877, 63, 876, 37), (853, 63, 851, 852), (734, 63, 733, 31), (896, 63, 895, 40), (904, 63, 903, 41), (912, 63, 911, 42), (892, 63, 890, 891), (900, 63, 898, 899), (908, 63, 906, 907), (920, 63, 919, 43), (916, 63, 914, 915), (924, 63, 922, 923), (928, 63, 926, 927), (932, 63, 930, 931), (936, 63, 934, 935), (960, 63, 959, 48), (956, 63, 955, 47), (964, 63, 963, 49), (952, 63, 951, 46), (968, 63, 967, 50), (948, 63, 947, 45), (944, 63, 943, 44), (940, 63, 938, 939), (972, 63, 970, 971), (981, 63, 980, 51), (976, 63, 974, 975), (985, 63, 983, 984), (993, 63, 992, 52), (989, 63, 987, 988), (997, 63, 995, 996), (1005, 63, 1004, 53), (1001, 63, 999, 1000), (1009, 63, 1007, 1008), (1013, 63, 1011, 1012), (1017, 63, 1015, 1016), (1021, 63, 1019, 1020), (1025, 63, 1023, 1024), (1029, 63, 1027, 1028), (667, 66, 666, 0), (87, 57, 86, 0)]
end
section
/-! the check of an entry against the bytes and the links -/
def x_kd (ci k : Nat) : Nat := (x_kds.getD ci []).getD k 3
def x_cnd : ClassFile.Cond → Nat
  | .eq => 0
  | .ne => 1
  | .lt => 2
  | .ge => 3
  | .gt => 4
  | .le => 5
def x_f3 (l : List (Nat × Nat × Nat × Nat)) (a b c : Nat) : Bool := l.any (fun q => q.1 == a && q.2.1 == b && q.2.2.1 == c)
def x_fit (cn : Nat) (z : Bool) (e : xE) (ins : Instr) : Bool := match e with
  | (pc, op, _, a, b, c, v) => match ins with
    | .iconst n => op == 0 && v == Int32.ofInt n
    | .bipush n => op == 0 && v == (Int8.ofInt n).toInt32
    | .sipush n => op == 0 && v == (Int16.ofInt n).toInt32
    | .ldc i => op == 0 && x_CL.any (fun q => q.1 == cn && q.2.1 == i && q.2.2.1 == v)
    | .ldc_w i => op == 0 && x_CL.any (fun q => q.1 == cn && q.2.1 == i && q.2.2.1 == v)
    | .iload_n k => op == 1 && a == k.val
    | .iload i => op == 1 && a == i
    | .aload_n k => op == 2 && a == k.val
    | .istore_n k => op == 3 && a == k.val
    | .istore i => op == 3 && a == i
    | .astore_n k => op == 4 && a == k.val
    | .iinc i n => op == 5 && a == i && v == Int32.ofInt n
    | .iadd => op == 6 && b == 0
    | .isub => op == 6 && b == 1
    | .imul => op == 6 && b == 2
    | .iand => op == 6 && b == 3
    | .ior => op == 6 && b == 4
    | .ixor => op == 6 && b == 5
    | .ishl => op == 6 && b == 6
    | .ishr => op == 6 && b == 7
    | .iushr => op == 6 && b == 8
    | .idiv => op == 6 && b == 9
    | .irem => op == 6 && b == 10
    | .if_icmp cd off => op == 7 && b == x_cnd cd && (pc : Int) + off == (a : Int)
    | .ifCond cd off => op == 8 && b == x_cnd cd && (pc : Int) + off == (a : Int)
    | .goto off => op == 9 && (pc : Int) + off == (a : Int)
    | .dup => op == 10
    | .dup2 => op == 11
    | .pop => op == 12
    | .getfield i => (op == 13 && (x_kd a b == 0 || x_kd a b == 1) || op == 14 && x_kd a b == 2) && x_FL.any (fun q => q.1 == cn && q.2.1 == i && q.2.2.1 == a && q.2.2.2.1 == b)
    | .putfield i => (op == 15 && x_kd a b == 0 || op == 16 && x_kd a b == 1 || op == 17 && x_kd a b == 2 && z && a == cn) && x_FL.any (fun q => q.1 == cn && q.2.1 == i && q.2.2.1 == a && q.2.2.2.1 == b)
    | .iaload => op == 18
    | .iastore => op == 19
    | .baload => op == 20
    | .bastore => op == 21
    | .aaload => op == 22
    | .aastore => op == 23
    | .arraylength => op == 24
    | .invokestatic i => op == 25 && x_f3 x_ML cn i a && (x_inf[a]?).any (fun q => q.2.2.2.2.1 == 0 && q.2.2.2.2.2.2.1 == b) || op == 33 && x_AL.any (fun q => q.1 == cn && q.2.1 == i) || op == 6 && (b == 11 || b == 12) && x_f3 x_XL cn i b
    | .invokevirtual i => op == 26 && (x_f3 x_ML cn i a || x_f3 x_NL cn i a) && (x_inf[a]?).any (fun q => q.2.2.2.2.1 == 1 && q.2.2.2.2.2.2.1 + 1 == b && q.2.2.2.2.2.1 == c && decide (c < 8))
    | .invokespecial i => op == 26 && x_f3 x_ML cn i a && (x_inf[a]?).any (fun q => q.2.2.2.2.1 == 2 && q.2.2.2.2.2.2.1 + 1 == b && q.2.2.2.2.2.1 == c && decide (c < 8)) || op == 32 && x_OL.any (fun q => q.1 == cn && q.2.1 == i)
    | .ireturn => op == 27
    | .return_ => op == 28
    | .new i => op == 29 && x_f3 x_KL cn i a && decide (a < 8)
    | .newarray .int => op == 30 && b == 1
    | .newarray .boolean => op == 30 && b == 2
    | .anewarray i => op == 31 && a == 4 && x_f3 x_KL cn i 4
    | .tableswitch d lo hi offs => op == 34 && (pc : Int) + d == (a : Int) && (x_sws.getD c []).all (fun q => decide (¬ q.1.toInt < lo) && decide (¬ hi < q.1.toInt) && offs[(q.1.toInt - lo).toNat]? == some ((q.2 : Int) - pc)) && (List.range (hi - lo + 1).toNat).all (fun i => (x_sws.getD c []).any (fun q => q.1.toInt == lo + i))
    | .lookupswitch d ps => op == 34 && (pc : Int) + d == (a : Int) && (x_sws.getD c []).map (fun q => (q.1.toInt, (q.2 : Int) - pc)) == ps.toList && (ps.toList.zip (ps.toList.drop 1)).all (fun (a, next) => a.1 < next.1)
    | _ => false
/-- the lengths that the rows of the kit know -/
def x_len (e : xE) (ins : Instr) (len : Nat) : Bool := e.2.2.1 == e.1 + len && (match ins with
  | .iinc _ _ => len == 3
  | .iload _ => len == 2
  | .istore _ => len == 2
  | .bipush _ => len == 2
  | .sipush _ => len == 3
  | .ldc _ => len == 2
  | .ldc_w _ => len == 3
  | .if_icmp _ _ => len == 3
  | .ifCond _ _ => len == 3
  | .goto _ => len == 3
  | .getfield _ => len == 3
  | .putfield _ => len == 3
  | .invokestatic _ => len == 3
  | .invokevirtual _ => len == 3
  | .invokespecial _ => len == 3
  | .new _ => len == 3
  | .newarray _ => len == 2
  | .anewarray _ => len == 3
  | .tableswitch _ _ _ _ => true
  | .lookupswitch _ _ => true
  | _ => len == 1)
def x_chk (q : xI) (e : xE) : Bool := match decode q.2.1 e.1 with
  | .ok (ins, len) => x_len e ins len && x_fit q.2.2.2.2.2.1 (q.1.name == "<init>") e ins && (match ins with
    | .ireturn => (q.2.2.2.1 == some .int && e.2.2.2.2.1 == 0) || (q.2.2.2.1 == some .boolean && e.2.2.2.2.1 == 1)
    | .return_ => q.2.2.2.1 == none
    | _ => true)
  | .error _ => false
def x_good (q : xI) : Bool := plainName q.1.cls && (q.1.cls == x_cn.getD q.2.2.2.2.2.1 "") && !(q.1.cls == "java/lang/invoke/MethodHandle") && !(q.1.cls == "java/lang/invoke/VarHandle") && (parseMethodDescriptor q.1.desc).map (fun d => d.parameters.length) == some q.2.2.2.2.2.2.1 && (q.2.2.2.2.1 != 2 || (q.1.name == "<init>" && q.2.2.2.1 == none)) && q.2.2.2.2.2.2.2.all (x_chk q) && decide (q.2.2.1 ≤ 20) && decide ((if q.2.2.2.2.1 = 0 then q.2.2.2.2.2.2.1 else q.2.2.2.2.2.2.1 + 1) ≤ q.2.2.1)
end
section
theorem gX0_init : x_good nX0_init = true := by decide +kernel
theorem gX0_known : x_good nX0_known = true := by decide +kernel
theorem gX0_loseAll : x_good nX0_loseAll = true := by decide +kernel
theorem gX0_remember : x_good nX0_remember = true := by decide +kernel
theorem gX0_restore : x_good nX0_restore = true := by decide +kernel
theorem gX1_init : x_good nX1_init = true := by decide +kernel
theorem gX1_place : x_good nX1_place = true := by decide +kernel
theorem gX1_readAll : x_good nX1_readAll = true := by decide +kernel
theorem gX1_readItem : x_good nX1_readItem = true := by decide +kernel
theorem gX1_readCases : x_good nX1_readCases = true := by decide +kernel
theorem gX1_readLights : x_good nX1_readLights = true := by decide +kernel
theorem gX1_readThing : x_good nX1_readThing = true := by decide +kernel
theorem gX1_readBarred : x_good nX1_readBarred = true := by decide +kernel
theorem gX1_readLoan : x_good nX1_readLoan = true := by decide +kernel
theorem gX1_nextIsEnd : x_good nX1_nextIsEnd = true := by decide +kernel
theorem gX1_nextIsNumber : x_good nX1_nextIsNumber = true := by decide +kernel
theorem gX1_isNumber : x_good nX1_isNumber = true := by decide +kernel
theorem gX1_advance : x_good nX1_advance = true := by decide +kernel
theorem gX1_advanceOverNumber : x_good nX1_advanceOverNumber = true := by decide +kernel
theorem gX1_isFigure : x_good nX1_isFigure = true := by decide +kernel
theorem gX1_isSign : x_good nX1_isSign = true := by decide +kernel
theorem gX2_init : x_good nX2_init = true := by decide +kernel
theorem gX2_bestMost : x_good nX2_bestMost = true := by decide +kernel
theorem gX2_copyBestTo : x_good nX2_copyBestTo = true := by decide +kernel
theorem gX2_canBeFilled : x_good nX2_canBeFilled = true := by decide +kernel
theorem gX2_fewestChanges : x_good nX2_fewestChanges = true := by decide +kernel
theorem gX2_prepare : x_good nX2_prepare = true := by decide +kernel
theorem gX2_openSeason : x_good nX2_openSeason = true := by decide +kernel
theorem gX2_withPartner : x_good nX2_withPartner = true := by decide +kernel
theorem gX2_thingsThatBear : x_good nX2_thingsThatBear = true := by decide +kernel
theorem gX2_countRuns : x_good nX2_countRuns = true := by decide +kernel
theorem gX2_leavesAt : x_good nX2_leavesAt = true := by decide +kernel
theorem gX2_fill : x_good nX2_fill = true := by decide +kernel
theorem gX2_besideFirst : x_good nX2_besideFirst = true := by decide +kernel
theorem gX2_place : x_good nX2_place = true := by decide +kernel
theorem gX2_changesBeside : x_good nX2_changesBeside = true := by decide +kernel
theorem gX2_take : x_good nX2_take = true := by decide +kernel
theorem gX3_init : x_good nX3_init = true := by decide +kernel
theorem gX3_beAsAtFirst : x_good nX3_beAsAtFirst = true := by decide +kernel
theorem gX3_takeFrom : x_good nX3_takeFrom = true := by decide +kernel
theorem gX3_slotOf : x_good nX3_slotOf = true := by decide +kernel
theorem gX3_rankByLight : x_good nX3_rankByLight = true := by decide +kernel
theorem gX3_lightOver : x_good nX3_lightOver = true := by decide +kernel
theorem gX4_init : x_good nX4_init = true := by decide +kernel
theorem gX4_beAsAtFirst : x_good nX4_beAsAtFirst = true := by decide +kernel
theorem gX4_takeFrom : x_good nX4_takeFrom = true := by decide +kernel
theorem gX4_loanAsNumber : x_good nX4_loanAsNumber = true := by decide +kernel
theorem gX4_awayNow : x_good nX4_awayNow = true := by decide +kernel
theorem gX4_wantedNow : x_good nX4_wantedNow = true := by decide +kernel
end
section
theorem gX4_barredNow : x_good nX4_barredNow = true := by decide +kernel
theorem gX4_isBarred : x_good nX4_isBarred = true := by decide +kernel
theorem gX4_turnPair : x_good nX4_turnPair = true := by decide +kernel
theorem gX4_barredPairs : x_good nX4_barredPairs = true := by decide +kernel
theorem gX4_isOn : x_good nX4_isOn = true := by decide +kernel
theorem gX5_init : x_good nX5_init = true := by decide +kernel
theorem gX5_growStale : x_good nX5_growStale = true := by decide +kernel
theorem gX5_hasPlan : x_good nX5_hasPlan = true := by decide +kernel
theorem gX5_changesNow : x_good nX5_changesNow = true := by decide +kernel
theorem gX5_changesWithout : x_good nX5_changesWithout = true := by decide +kernel
theorem gX5_mostLight : x_good nX5_mostLight = true := by decide +kernel
theorem gX5_thingIn : x_good nX5_thingIn = true := by decide +kernel
theorem gX5_thingsIn : x_good nX5_thingsIn = true := by decide +kernel
theorem gX5_seasonsOf : x_good nX5_seasonsOf = true := by decide +kernel
theorem gX5_thingOfRank : x_good nX5_thingOfRank = true := by decide +kernel
theorem gX5_rankOf : x_good nX5_rankOf = true := by decide +kernel
theorem gX5_leastMore : x_good nX5_leastMore = true := by decide +kernel
theorem gX6_init : x_good nX6_init = true := by decide +kernel
theorem gX6_type : x_good nX6_type = true := by decide +kernel
theorem gX6_clear : x_good nX6_clear = true := by decide +kernel
theorem gX6_house : x_good nX6_house = true := by decide +kernel
theorem gX6_thing : x_good nX6_thing = true := by decide +kernel
theorem gX6_light : x_good nX6_light = true := by decide +kernel
theorem gX6_down : x_good nX6_down = true := by decide +kernel
theorem gX6_sets : x_good nX6_sets = true := by decide +kernel
theorem gX6_lends : x_good nX6_lends = true := by decide +kernel
theorem gX6_pairs : x_good nX6_pairs = true := by decide +kernel
theorem gX6_rules : x_good nX6_rules = true := by decide +kernel
theorem gX6_undo : x_good nX6_undo = true := by decide +kernel
theorem gX6_plan : x_good nX6_plan = true := by decide +kernel
theorem gX6_cost : x_good nX6_cost = true := by decide +kernel
theorem gX6_spent : x_good nX6_spent = true := by decide +kernel
theorem gX6_shown : x_good nX6_shown = true := by decide +kernel
theorem gX6_often : x_good nX6_often = true := by decide +kernel
theorem gX6_needed : x_good nX6_needed = true := by decide +kernel
theorem gX6_dearth : x_good nX6_dearth = true := by decide +kernel
theorem gX6_sees : x_good nX6_sees = true := by decide +kernel
theorem gX6_forget : x_good nX6_forget = true := by decide +kernel
theorem gX6_unseen : x_good nX6_unseen = true := by decide +kernel
theorem gX6_keep : x_good nX6_keep = true := by decide +kernel
theorem gX6_back : x_good nX6_back = true := by decide +kernel
theorem gX6_count : x_good nX6_count = true := by decide +kernel
theorem gX6_isThing : x_good nX6_isThing = true := by decide +kernel
theorem gX6_isSeason : x_good nX6_isSeason = true := by decide +kernel
theorem gX6_isCase : x_good nX6_isCase = true := by decide +kernel
theorem gX6_rememberWishes : x_good nX6_rememberWishes = true := by decide +kernel
theorem gX6_isAllThatWasSeen : x_good nX6_isAllThatWasSeen = true := by decide +kernel
theorem gX7_init : x_good nX7_init = true := by decide +kernel
theorem gX7_in : x_good nX7_in = true := by decide +kernel
theorem gX7_has : x_good nX7_has = true := by decide +kernel
end
section
theorem gX7_type : x_good nX7_type = true := by decide +kernel
theorem gX7_clear : x_good nX7_clear = true := by decide +kernel
theorem gX7_letterAt : x_good nX7_letterAt = true := by decide +kernel
theorem gX7_advances : x_good nX7_advances = true := by decide +kernel
theorem gX7_isWell : x_good nX7_isWell = true := by decide +kernel
theorem gX7_takes : x_good nX7_takes = true := by decide +kernel
theorem gX7_number : x_good nX7_number = true := by decide +kernel
theorem gX7_begins : x_good nX7_begins = true := by decide +kernel
theorem gX7_mayBegin : x_good nX7_mayBegin = true := by decide +kernel
theorem gX7_readsLights : x_good nX7_readsLights = true := by decide +kernel
theorem gX7_readsItem : x_good nX7_readsItem = true := by decide +kernel
theorem gX7_house : x_good nX7_house = true := by decide +kernel
theorem gX7_settles : x_good nX7_settles = true := by decide +kernel
theorem gX7_isThing : x_good nX7_isThing = true := by decide +kernel
theorem gX7_isSeason : x_good nX7_isSeason = true := by decide +kernel
theorem gX7_isCase : x_good nX7_isCase = true := by decide +kernel
theorem gX7_thing : x_good nX7_thing = true := by decide +kernel
theorem gX7_light : x_good nX7_light = true := by decide +kernel
theorem gX7_down : x_good nX7_down = true := by decide +kernel
theorem gX7_notes : x_good nX7_notes = true := by decide +kernel
theorem gX7_sets : x_good nX7_sets = true := by decide +kernel
theorem gX7_lends : x_good nX7_lends = true := by decide +kernel
theorem gX7_pairs : x_good nX7_pairs = true := by decide +kernel
theorem gX7_rules : x_good nX7_rules = true := by decide +kernel
theorem gX7_undo : x_good nX7_undo = true := by decide +kernel
theorem gX7_isOn : x_good nX7_isOn = true := by decide +kernel
theorem gX7_mayStand : x_good nX7_mayStand = true := by decide +kernel
theorem gX7_changeAt : x_good nX7_changeAt = true := by decide +kernel
theorem gX7_fits : x_good nX7_fits = true := by decide +kernel
theorem gX7_weighs : x_good nX7_weighs = true := by decide +kernel
theorem gX7_tries : x_good nX7_tries = true := by decide +kernel
theorem gX7_isPlan : x_good nX7_isPlan = true := by decide +kernel
theorem gX7_plan : x_good nX7_plan = true := by decide +kernel
theorem gX7_cost : x_good nX7_cost = true := by decide +kernel
theorem gX7_seasonsOf : x_good nX7_seasonsOf = true := by decide +kernel
theorem gX7_spent : x_good nX7_spent = true := by decide +kernel
theorem gX7_shown : x_good nX7_shown = true := by decide +kernel
theorem gX7_manyOf : x_good nX7_manyOf = true := by decide +kernel
theorem gX7_often : x_good nX7_often = true := by decide +kernel
theorem gX7_needed : x_good nX7_needed = true := by decide +kernel
theorem gX7_without : x_good nX7_without = true := by decide +kernel
theorem gX7_dearth : x_good nX7_dearth = true := by decide +kernel
theorem gX7_sees : x_good nX7_sees = true := by decide +kernel
theorem gX7_forget : x_good nX7_forget = true := by decide +kernel
theorem gX7_unseen : x_good nX7_unseen = true := by decide +kernel
theorem gX7_keep : x_good nX7_keep = true := by decide +kernel
theorem gX7_back : x_good nX7_back = true := by decide +kernel
theorem gX7_count : x_good nX7_count = true := by decide +kernel
theorem gJ6_bitCount : x_good nJ6_bitCount = true := by decide +kernel
theorem gJ7_fill : x_good nJ7_fill = true := by decide +kernel
end
section
theorem x_all_good : ∀ (i : Nat) (q : xI), x_inf[i]? = some q → x_good q = true := by
  have h : ∀ q ∈ x_inf, x_good q = true := by
    unfold x_inf
    simp only [List.forall_mem_cons, List.not_mem_nil, false_implies, implies_true, and_true]
    exact ⟨gX0_init, gX0_known, gX0_loseAll, gX0_remember, gX0_restore, gX1_init, gX1_place, gX1_readAll, gX1_readItem, gX1_readCases, gX1_readLights, gX1_readThing, gX1_readBarred, gX1_readLoan, gX1_nextIsEnd, gX1_nextIsNumber, gX1_isNumber, gX1_advance, gX1_advanceOverNumber, gX1_isFigure, gX1_isSign, gX2_init, gX2_bestMost, gX2_copyBestTo, gX2_canBeFilled, gX2_fewestChanges, gX2_prepare, gX2_openSeason, gX2_withPartner, gX2_thingsThatBear, gX2_countRuns, gX2_leavesAt, gX2_fill, gX2_besideFirst, gX2_place, gX2_changesBeside, gX2_take, gX3_init, gX3_beAsAtFirst, gX3_takeFrom, gX3_slotOf, gX3_rankByLight, gX3_lightOver, gX4_init, gX4_beAsAtFirst, gX4_takeFrom, gX4_loanAsNumber, gX4_awayNow, gX4_wantedNow, gX4_barredNow, gX4_isBarred, gX4_turnPair, gX4_barredPairs, gX4_isOn, gX5_init, gX5_growStale, gX5_hasPlan, gX5_changesNow, gX5_changesWithout, gX5_mostLight, gX5_thingIn, gX5_thingsIn, gX5_seasonsOf, gX5_thingOfRank, gX5_rankOf, gX5_leastMore, gX6_init, gX6_type, gX6_clear, gX6_house, gX6_thing, gX6_light, gX6_down, gX6_sets, gX6_lends, gX6_pairs, gX6_rules, gX6_undo, gX6_plan, gX6_cost, gX6_spent, gX6_shown, gX6_often, gX6_needed, gX6_dearth, gX6_sees, gX6_forget, gX6_unseen, gX6_keep, gX6_back, gX6_count, gX6_isThing, gX6_isSeason, gX6_isCase, gX6_rememberWishes, gX6_isAllThatWasSeen, gX7_init, gX7_in, gX7_has, gX7_type, gX7_clear, gX7_letterAt, gX7_advances, gX7_isWell, gX7_takes, gX7_number, gX7_begins, gX7_mayBegin, gX7_readsLights, gX7_readsItem, gX7_house, gX7_settles, gX7_isThing, gX7_isSeason, gX7_isCase, gX7_thing, gX7_light, gX7_down, gX7_notes, gX7_sets, gX7_lends, gX7_pairs, gX7_rules, gX7_undo, gX7_isOn, gX7_mayStand, gX7_changeAt, gX7_fits, gX7_weighs, gX7_tries, gX7_isPlan, gX7_plan, gX7_cost, gX7_seasonsOf, gX7_spent, gX7_shown, gX7_manyOf, gX7_often, gX7_needed, gX7_without, gX7_dearth, gX7_sees, gX7_forget, gX7_unseen, gX7_keep, gX7_back, gX7_count, gJ6_bitCount, gJ7_fill⟩
  exact fun i q hq => h q (List.mem_of_getElem? hq)
end
section
/-! the words of the tables that the entries stand on -/
def x_tb : List Cond := lw_tbl.filter goodWord
theorem x_tb_in {w : Cond} {i : Nat} (h : lw_tbl[i]? = some w) (hg : goodWord w = true) : w ∈ x_tb := List.mem_filter.mpr ⟨List.mem_of_getElem? h, hg⟩
def x_C (ci : Nat) : vw_C := x_cl.getD ci (RX0, TX0, 0)
def x_T (ci k : Nat) : String × String × String × Bool := (x_C ci).2.1 k
def x_N (cn : Nat) : String := x_cn.getD cn ""
def x_Y (i : Nat) : MethodName := (x_inf.getD i nX0_init).1
def x_ok1 (w : Cond) (i : Nat) : Bool := decide (lw_tbl[i]? = some w) && goodWord w
theorem x_ok1_in {w : Cond} {i : Nat} (h : x_ok1 w i = true) : w ∈ x_tb := by
  simp only [x_ok1, Bool.and_eq_true, decide_eq_true_eq] at h
  exact x_tb_in h.1 h.2
def x_wF (q : Nat × Nat × Nat × Nat × Nat) : Cond := .fieldLink (x_N q.1) q.2.1 (x_T q.2.2.1 q.2.2.2.1).1 (x_T q.2.2.1 q.2.2.2.1).2.1 (x_T q.2.2.1 q.2.2.2.1).2.2.1
theorem x_FL_ok : x_FL.all (fun q => x_ok1 (x_wF q) q.2.2.2.2 && decide (q.2.2.2.1 < (x_C q.2.2.1).2.2) && decide (q.2.2.1 < 8)) = true := by decide +kernel
def x_wM (q : Nat × Nat × Nat × Nat) : Cond := .methodLink (x_N q.1) q.2.1 (x_Y q.2.2.1)
theorem x_ML_ok : x_ML.all (fun q => x_ok1 (x_wM q) q.2.2.2) = true := by decide +kernel
def x_wC (q : Nat × Nat × Int32 × Nat) : Cond := .constant (x_N q.1) q.2.1 q.2.2.1
theorem x_CL_ok : x_CL.all (fun q => x_ok1 (x_wC q) q.2.2.2) = true := by decide +kernel
def x_wK (q : Nat × Nat × Nat × Nat) : Cond := .classLink (x_N q.1) q.2.1 (x_N q.2.2.1)
theorem x_KL_ok : x_KL.all (fun q => x_ok1 (x_wK q) q.2.2.2) = true := by decide +kernel
theorem x_OL_ok : x_OL.all (fun q => x_ok1 (.methodLink (x_N q.1) q.2.1 Lib.objectInit) q.2.2) = true := by decide +kernel
theorem x_AL_ok : x_AL.all (fun q => x_ok1 (.methodLink (x_N q.1) q.2.1 arraycopyName) q.2.2) = true := by decide +kernel
theorem x_XL_ok : x_XL.all (fun q => x_ok1 (.methodLink (x_N q.1) q.2.1 (if q.2.2.1 = 11 then Lib.Math.max.name else Lib.Math.min.name)) q.2.2.2) = true := by decide +kernel
def x_wP (q : xI) (r : Nat × Nat × Nat × Nat) : Bool := x_ok1 (.code q.1 q.2.1 q.2.2.1 q.2.2.2.1) r.1 && x_ok1 (.initialized q.1.cls) r.2.1 && x_ok1 (if q.2.2.2.2.1 = 0 then .static q.1 else .instanceMethod q.1) r.2.2.1 && (q.2.2.2.2.1 != 1 || x_ok1 (.selects q.1.cls q.1 q.1) r.2.2.2)
def x_in8 (ci : Nat) : Bool := (u_ws (x_C ci).1 (x_C ci).2.1 (x_C ci).2.2).all (fun w => decide (w ∈ lw_tbl) && goodWord w)
theorem x_in8_0 : x_in8 0 = true := by decide +kernel
theorem x_in8_1 : x_in8 1 = true := by decide +kernel
theorem x_in8_2 : x_in8 2 = true := by decide +kernel
theorem x_in8_3 : x_in8 3 = true := by decide +kernel
theorem x_in8_4 : x_in8 4 = true := by decide +kernel
theorem x_in8_5 : x_in8 5 = true := by decide +kernel
theorem x_in8_6 : x_in8 6 = true := by decide +kernel
theorem x_in8_7 : x_in8 7 = true := by decide +kernel
theorem x_new_ok : (List.range 8).all (fun i => x_ok1 (.instantiable (x_C i).1 (x_C i).2.2) ([201, 158, 226, 76, 124, 220, 68, 722].getD i 0) && x_ok1 (.initialized (x_C i).1) ([60, 59, 62, 56, 58, 61, 55, 63].getD i 0) && decide ((x_C i).1 = x_N i)) = true := by decide +kernel
theorem x_obj_ok : x_ok1 (.instanceMethod Lib.objectInit) 73 = true ∧ x_ok1 (.code Lib.objectInit ⟨#[0xb1]⟩ 1 none) 74 = true := by decide +kernel
theorem x_cpy_ok : x_ok1 (.native arraycopyName) 428 = true ∧ x_ok1 (.static arraycopyName) 427 = true ∧ x_ok1 (.initialized "java/lang/System") 65 = true := by decide +kernel
theorem x_mth_ok : x_ok1 (.initialized "java/lang/Math") 64 = true ∧ x_ok1 (.static Lib.Math.max.name) 601 = true ∧ x_ok1 (.code Lib.Math.max.name Lib.Math.max.code 2 (some .int)) 602 = true ∧ x_ok1 (.static Lib.Math.min.name) 356 = true ∧ x_ok1 (.code Lib.Math.min.name Lib.Math.min.code 2 (some .int)) 357 = true := by decide +kernel
theorem x_arr_ok : x_ok1 (.arrayClass .int) 122 = true ∧ x_ok1 (.arrayClass .boolean) 838 = true := by decide +kernel
theorem x_nest_ok : lw_tbl[358]? = some (.methodLinkNest (x_N 1) 52 (x_Y 38) "MuseumYear") ∧ lw_tbl[359]? = some (.methodLinkNest (x_N 1) 55 (x_Y 44) "MuseumYear") ∧ lw_tbl[207]? = some (.arrayOver (.object RX4)) := by decide +kernel
end
section
theorem hX0_init : x_wP nX0_init (x_PL.getD 0 (0, 0, 0, 0)) = true := by decide +kernel
theorem hX0_known : x_wP nX0_known (x_PL.getD 1 (0, 0, 0, 0)) = true := by decide +kernel
theorem hX0_loseAll : x_wP nX0_loseAll (x_PL.getD 2 (0, 0, 0, 0)) = true := by decide +kernel
theorem hX0_remember : x_wP nX0_remember (x_PL.getD 3 (0, 0, 0, 0)) = true := by decide +kernel
theorem hX0_restore : x_wP nX0_restore (x_PL.getD 4 (0, 0, 0, 0)) = true := by decide +kernel
theorem hX1_init : x_wP nX1_init (x_PL.getD 5 (0, 0, 0, 0)) = true := by decide +kernel
theorem hX1_place : x_wP nX1_place (x_PL.getD 6 (0, 0, 0, 0)) = true := by decide +kernel
theorem hX1_readAll : x_wP nX1_readAll (x_PL.getD 7 (0, 0, 0, 0)) = true := by decide +kernel
theorem hX1_readItem : x_wP nX1_readItem (x_PL.getD 8 (0, 0, 0, 0)) = true := by decide +kernel
theorem hX1_readCases : x_wP nX1_readCases (x_PL.getD 9 (0, 0, 0, 0)) = true := by decide +kernel
theorem hX1_readLights : x_wP nX1_readLights (x_PL.getD 10 (0, 0, 0, 0)) = true := by decide +kernel
theorem hX1_readThing : x_wP nX1_readThing (x_PL.getD 11 (0, 0, 0, 0)) = true := by decide +kernel
theorem hX1_readBarred : x_wP nX1_readBarred (x_PL.getD 12 (0, 0, 0, 0)) = true := by decide +kernel
theorem hX1_readLoan : x_wP nX1_readLoan (x_PL.getD 13 (0, 0, 0, 0)) = true := by decide +kernel
theorem hX1_nextIsEnd : x_wP nX1_nextIsEnd (x_PL.getD 14 (0, 0, 0, 0)) = true := by decide +kernel
theorem hX1_nextIsNumber : x_wP nX1_nextIsNumber (x_PL.getD 15 (0, 0, 0, 0)) = true := by decide +kernel
theorem hX1_isNumber : x_wP nX1_isNumber (x_PL.getD 16 (0, 0, 0, 0)) = true := by decide +kernel
theorem hX1_advance : x_wP nX1_advance (x_PL.getD 17 (0, 0, 0, 0)) = true := by decide +kernel
theorem hX1_advanceOverNumber : x_wP nX1_advanceOverNumber (x_PL.getD 18 (0, 0, 0, 0)) = true := by decide +kernel
theorem hX1_isFigure : x_wP nX1_isFigure (x_PL.getD 19 (0, 0, 0, 0)) = true := by decide +kernel
theorem hX1_isSign : x_wP nX1_isSign (x_PL.getD 20 (0, 0, 0, 0)) = true := by decide +kernel
theorem hX2_init : x_wP nX2_init (x_PL.getD 21 (0, 0, 0, 0)) = true := by decide +kernel
theorem hX2_bestMost : x_wP nX2_bestMost (x_PL.getD 22 (0, 0, 0, 0)) = true := by decide +kernel
theorem hX2_copyBestTo : x_wP nX2_copyBestTo (x_PL.getD 23 (0, 0, 0, 0)) = true := by decide +kernel
theorem hX2_canBeFilled : x_wP nX2_canBeFilled (x_PL.getD 24 (0, 0, 0, 0)) = true := by decide +kernel
theorem hX2_fewestChanges : x_wP nX2_fewestChanges (x_PL.getD 25 (0, 0, 0, 0)) = true := by decide +kernel
theorem hX2_prepare : x_wP nX2_prepare (x_PL.getD 26 (0, 0, 0, 0)) = true := by decide +kernel
theorem hX2_openSeason : x_wP nX2_openSeason (x_PL.getD 27 (0, 0, 0, 0)) = true := by decide +kernel
theorem hX2_withPartner : x_wP nX2_withPartner (x_PL.getD 28 (0, 0, 0, 0)) = true := by decide +kernel
theorem hX2_thingsThatBear : x_wP nX2_thingsThatBear (x_PL.getD 29 (0, 0, 0, 0)) = true := by decide +kernel
theorem hX2_countRuns : x_wP nX2_countRuns (x_PL.getD 30 (0, 0, 0, 0)) = true := by decide +kernel
theorem hX2_leavesAt : x_wP nX2_leavesAt (x_PL.getD 31 (0, 0, 0, 0)) = true := by decide +kernel
theorem hX2_fill : x_wP nX2_fill (x_PL.getD 32 (0, 0, 0, 0)) = true := by decide +kernel
theorem hX2_besideFirst : x_wP nX2_besideFirst (x_PL.getD 33 (0, 0, 0, 0)) = true := by decide +kernel
theorem hX2_place : x_wP nX2_place (x_PL.getD 34 (0, 0, 0, 0)) = true := by decide +kernel
theorem hX2_changesBeside : x_wP nX2_changesBeside (x_PL.getD 35 (0, 0, 0, 0)) = true := by decide +kernel
theorem hX2_take : x_wP nX2_take (x_PL.getD 36 (0, 0, 0, 0)) = true := by decide +kernel
theorem hX3_init : x_wP nX3_init (x_PL.getD 37 (0, 0, 0, 0)) = true := by decide +kernel
theorem hX3_beAsAtFirst : x_wP nX3_beAsAtFirst (x_PL.getD 38 (0, 0, 0, 0)) = true := by decide +kernel
theorem hX3_takeFrom : x_wP nX3_takeFrom (x_PL.getD 39 (0, 0, 0, 0)) = true := by decide +kernel
theorem hX3_slotOf : x_wP nX3_slotOf (x_PL.getD 40 (0, 0, 0, 0)) = true := by decide +kernel
theorem hX3_rankByLight : x_wP nX3_rankByLight (x_PL.getD 41 (0, 0, 0, 0)) = true := by decide +kernel
theorem hX3_lightOver : x_wP nX3_lightOver (x_PL.getD 42 (0, 0, 0, 0)) = true := by decide +kernel
theorem hX4_init : x_wP nX4_init (x_PL.getD 43 (0, 0, 0, 0)) = true := by decide +kernel
theorem hX4_beAsAtFirst : x_wP nX4_beAsAtFirst (x_PL.getD 44 (0, 0, 0, 0)) = true := by decide +kernel
theorem hX4_takeFrom : x_wP nX4_takeFrom (x_PL.getD 45 (0, 0, 0, 0)) = true := by decide +kernel
theorem hX4_loanAsNumber : x_wP nX4_loanAsNumber (x_PL.getD 46 (0, 0, 0, 0)) = true := by decide +kernel
theorem hX4_awayNow : x_wP nX4_awayNow (x_PL.getD 47 (0, 0, 0, 0)) = true := by decide +kernel
theorem hX4_wantedNow : x_wP nX4_wantedNow (x_PL.getD 48 (0, 0, 0, 0)) = true := by decide +kernel
theorem hX4_barredNow : x_wP nX4_barredNow (x_PL.getD 49 (0, 0, 0, 0)) = true := by decide +kernel
theorem hX4_isBarred : x_wP nX4_isBarred (x_PL.getD 50 (0, 0, 0, 0)) = true := by decide +kernel
theorem hX4_turnPair : x_wP nX4_turnPair (x_PL.getD 51 (0, 0, 0, 0)) = true := by decide +kernel
theorem hX4_barredPairs : x_wP nX4_barredPairs (x_PL.getD 52 (0, 0, 0, 0)) = true := by decide +kernel
theorem hX4_isOn : x_wP nX4_isOn (x_PL.getD 53 (0, 0, 0, 0)) = true := by decide +kernel
theorem hX5_init : x_wP nX5_init (x_PL.getD 54 (0, 0, 0, 0)) = true := by decide +kernel
theorem hX5_growStale : x_wP nX5_growStale (x_PL.getD 55 (0, 0, 0, 0)) = true := by decide +kernel
theorem hX5_hasPlan : x_wP nX5_hasPlan (x_PL.getD 56 (0, 0, 0, 0)) = true := by decide +kernel
theorem hX5_changesNow : x_wP nX5_changesNow (x_PL.getD 57 (0, 0, 0, 0)) = true := by decide +kernel
theorem hX5_changesWithout : x_wP nX5_changesWithout (x_PL.getD 58 (0, 0, 0, 0)) = true := by decide +kernel
theorem hX5_mostLight : x_wP nX5_mostLight (x_PL.getD 59 (0, 0, 0, 0)) = true := by decide +kernel
theorem hX5_thingIn : x_wP nX5_thingIn (x_PL.getD 60 (0, 0, 0, 0)) = true := by decide +kernel
theorem hX5_thingsIn : x_wP nX5_thingsIn (x_PL.getD 61 (0, 0, 0, 0)) = true := by decide +kernel
theorem hX5_seasonsOf : x_wP nX5_seasonsOf (x_PL.getD 62 (0, 0, 0, 0)) = true := by decide +kernel
theorem hX5_thingOfRank : x_wP nX5_thingOfRank (x_PL.getD 63 (0, 0, 0, 0)) = true := by decide +kernel
theorem hX5_rankOf : x_wP nX5_rankOf (x_PL.getD 64 (0, 0, 0, 0)) = true := by decide +kernel
theorem hX5_leastMore : x_wP nX5_leastMore (x_PL.getD 65 (0, 0, 0, 0)) = true := by decide +kernel
theorem hX6_init : x_wP nX6_init (x_PL.getD 66 (0, 0, 0, 0)) = true := by decide +kernel
theorem hX6_type : x_wP nX6_type (x_PL.getD 67 (0, 0, 0, 0)) = true := by decide +kernel
theorem hX6_clear : x_wP nX6_clear (x_PL.getD 68 (0, 0, 0, 0)) = true := by decide +kernel
theorem hX6_house : x_wP nX6_house (x_PL.getD 69 (0, 0, 0, 0)) = true := by decide +kernel
theorem hX6_thing : x_wP nX6_thing (x_PL.getD 70 (0, 0, 0, 0)) = true := by decide +kernel
theorem hX6_light : x_wP nX6_light (x_PL.getD 71 (0, 0, 0, 0)) = true := by decide +kernel
theorem hX6_down : x_wP nX6_down (x_PL.getD 72 (0, 0, 0, 0)) = true := by decide +kernel
theorem hX6_sets : x_wP nX6_sets (x_PL.getD 73 (0, 0, 0, 0)) = true := by decide +kernel
theorem hX6_lends : x_wP nX6_lends (x_PL.getD 74 (0, 0, 0, 0)) = true := by decide +kernel
theorem hX6_pairs : x_wP nX6_pairs (x_PL.getD 75 (0, 0, 0, 0)) = true := by decide +kernel
theorem hX6_rules : x_wP nX6_rules (x_PL.getD 76 (0, 0, 0, 0)) = true := by decide +kernel
theorem hX6_undo : x_wP nX6_undo (x_PL.getD 77 (0, 0, 0, 0)) = true := by decide +kernel
theorem hX6_plan : x_wP nX6_plan (x_PL.getD 78 (0, 0, 0, 0)) = true := by decide +kernel
theorem hX6_cost : x_wP nX6_cost (x_PL.getD 79 (0, 0, 0, 0)) = true := by decide +kernel
theorem hX6_spent : x_wP nX6_spent (x_PL.getD 80 (0, 0, 0, 0)) = true := by decide +kernel
theorem hX6_shown : x_wP nX6_shown (x_PL.getD 81 (0, 0, 0, 0)) = true := by decide +kernel
theorem hX6_often : x_wP nX6_often (x_PL.getD 82 (0, 0, 0, 0)) = true := by decide +kernel
theorem hX6_needed : x_wP nX6_needed (x_PL.getD 83 (0, 0, 0, 0)) = true := by decide +kernel
theorem hX6_dearth : x_wP nX6_dearth (x_PL.getD 84 (0, 0, 0, 0)) = true := by decide +kernel
theorem hX6_sees : x_wP nX6_sees (x_PL.getD 85 (0, 0, 0, 0)) = true := by decide +kernel
theorem hX6_forget : x_wP nX6_forget (x_PL.getD 86 (0, 0, 0, 0)) = true := by decide +kernel
theorem hX6_unseen : x_wP nX6_unseen (x_PL.getD 87 (0, 0, 0, 0)) = true := by decide +kernel
theorem hX6_keep : x_wP nX6_keep (x_PL.getD 88 (0, 0, 0, 0)) = true := by decide +kernel
theorem hX6_back : x_wP nX6_back (x_PL.getD 89 (0, 0, 0, 0)) = true := by decide +kernel
theorem hX6_count : x_wP nX6_count (x_PL.getD 90 (0, 0, 0, 0)) = true := by decide +kernel
theorem hX6_isThing : x_wP nX6_isThing (x_PL.getD 91 (0, 0, 0, 0)) = true := by decide +kernel
theorem hX6_isSeason : x_wP nX6_isSeason (x_PL.getD 92 (0, 0, 0, 0)) = true := by decide +kernel
theorem hX6_isCase : x_wP nX6_isCase (x_PL.getD 93 (0, 0, 0, 0)) = true := by decide +kernel
theorem hX6_rememberWishes : x_wP nX6_rememberWishes (x_PL.getD 94 (0, 0, 0, 0)) = true := by decide +kernel
theorem hX6_isAllThatWasSeen : x_wP nX6_isAllThatWasSeen (x_PL.getD 95 (0, 0, 0, 0)) = true := by decide +kernel
theorem hX7_init : x_wP nX7_init (x_PL.getD 96 (0, 0, 0, 0)) = true := by decide +kernel
theorem hX7_in : x_wP nX7_in (x_PL.getD 97 (0, 0, 0, 0)) = true := by decide +kernel
theorem hX7_has : x_wP nX7_has (x_PL.getD 98 (0, 0, 0, 0)) = true := by decide +kernel
theorem hX7_type : x_wP nX7_type (x_PL.getD 99 (0, 0, 0, 0)) = true := by decide +kernel
theorem hX7_clear : x_wP nX7_clear (x_PL.getD 100 (0, 0, 0, 0)) = true := by decide +kernel
theorem hX7_letterAt : x_wP nX7_letterAt (x_PL.getD 101 (0, 0, 0, 0)) = true := by decide +kernel
theorem hX7_advances : x_wP nX7_advances (x_PL.getD 102 (0, 0, 0, 0)) = true := by decide +kernel
theorem hX7_isWell : x_wP nX7_isWell (x_PL.getD 103 (0, 0, 0, 0)) = true := by decide +kernel
theorem hX7_takes : x_wP nX7_takes (x_PL.getD 104 (0, 0, 0, 0)) = true := by decide +kernel
theorem hX7_number : x_wP nX7_number (x_PL.getD 105 (0, 0, 0, 0)) = true := by decide +kernel
theorem hX7_begins : x_wP nX7_begins (x_PL.getD 106 (0, 0, 0, 0)) = true := by decide +kernel
theorem hX7_mayBegin : x_wP nX7_mayBegin (x_PL.getD 107 (0, 0, 0, 0)) = true := by decide +kernel
theorem hX7_readsLights : x_wP nX7_readsLights (x_PL.getD 108 (0, 0, 0, 0)) = true := by decide +kernel
theorem hX7_readsItem : x_wP nX7_readsItem (x_PL.getD 109 (0, 0, 0, 0)) = true := by decide +kernel
theorem hX7_house : x_wP nX7_house (x_PL.getD 110 (0, 0, 0, 0)) = true := by decide +kernel
theorem hX7_settles : x_wP nX7_settles (x_PL.getD 111 (0, 0, 0, 0)) = true := by decide +kernel
theorem hX7_isThing : x_wP nX7_isThing (x_PL.getD 112 (0, 0, 0, 0)) = true := by decide +kernel
theorem hX7_isSeason : x_wP nX7_isSeason (x_PL.getD 113 (0, 0, 0, 0)) = true := by decide +kernel
theorem hX7_isCase : x_wP nX7_isCase (x_PL.getD 114 (0, 0, 0, 0)) = true := by decide +kernel
theorem hX7_thing : x_wP nX7_thing (x_PL.getD 115 (0, 0, 0, 0)) = true := by decide +kernel
theorem hX7_light : x_wP nX7_light (x_PL.getD 116 (0, 0, 0, 0)) = true := by decide +kernel
theorem hX7_down : x_wP nX7_down (x_PL.getD 117 (0, 0, 0, 0)) = true := by decide +kernel
theorem hX7_notes : x_wP nX7_notes (x_PL.getD 118 (0, 0, 0, 0)) = true := by decide +kernel
theorem hX7_sets : x_wP nX7_sets (x_PL.getD 119 (0, 0, 0, 0)) = true := by decide +kernel
theorem hX7_lends : x_wP nX7_lends (x_PL.getD 120 (0, 0, 0, 0)) = true := by decide +kernel
theorem hX7_pairs : x_wP nX7_pairs (x_PL.getD 121 (0, 0, 0, 0)) = true := by decide +kernel
theorem hX7_rules : x_wP nX7_rules (x_PL.getD 122 (0, 0, 0, 0)) = true := by decide +kernel
theorem hX7_undo : x_wP nX7_undo (x_PL.getD 123 (0, 0, 0, 0)) = true := by decide +kernel
theorem hX7_isOn : x_wP nX7_isOn (x_PL.getD 124 (0, 0, 0, 0)) = true := by decide +kernel
theorem hX7_mayStand : x_wP nX7_mayStand (x_PL.getD 125 (0, 0, 0, 0)) = true := by decide +kernel
theorem hX7_changeAt : x_wP nX7_changeAt (x_PL.getD 126 (0, 0, 0, 0)) = true := by decide +kernel
theorem hX7_fits : x_wP nX7_fits (x_PL.getD 127 (0, 0, 0, 0)) = true := by decide +kernel
theorem hX7_weighs : x_wP nX7_weighs (x_PL.getD 128 (0, 0, 0, 0)) = true := by decide +kernel
theorem hX7_tries : x_wP nX7_tries (x_PL.getD 129 (0, 0, 0, 0)) = true := by decide +kernel
theorem hX7_isPlan : x_wP nX7_isPlan (x_PL.getD 130 (0, 0, 0, 0)) = true := by decide +kernel
theorem hX7_plan : x_wP nX7_plan (x_PL.getD 131 (0, 0, 0, 0)) = true := by decide +kernel
theorem hX7_cost : x_wP nX7_cost (x_PL.getD 132 (0, 0, 0, 0)) = true := by decide +kernel
theorem hX7_seasonsOf : x_wP nX7_seasonsOf (x_PL.getD 133 (0, 0, 0, 0)) = true := by decide +kernel
theorem hX7_spent : x_wP nX7_spent (x_PL.getD 134 (0, 0, 0, 0)) = true := by decide +kernel
theorem hX7_shown : x_wP nX7_shown (x_PL.getD 135 (0, 0, 0, 0)) = true := by decide +kernel
theorem hX7_manyOf : x_wP nX7_manyOf (x_PL.getD 136 (0, 0, 0, 0)) = true := by decide +kernel
theorem hX7_often : x_wP nX7_often (x_PL.getD 137 (0, 0, 0, 0)) = true := by decide +kernel
theorem hX7_needed : x_wP nX7_needed (x_PL.getD 138 (0, 0, 0, 0)) = true := by decide +kernel
theorem hX7_without : x_wP nX7_without (x_PL.getD 139 (0, 0, 0, 0)) = true := by decide +kernel
theorem hX7_dearth : x_wP nX7_dearth (x_PL.getD 140 (0, 0, 0, 0)) = true := by decide +kernel
theorem hX7_sees : x_wP nX7_sees (x_PL.getD 141 (0, 0, 0, 0)) = true := by decide +kernel
theorem hX7_forget : x_wP nX7_forget (x_PL.getD 142 (0, 0, 0, 0)) = true := by decide +kernel
theorem hX7_unseen : x_wP nX7_unseen (x_PL.getD 143 (0, 0, 0, 0)) = true := by decide +kernel
theorem hX7_keep : x_wP nX7_keep (x_PL.getD 144 (0, 0, 0, 0)) = true := by decide +kernel
theorem hX7_back : x_wP nX7_back (x_PL.getD 145 (0, 0, 0, 0)) = true := by decide +kernel
theorem hX7_count : x_wP nX7_count (x_PL.getD 146 (0, 0, 0, 0)) = true := by decide +kernel
theorem hJ6_bitCount : x_wP nJ6_bitCount (x_PL.getD 147 (0, 0, 0, 0)) = true := by decide +kernel
theorem hJ7_fill : x_wP nJ7_fill (x_PL.getD 148 (0, 0, 0, 0)) = true := by decide +kernel
theorem x_all_wP : ∀ (i : Nat) (q : xI), x_inf[i]? = some q → ∃ r, x_wP q r = true := by
  have h : ∀ q ∈ x_inf, ∃ r, x_wP q r = true := by
    unfold x_inf
    simp only [List.forall_mem_cons, List.not_mem_nil, false_implies, implies_true, and_true]
    exact ⟨⟨_, hX0_init⟩, ⟨_, hX0_known⟩, ⟨_, hX0_loseAll⟩, ⟨_, hX0_remember⟩, ⟨_, hX0_restore⟩, ⟨_, hX1_init⟩, ⟨_, hX1_place⟩, ⟨_, hX1_readAll⟩, ⟨_, hX1_readItem⟩, ⟨_, hX1_readCases⟩, ⟨_, hX1_readLights⟩, ⟨_, hX1_readThing⟩, ⟨_, hX1_readBarred⟩, ⟨_, hX1_readLoan⟩, ⟨_, hX1_nextIsEnd⟩, ⟨_, hX1_nextIsNumber⟩, ⟨_, hX1_isNumber⟩, ⟨_, hX1_advance⟩, ⟨_, hX1_advanceOverNumber⟩, ⟨_, hX1_isFigure⟩, ⟨_, hX1_isSign⟩, ⟨_, hX2_init⟩, ⟨_, hX2_bestMost⟩, ⟨_, hX2_copyBestTo⟩, ⟨_, hX2_canBeFilled⟩, ⟨_, hX2_fewestChanges⟩, ⟨_, hX2_prepare⟩, ⟨_, hX2_openSeason⟩, ⟨_, hX2_withPartner⟩, ⟨_, hX2_thingsThatBear⟩, ⟨_, hX2_countRuns⟩, ⟨_, hX2_leavesAt⟩, ⟨_, hX2_fill⟩, ⟨_, hX2_besideFirst⟩, ⟨_, hX2_place⟩, ⟨_, hX2_changesBeside⟩, ⟨_, hX2_take⟩, ⟨_, hX3_init⟩, ⟨_, hX3_beAsAtFirst⟩, ⟨_, hX3_takeFrom⟩, ⟨_, hX3_slotOf⟩, ⟨_, hX3_rankByLight⟩, ⟨_, hX3_lightOver⟩, ⟨_, hX4_init⟩, ⟨_, hX4_beAsAtFirst⟩, ⟨_, hX4_takeFrom⟩, ⟨_, hX4_loanAsNumber⟩, ⟨_, hX4_awayNow⟩, ⟨_, hX4_wantedNow⟩, ⟨_, hX4_barredNow⟩, ⟨_, hX4_isBarred⟩, ⟨_, hX4_turnPair⟩, ⟨_, hX4_barredPairs⟩, ⟨_, hX4_isOn⟩, ⟨_, hX5_init⟩, ⟨_, hX5_growStale⟩, ⟨_, hX5_hasPlan⟩, ⟨_, hX5_changesNow⟩, ⟨_, hX5_changesWithout⟩, ⟨_, hX5_mostLight⟩, ⟨_, hX5_thingIn⟩, ⟨_, hX5_thingsIn⟩, ⟨_, hX5_seasonsOf⟩, ⟨_, hX5_thingOfRank⟩, ⟨_, hX5_rankOf⟩, ⟨_, hX5_leastMore⟩, ⟨_, hX6_init⟩, ⟨_, hX6_type⟩, ⟨_, hX6_clear⟩, ⟨_, hX6_house⟩, ⟨_, hX6_thing⟩, ⟨_, hX6_light⟩, ⟨_, hX6_down⟩, ⟨_, hX6_sets⟩, ⟨_, hX6_lends⟩, ⟨_, hX6_pairs⟩, ⟨_, hX6_rules⟩, ⟨_, hX6_undo⟩, ⟨_, hX6_plan⟩, ⟨_, hX6_cost⟩, ⟨_, hX6_spent⟩, ⟨_, hX6_shown⟩, ⟨_, hX6_often⟩, ⟨_, hX6_needed⟩, ⟨_, hX6_dearth⟩, ⟨_, hX6_sees⟩, ⟨_, hX6_forget⟩, ⟨_, hX6_unseen⟩, ⟨_, hX6_keep⟩, ⟨_, hX6_back⟩, ⟨_, hX6_count⟩, ⟨_, hX6_isThing⟩, ⟨_, hX6_isSeason⟩, ⟨_, hX6_isCase⟩, ⟨_, hX6_rememberWishes⟩, ⟨_, hX6_isAllThatWasSeen⟩, ⟨_, hX7_init⟩, ⟨_, hX7_in⟩, ⟨_, hX7_has⟩, ⟨_, hX7_type⟩, ⟨_, hX7_clear⟩, ⟨_, hX7_letterAt⟩, ⟨_, hX7_advances⟩, ⟨_, hX7_isWell⟩, ⟨_, hX7_takes⟩, ⟨_, hX7_number⟩, ⟨_, hX7_begins⟩, ⟨_, hX7_mayBegin⟩, ⟨_, hX7_readsLights⟩, ⟨_, hX7_readsItem⟩, ⟨_, hX7_house⟩, ⟨_, hX7_settles⟩, ⟨_, hX7_isThing⟩, ⟨_, hX7_isSeason⟩, ⟨_, hX7_isCase⟩, ⟨_, hX7_thing⟩, ⟨_, hX7_light⟩, ⟨_, hX7_down⟩, ⟨_, hX7_notes⟩, ⟨_, hX7_sets⟩, ⟨_, hX7_lends⟩, ⟨_, hX7_pairs⟩, ⟨_, hX7_rules⟩, ⟨_, hX7_undo⟩, ⟨_, hX7_isOn⟩, ⟨_, hX7_mayStand⟩, ⟨_, hX7_changeAt⟩, ⟨_, hX7_fits⟩, ⟨_, hX7_weighs⟩, ⟨_, hX7_tries⟩, ⟨_, hX7_isPlan⟩, ⟨_, hX7_plan⟩, ⟨_, hX7_cost⟩, ⟨_, hX7_seasonsOf⟩, ⟨_, hX7_spent⟩, ⟨_, hX7_shown⟩, ⟨_, hX7_manyOf⟩, ⟨_, hX7_often⟩, ⟨_, hX7_needed⟩, ⟨_, hX7_without⟩, ⟨_, hX7_dearth⟩, ⟨_, hX7_sees⟩, ⟨_, hX7_forget⟩, ⟨_, hX7_unseen⟩, ⟨_, hX7_keep⟩, ⟨_, hX7_back⟩, ⟨_, hX7_count⟩, ⟨_, hJ6_bitCount⟩, ⟨_, hJ7_fill⟩⟩
  exact fun i q hq => h q (List.mem_of_getElem? hq)
end
section
/-! THE WORLD of a pure heap: the cells of the machine that it stands for -/
def x_tr (ad : Nat → Nat) : Value → Value
  | .ref a => .ref (ad a)
  | v => v
theorem x_tr_cat (ad : Nat → Nat) (v : Value) : (x_tr ad v).category = v.category := by cases v <;> rfl
def x_fv (ad : Nat → Nat) (V : xV) (i ci : Nat) (rf : List (Option Nat)) (k : Nat) : Value := if x_kd ci k = 2 then va_rf (((rf[k]?).getD none).map ad) else .int (V i k)
def x_fs (ad : Nat → Nat) (V : xV) (i ci : Nat) (rf : List (Option Nat)) : List Value := (List.range (x_C ci).2.2).map (x_fv ad V i ci rf)
def x_cell (cI cZ cO : ClassId) (ad : Nat → Nat) (V : xV) (i : Nat) (q : xS) : va_E := match q with
  | (0, ci, rf) => .inr (ci, x_fs ad V i ci rf)
  | (1, n, _) => .inl (cI, n, .inl (V i))
  | (2, n, _) => .inl (cZ, n, .inl (V i))
  | (_, n, rf) => .inl (cO, n, .inr (.inr (.inr (.inr (fun j => ((rf[j]?).getD none).map ad)))))
def x_W (cI cZ cO : ClassId) (ad : Nat → Nat) (h : xH) : va_W := (List.range h.1.length).map (fun i => (ad i, x_cell cI cZ cO ad h.2 i (h.1.getD i (0, 0, []))))
def x_slots (q : xS) : Nat := match q with
  | (0, ci, _) => (x_C ci).2.2
  | (_, n, _) => n
def x_sl (h : xH) : Nat := (h.1.map x_slots).sum
theorem x_getD {S : List xS} {x : Nat} {q d : xS} (h : S[x]? = some q) : S.getD x d = q := by simp [List.getD, h]
theorem x_lt {S : List xS} {x : Nat} {q : xS} (h : S[x]? = some q) : x < S.length := (List.getElem?_eq_some_iff.mp h).1
theorem x_W_get {cI cZ cO : ClassId} {ad : Nat → Nat} {h : xH} {i : Nat} (hi : i < h.1.length) : (x_W cI cZ cO ad h)[i]? = some (ad i, x_cell cI cZ cO ad h.2 i (h.1.getD i (0, 0, []))) := by
  simp [x_W, hi]
theorem x_W_at {cI cZ cO : ClassId} {ad : Nat → Nat} {h : xH} {x : Nat} {q : xS} (hq : h.1[x]? = some q) : (x_W cI cZ cO ad h)[x]? = some (ad x, x_cell cI cZ cO ad h.2 x q) := by
  rw [x_W_get (x_lt hq), x_getD hq]
theorem x_W_set {cI cZ cO : ClassId} {ad : Nat → Nat} {h h' : xH} {x : Nat} {E : va_E} (hl : h'.1.length = h.1.length) (he : x_cell cI cZ cO ad h'.2 x (h'.1.getD x (0, 0, [])) = E)
    (ho : ∀ j, j ≠ x → x_cell cI cZ cO ad h'.2 j (h'.1.getD j (0, 0, [])) = x_cell cI cZ cO ad h.2 j (h.1.getD j (0, 0, []))) : (x_W cI cZ cO ad h).set x (ad x, E) = x_W cI cZ cO ad h' := by
  apply List.ext_getElem?
  intro j
  rw [List.getElem?_set]
  by_cases hj : j < h.1.length
  · by_cases hx : x = j
    · subst hx
      rw [if_pos rfl, x_W_get (by omega), he]
      simp [x_W, hj]
    · rw [if_neg hx, x_W_get hj, x_W_get (by omega), ho j (fun q => hx q.symm)]
  · have h1 : (x_W cI cZ cO ad h)[j]? = none := by simp [x_W]; omega
    have h2 : (x_W cI cZ cO ad h')[j]? = none := by simp [x_W]; omega
    rw [h1, h2]
    by_cases hx : x = j
    · rw [if_pos hx]
      simp [x_W]
      omega
    · rw [if_neg hx]
theorem x_up_ne {V : xV} {a k : Nat} {x : Int32} {b : Nat} (h : b ≠ a) : x_up V a k x b = V b := by simp [x_up, h]
theorem x_up_eq {V : xV} {a k : Nat} {x : Int32} : x_up V a k x a = upd (V a) k x := by simp [x_up]
theorem x_cell_V {cI cZ cO : ClassId} {ad : Nat → Nat} {V V' : xV} {j : Nat} {q : xS} (h : V' j = V j) : x_cell cI cZ cO ad V' j q = x_cell cI cZ cO ad V j q := by
  unfold x_cell x_fs x_fv
  rw [h]
theorem x_W_upd {cI cZ cO : ClassId} {ad : Nat → Nat} {S : List xS} {V V' : xV} {x : Nat} {q : xS} (hq : S[x]? = some q) (ho : ∀ j, j ≠ x → V' j = V j) : (x_W cI cZ cO ad (S, V)).set x (ad x, x_cell cI cZ cO ad V' x q) = x_W cI cZ cO ad (S, V') :=
  x_W_set (h := (S, V)) (h' := (S, V')) rfl (by rw [x_getD hq]) (fun j hj => x_cell_V (ho j hj))
theorem x_W_upS {cI cZ cO : ClassId} {ad : Nat → Nat} {S : List xS} {V : xV} {x : Nat} {q : xS} (hx : x < S.length) : (x_W cI cZ cO ad (S, V)).set x (ad x, x_cell cI cZ cO ad V x q) = x_W cI cZ cO ad (S.set x q, V) :=
  x_W_set (h := (S, V)) (h' := (S.set x q, V)) (by simp) (by simp [List.getD, hx]) (fun j hj => by simp [List.getD, List.getElem?_set, Ne.symm hj])
theorem x_fs_set {ad : Nat → Nat} {V : xV} {i ci : Nat} {rf : List (Option Nat)} {k : Nat} {y : Int32} (hk : x_kd ci k ≠ 2) : (x_fs ad V i ci rf).set k (.int y) = x_fs ad (x_up V i k y) i ci rf := by
  apply List.ext_getElem?
  intro j
  rw [List.getElem?_set]
  unfold x_fs
  by_cases hj : j < (x_C ci).2.2
  · by_cases hx : k = j
    · subst hx
      simp [hj, x_fv, hk, x_up, upd]
    · simp [hj, hx, x_fv, x_up, upd, Ne.symm hx]
  · by_cases hx : k = j
    · subst hx; simp [hj]
    · simp [hj, hx]
theorem x_fs_setR {ad : Nat → Nat} {V : xV} {i ci : Nat} {rf : List (Option Nat)} {k y : Nat} (hk : x_kd ci k = 2) (hl : k < rf.length) : (x_fs ad V i ci rf).set k (.ref (ad y)) = x_fs ad V i ci (rf.set k (some y)) := by
  apply List.ext_getElem?
  intro j
  rw [List.getElem?_set]
  unfold x_fs
  by_cases hj : j < (x_C ci).2.2
  · by_cases hx : k = j
    · subst hx
      simp [hj, x_fv, hk, hl, va_rf]
    · simp [hj, hx, x_fv]
  · by_cases hx : k = j
    · subst hx; simp [hj]
    · simp [hj, hx]
theorem x_fs_len {ad : Nat → Nat} {V : xV} {i ci : Nat} {rf : List (Option Nat)} : (x_fs ad V i ci rf).length = (x_C ci).2.2 := by simp [x_fs]
theorem x_fs_at {ad : Nat → Nat} {V : xV} {i ci : Nat} {rf : List (Option Nat)} {k : Nat} (hk : k < (x_C ci).2.2) : (x_fs ad V i ci rf)[k]? = some (x_fv ad V i ci rf k) := by simp [x_fs, hk]
/-- new addresses: the old ones stay; if nothing was made, all stay -/
def x_ad (ad0 : Nat → Nat) (n0 : Nat) (ad : Nat → Nat) (n : Nat) : Prop := n0 ≤ n ∧ (∀ i, i < n0 → ad i = ad0 i) ∧ (n = n0 → ad = ad0)
def x_adp (ad : Nat → Nat) (n a : Nat) : Nat → Nat := fun i => if i = n then a else ad i
theorem x_map_ro {n a : Nat} {ad : Nat → Nat} {rf : List (Option Nat)} (h : rf.all (x_ro n) = true) (k : Nat) : ((rf[k]?).getD none).map (x_adp ad n a) = ((rf[k]?).getD none).map ad := by
  cases hk : rf[k]? with
  | none => rfl
  | some o =>
    cases o with
    | none => rfl
    | some q =>
      have h1 := List.all_eq_true.mp h _ (List.mem_of_getElem? hk)
      simp only [x_ro, decide_eq_true_eq] at h1
      simp [x_adp, Nat.ne_of_lt h1]
theorem x_cell_ad {cI cZ cO : ClassId} {ad : Nat → Nat} {n a : Nat} {V : xV} {i : Nat} {q : xS} (h : q.2.2.all (x_ro n) = true) : x_cell cI cZ cO (x_adp ad n a) V i q = x_cell cI cZ cO ad V i q := by
  obtain ⟨t, k, rf⟩ := q
  have h' : ∀ k, ((rf[k]?).getD none).map (x_adp ad n a) = ((rf[k]?).getD none).map ad := x_map_ro h
  have hf : (fun j => ((rf[j]?).getD none).map (x_adp ad n a)) = fun j => ((rf[j]?).getD none).map ad := funext h'
  have hg : x_fs (x_adp ad n a) V i k rf = x_fs ad V i k rf := by
    unfold x_fs
    congr 1
    funext j
    unfold x_fv
    rw [h']
  rcases t with _ | _ | _ | t
  · show (Sum.inr (k, x_fs (x_adp ad n a) V i k rf) : va_E) = Sum.inr (k, x_fs ad V i k rf)
    rw [hg]
  · rfl
  · rfl
  · show (Sum.inl (cO, k, Sum.inr (Sum.inr (Sum.inr (Sum.inr (fun j => ((rf[j]?).getD none).map (x_adp ad n a)))))) : va_E) = Sum.inl (cO, k, Sum.inr (Sum.inr (Sum.inr (Sum.inr (fun j => ((rf[j]?).getD none).map ad)))))
    rw [hf]
theorem x_W_push {cI cZ cO : ClassId} {ad : Nat → Nat} {S : List xS} {V : xV} {q : xS} {a : Nat} (h : S.all (fun q => q.2.2.all (x_ro S.length)) = true) : x_W cI cZ cO ad (S, V) ++ [(a, x_cell cI cZ cO (x_adp ad S.length a) (x_push S V q).2 S.length q)] = x_W cI cZ cO (x_adp ad S.length a) (x_push S V q) := by
  have hl : (x_W cI cZ cO ad (S, V)).length = S.length := by simp [x_W]
  have hl2 : (x_W cI cZ cO (x_adp ad S.length a) (x_push S V q)).length = S.length + 1 := by simp [x_W, x_push]
  apply List.ext_getElem?
  intro j
  rcases Nat.lt_trichotomy j S.length with hj | hj | hj
  · rw [List.getElem?_append_left (by omega), x_W_get (h := (S, V)) hj, x_W_get (h := x_push S V q) (by simp [x_push]; omega)]
    have e1 : S[j]? = some S[j] := List.getElem?_eq_getElem hj
    have e2 : (S ++ [q]).getD j (0, 0, []) = S[j] := x_getD (by rw [List.getElem?_append_left hj, e1])
    have e3 : S.getD j (0, 0, []) = S[j] := x_getD e1
    show some (ad j, x_cell cI cZ cO ad V j (S.getD j (0, 0, []))) = some (x_adp ad S.length a j, x_cell cI cZ cO (x_adp ad S.length a) (x_push S V q).2 j ((S ++ [q]).getD j (0, 0, [])))
    rw [e2, e3, x_cell_ad (List.all_eq_true.mp h _ (List.mem_of_getElem? e1)), x_cell_V (V := V) (V' := (x_push S V q).2) (by simp [x_push, Nat.ne_of_lt hj])]
    simp [x_adp, Nat.ne_of_lt hj]
  · subst hj
    rw [List.getElem?_append_right (by omega), hl, x_W_get (h := x_push S V q) (by simp [x_push])]
    have e2 : (S ++ [q]).getD S.length (0, 0, []) = q := x_getD (by simp)
    show [(a, _)][S.length - S.length]? = some (x_adp ad S.length a S.length, x_cell cI cZ cO (x_adp ad S.length a) (x_push S V q).2 S.length ((S ++ [q]).getD S.length (0, 0, [])))
    rw [e2]
    simp [x_adp]
  · rw [List.getElem?_eq_none (by simp [hl]; omega), List.getElem?_eq_none (by omega)]
theorem x_tr_ro {n a : Nat} {ad : Nat → Nat} {st : List Value} (h : st.all (x_rv n) = true) : st.map (x_tr (x_adp ad n a)) = st.map (x_tr ad) := by
  apply List.map_congr_left
  intro v hv
  have h1 := List.all_eq_true.mp h v hv
  cases v with
  | ref q =>
    simp only [x_rv, decide_eq_true_eq] at h1
    simp [x_tr, x_adp, Nat.ne_of_lt h1]
  | _ => rfl
theorem x_sl_push {S : List xS} {V : xV} {q : xS} : x_sl (x_push S V q) = x_sl (S, V) + x_slots q := by simp [x_sl, x_push]
/-- the locals -/
def x_L (lsR : Array Slot) (ls : List Value) (ad : Nat → Nat) : Prop := lsR.size = ls.length ∧ lv_wf lsR ∧ ∀ (i : Nat) (v : Value), ls[i]? = some v → v.category = 1 → lsR[i]? = some (.val (x_tr ad v))
def x_lv (ad : Nat → Nat) (ls : List Value) : List (Nat × Value) := (List.range ls.length).filterMap (fun i => match ls[i]? with
  | some v => if v.category = 1 then some (i, x_tr ad v) else none
  | none => none)
theorem x_lv_mem {ad : Nat → Nat} {ls : List Value} {i : Nat} {v : Value} (h : ls[i]? = some v) (hc : v.category = 1) : (i, x_tr ad v) ∈ x_lv ad ls := by
  refine List.mem_filterMap.mpr ⟨i, List.mem_range.mpr (List.getElem?_eq_some_iff.mp h).1, ?_⟩
  simp [h, hc]
theorem x_L_has {lsR : Array Slot} {ls : List Value} {ad : Nat → Nat} (h : x_L lsR ls ad) : lv_has lsR ls.length (x_lv ad ls) := by
  refine ⟨h.1, h.2.1, fun q hq => ?_⟩
  obtain ⟨i, -, hi⟩ := List.mem_filterMap.mp hq
  cases hv : ls[i]? with
  | none => rw [hv] at hi; cases hi
  | some v =>
    rw [hv] at hi
    by_cases hc : v.category = 1
    · simp only [hc, if_true, Option.some.injEq] at hi
      subst hi
      exact h.2.2 i v hv hc
    · simp [hc] at hi
theorem x_L_of {lsR : Array Slot} {ls : List Value} {ad : Nat → Nat} {a : Nat} {v : Value} (ha : a < ls.length) (h : lv_has lsR ls.length ((a, x_tr ad v) :: (x_lv ad ls).filter (fun q => !(q.1 == a) && !(q.1 + 1 == a && q.2.category == 2)))) : x_L lsR (ls.set a v) ad := by
  refine ⟨by rw [h.1]; simp, h.2.1, fun i w hi hc => ?_⟩
  rw [List.getElem?_set] at hi
  by_cases hx : a = i
  · subst hx
    rw [if_pos rfl, if_pos ha] at hi
    cases hi
    exact h.2.2 (a, x_tr ad v) List.mem_cons_self
  · rw [if_neg hx] at hi
    refine h.2.2 (i, x_tr ad w) (List.mem_cons_of_mem _ (List.mem_filter.mpr ⟨x_lv_mem hi hc, ?_⟩))
    have h1 : (x_tr ad w).category = 1 := by rw [x_tr_cat, hc]
    simp [h1, Ne.symm hx]
theorem x_L_ro {n a : Nat} {ad : Nat → Nat} {lsR : Array Slot} {ls : List Value} (h : ls.all (x_rv n) = true) (hL : x_L lsR ls ad) : x_L lsR ls (x_adp ad n a) := by
  refine ⟨hL.1, hL.2.1, fun i v hi hc => ?_⟩
  rw [hL.2.2 i v hi hc]
  have h1 := List.all_eq_true.mp h v (List.mem_of_getElem? hi)
  cases v with
  | ref q =>
    simp only [x_rv, decide_eq_true_eq] at h1
    simp [x_tr, x_adp, Nat.ne_of_lt h1]
  | _ => rfl
theorem x_L_eq {ad ad' : Nat → Nat} {n : Nat} {lsR : Array Slot} {ls : List Value} (h : ls.all (x_rv n) = true) (ha : ∀ i, i < n → ad' i = ad i) (hL : x_L lsR ls ad) : x_L lsR ls ad' := by
  refine ⟨hL.1, hL.2.1, fun i v hi hc => ?_⟩
  rw [hL.2.2 i v hi hc]
  have h1 := List.all_eq_true.mp h v (List.mem_of_getElem? hi)
  cases v with
  | ref q =>
    simp only [x_rv, decide_eq_true_eq] at h1
    simp [x_tr, ha q h1]
  | _ => rfl
theorem x_tr_eq {ad ad' : Nat → Nat} {n : Nat} {st : List Value} (h : st.all (x_rv n) = true) (ha : ∀ i, i < n → ad' i = ad i) : st.map (x_tr ad') = st.map (x_tr ad) := by
  apply List.map_congr_left
  intro v hv
  have h1 := List.all_eq_true.mp h v hv
  cases v with
  | ref q =>
    simp only [x_rv, decide_eq_true_eq] at h1
    simp [x_tr, ha q h1]
  | _ => rfl
theorem x_catsum (st : List Value) (ad : Nat → Nat) : ((st.map (x_tr ad)).map fun v => v.category).sum ≤ 2 * st.length := by
  induction st with
  | nil => simp
  | cons v t ih =>
    simp only [List.map_cons, List.sum_cons, List.length_cons]
    have : (x_tr ad v).category ≤ 2 := by rcases lv_cat (x_tr ad v) with q | q <;> omega
    omega
/-- the classes -/
def x_ty (ci : Nat) : Nat → FieldType := match ci with
  | 0 => tyX0
  | 1 => tyX1
  | 2 => tyX2
  | 3 => tyX3
  | 4 => tyX4
  | 5 => tyX5
  | 6 => tyX6
  | _ => tyX7
theorem x_8 {P : Nat → Prop} (h0 : P 0) (h1 : P 1) (h2 : P 2) (h3 : P 3) (h4 : P 4) (h5 : P 5) (h6 : P 6) (h7 : P 7) : ∀ ci, ci < 8 → P ci
  | 0, _ => h0
  | 1, _ => h1
  | 2, _ => h2
  | 3, _ => h3
  | 4, _ => h4
  | 5, _ => h5
  | 6, _ => h6
  | 7, _ => h7
  | n + 8, h => by omega
theorem x_cl_at : ∀ ci, ci < 8 → x_cl[ci]? = some ((x_C ci).1, (x_C ci).2.1, (x_C ci).2.2) := x_8 rfl rfl rfl rfl rfl rfl rfl rfl
theorem x_ty_ok : ∀ ci, ci < 8 → ∀ k, k < (x_C ci).2.2 → parseFieldDescriptor ((x_C ci).2.1 k).2.2.1 = some (x_ty ci k) := x_8 tyX0_ok tyX1_ok tyX2_ok tyX3_ok tyX4_ok tyX5_ok tyX6_ok tyX7_ok
theorem x_nm_ok : ∀ ci, ci < 8 → ∀ a, a < (x_C ci).2.2 → ∀ b, b < (x_C ci).2.2 → a ≠ b → ((x_C ci).2.1 a).2.1 ≠ ((x_C ci).2.1 b).2.1 := x_8 nmX0 nmX1 nmX2 nmX3 nmX4 nmX5 nmX6 nmX7
theorem x_in_ok : ∀ ci, ci < 8 → ∀ w ∈ u_ws (x_C ci).1 (x_C ci).2.1 (x_C ci).2.2, w ∈ x_tb := by
  have key : ∀ ci, x_in8 ci = true → ∀ w ∈ u_ws (x_C ci).1 (x_C ci).2.1 (x_C ci).2.2, w ∈ x_tb := by
    intro ci h w hw
    have h1 := List.all_eq_true.mp h w hw
    simp only [Bool.and_eq_true, decide_eq_true_eq] at h1
    exact List.mem_filter.mpr h1
  exact x_8 (key 0 x_in8_0) (key 1 x_in8_1) (key 2 x_in8_2) (key 3 x_in8_3) (key 4 x_in8_4) (key 5 x_in8_5) (key 6 x_in8_6) (key 7 x_in8_7)
def x_kok (ci : Nat) : Bool := (List.range (x_C ci).2.2).all (fun k => (x_kd ci k == 0 && x_ty ci k == .int && !((x_C ci).2.1 k).2.2.2) || (x_kd ci k == 1 && x_ty ci k == .boolean && !((x_C ci).2.1 k).2.2.2) || (x_kd ci k == 2 && ((x_C ci).2.1 k).2.2.2 && ((x_C ci).2.1 k).1 == x_N ci && refKind (x_ty ci k)))
theorem x_kok_all : ∀ ci, ci < 8 → x_kok ci = true := x_8 (by decide +kernel) (by decide +kernel) (by decide +kernel) (by decide +kernel) (by decide +kernel) (by decide +kernel) (by decide +kernel) (by decide +kernel)
end
section
theorem x_sl_set {S : List xS} {V : xV} {x : Nat} {q q' : xS} (hq : S[x]? = some q) (hs : x_slots q' = x_slots q) : x_sl (S.set x q', V) = x_sl (S, V) := by
  show ((S.set x q').map x_slots).sum = (S.map x_slots).sum
  rw [List.map_set, hs]
  congr 1
  apply List.ext_getElem?
  intro j
  rw [List.getElem?_set]
  by_cases hx : x = j
  · subst hx
    rw [if_pos rfl, List.getElem?_map, hq]
    simp [x_lt hq]
  · rw [if_neg hx]
/-! each step of the pure machine is one of the machine's -/
def x_I (D : va_G) (cI cZ cO : ClassId) (A : Nat → Prop) (s : State) (H : Heap) (locs : List Loc) (ad : Nat → Nat) (h : xH) : Prop := va_K D x_cl [(cI, .int), (cZ, .boolean), (cO, .object RX4)] s ∧ va_P D x_cl (x_W cI cZ cO ad h) H ∧ va_D A (x_W cI cZ cO ad h) ∧ va_S A s.heap H locs
def x_G (p : Program) (l : Launch) (e : Env) (R : Room) (s : State) (m : MethodId) (args : Array Value) (below : List Frame) (meth : Method) (c : Code) (Q : State → Prop) (D : va_G) (cI cZ cO : ClassId) (A : Nat → Prop) (L0 T0 n0 : Nat) (ad0 : Nat → Nat) (pc : Nat) (ls st : List Value) (h : xH) : Prop :=
  ∀ (H : Heap) (locs : List Loc) (cells slots : Nat) (ad : Nat → Nat) (lsR : Array Slot), x_I D cI cZ cO A s H locs ad h → x_L lsR ls ad → cells + L0 = h.1.length → slots + T0 = x_sl h → x_ad ad0 n0 ad h.1.length → W p l e R s m args below meth c H locs cells slots Q (F0 m pc lsR (st.map (x_tr ad)))
section Steps
variable {p : Program} {l : Launch} {e : Env} {R : Room} {s : State} {m : MethodId} {args : Array Value} {below : List Frame} {meth : Method} {c : Code} {Q : State → Prop} {D : va_G} {cI cZ cO : ClassId} {A : Nat → Prop} {L0 T0 n0 : Nat} {ad0 : Nat → Nat} {cc : ByteArray} {pc : Nat} {ls st : List Value} {h : xH} {cn : Nat}

theorem s_iconst (hx : p.tables.exec = Jvm.exec) (hb : c.code = cc) {n : Int} (hd : decode cc pc = .ok (.iconst n, 1)) (k : x_G p l e R s m args below meth c Q D cI cZ cO A L0 T0 n0 ad0 (pc + 1) ls (.int (Int32.ofInt n) :: st) h) : x_G p l e R s m args below meth c Q D cI cZ cO A L0 T0 n0 ad0 pc ls (st) h := by
  intro H locs cells slots ad lsR hI hL hc hs ha
  exact lv_iconst hx hb hd rfl (k H locs cells slots ad lsR hI hL hc hs ha)
theorem s_bipush (hx : p.tables.exec = Jvm.exec) (hb : c.code = cc) {n : Int} (hd : decode cc pc = .ok (.bipush n, 2)) (k : x_G p l e R s m args below meth c Q D cI cZ cO A L0 T0 n0 ad0 (pc + 2) ls (.int (Int8.ofInt n).toInt32 :: st) h) : x_G p l e R s m args below meth c Q D cI cZ cO A L0 T0 n0 ad0 pc ls (st) h := by
  intro H locs cells slots ad lsR hI hL hc hs ha
  exact lv_bipush hx hb hd rfl (k H locs cells slots ad lsR hI hL hc hs ha)
theorem s_sipush (hx : p.tables.exec = Jvm.exec) (hb : c.code = cc) {n : Int} (hd : decode cc pc = .ok (.sipush n, 3)) (k : x_G p l e R s m args below meth c Q D cI cZ cO A L0 T0 n0 ad0 (pc + 3) ls (.int (Int16.ofInt n).toInt32 :: st) h) : x_G p l e R s m args below meth c Q D cI cZ cO A L0 T0 n0 ad0 pc ls (st) h := by
  intro H locs cells slots ad lsR hI hL hc hs ha
  exact lv_sipush hx hb hd rfl (k H locs cells slots ad lsR hI hL hc hs ha)
theorem s_ldc (hx : p.tables.exec = Jvm.exec) (hb : c.code = cc) {i : Nat} {v : Int32} (hown : s.vm.findClass (x_N cn) = some m.cls) (hts : ∀ w ∈ x_tb, w.before args s = true) (hk : Cond.constant (x_N cn) i v ∈ x_tb) (hd : decode cc pc = .ok (.ldc i, 2)) (k : x_G p l e R s m args below meth c Q D cI cZ cO A L0 T0 n0 ad0 (pc + 2) ls (.int v :: st) h) : x_G p l e R s m args below meth c Q D cI cZ cO A L0 T0 n0 ad0 pc ls (st) h := by
  intro H locs cells slots ad lsR hI hL hc hs ha
  exact lv_ldc hx hb hown (hts _ hk) hd (k H locs cells slots ad lsR hI hL hc hs ha)
theorem s_ldc_w (hx : p.tables.exec = Jvm.exec) (hb : c.code = cc) {i : Nat} {v : Int32} (hown : s.vm.findClass (x_N cn) = some m.cls) (hts : ∀ w ∈ x_tb, w.before args s = true) (hk : Cond.constant (x_N cn) i v ∈ x_tb) (hd : decode cc pc = .ok (.ldc_w i, 3)) (k : x_G p l e R s m args below meth c Q D cI cZ cO A L0 T0 n0 ad0 (pc + 3) ls (.int v :: st) h) : x_G p l e R s m args below meth c Q D cI cZ cO A L0 T0 n0 ad0 pc ls (st) h := by
  intro H locs cells slots ad lsR hI hL hc hs ha
  exact lv_ldcw hx hb hown (hts _ hk) hd (k H locs cells slots ad lsR hI hL hc hs ha)
theorem s_iload_n (hx : p.tables.exec = Jvm.exec) (hb : c.code = cc) {i : Fin 4} {x : Int32} (hl : ls[(i : Nat)]? = some (.int x)) (hd : decode cc pc = .ok (.iload_n i, 1)) (k : x_G p l e R s m args below meth c Q D cI cZ cO A L0 T0 n0 ad0 (pc + 1) ls (.int x :: st) h) : x_G p l e R s m args below meth c Q D cI cZ cO A L0 T0 n0 ad0 pc ls (st) h := by
  intro H locs cells slots ad lsR hI hL hc hs ha
  exact lv_iload_n hx hb hd rfl (hL.2.2 _ _ hl rfl) (k H locs cells slots ad lsR hI hL hc hs ha)
theorem s_iload (hx : p.tables.exec = Jvm.exec) (hb : c.code = cc) {i : Nat} {x : Int32} (hl : ls[i]? = some (.int x)) (hd : decode cc pc = .ok (.iload i, 2)) (k : x_G p l e R s m args below meth c Q D cI cZ cO A L0 T0 n0 ad0 (pc + 2) ls (.int x :: st) h) : x_G p l e R s m args below meth c Q D cI cZ cO A L0 T0 n0 ad0 pc ls (st) h := by
  intro H locs cells slots ad lsR hI hL hc hs ha
  exact lv_iload hx hb hd (hL.2.2 _ _ hl rfl) (k H locs cells slots ad lsR hI hL hc hs ha)
theorem s_aload_n (hx : p.tables.exec = Jvm.exec) (hb : c.code = cc) {i : Fin 4} {x : Nat} (hl : ls[(i : Nat)]? = some (.ref x)) (hd : decode cc pc = .ok (.aload_n i, 1)) (k : x_G p l e R s m args below meth c Q D cI cZ cO A L0 T0 n0 ad0 (pc + 1) ls (.ref x :: st) h) : x_G p l e R s m args below meth c Q D cI cZ cO A L0 T0 n0 ad0 pc ls (st) h := by
  intro H locs cells slots ad lsR hI hL hc hs ha
  exact lv_aload_n hx hb hd rfl (hL.2.2 _ _ hl rfl) (k H locs cells slots ad lsR hI hL hc hs ha)
theorem s_istore_n (hx : p.tables.exec = Jvm.exec) (hb : c.code = cc) {i : Fin 4} {x : Int32} (hi : (i : Nat) < ls.length) (hd : decode cc pc = .ok (.istore_n i, 1)) (k : x_G p l e R s m args below meth c Q D cI cZ cO A L0 T0 n0 ad0 (pc + 1) (ls.set (i : Nat) (.int x)) st h) : x_G p l e R s m args below meth c Q D cI cZ cO A L0 T0 n0 ad0 pc ls (.int x :: st) h := by
  intro H locs cells slots ad lsR hI hL hc hs ha
  exact lv_istore_n (x := x) (lv := x_lv ad ls) (nL := ls.length) hx hb hd rfl (x_L_has hL) hi rfl (fun ls' hl' => (k H locs cells slots ad ls' hI (x_L_of hi hl') hc hs ha))
theorem s_istore (hx : p.tables.exec = Jvm.exec) (hb : c.code = cc) {i : Nat} {x : Int32} (hi : i < ls.length) (hd : decode cc pc = .ok (.istore i, 2)) (k : x_G p l e R s m args below meth c Q D cI cZ cO A L0 T0 n0 ad0 (pc + 2) (ls.set i (.int x)) st h) : x_G p l e R s m args below meth c Q D cI cZ cO A L0 T0 n0 ad0 pc ls (.int x :: st) h := by
  intro H locs cells slots ad lsR hI hL hc hs ha
  exact lv_istore (x := x) (lv := x_lv ad ls) (nL := ls.length) hx hb hd (x_L_has hL) hi rfl (fun ls' hl' => (k H locs cells slots ad ls' hI (x_L_of hi hl') hc hs ha))
theorem s_astore_n (hx : p.tables.exec = Jvm.exec) (hb : c.code = cc) {i : Fin 4} {x : Nat} (hi : (i : Nat) < ls.length) (hd : decode cc pc = .ok (.astore_n i, 1)) (k : x_G p l e R s m args below meth c Q D cI cZ cO A L0 T0 n0 ad0 (pc + 1) (ls.set (i : Nat) (.ref x)) st h) : x_G p l e R s m args below meth c Q D cI cZ cO A L0 T0 n0 ad0 pc ls (.ref x :: st) h := by
  intro H locs cells slots ad lsR hI hL hc hs ha
  exact lv_astore_n (x := ad x) (lv := x_lv ad ls) (nL := ls.length) hx hb hd rfl (x_L_has hL) hi rfl (fun ls' hl' => (k H locs cells slots ad ls' hI (x_L_of hi hl') hc hs ha))
theorem s_iinc (hx : p.tables.exec = Jvm.exec) (hb : c.code = cc) {i : Nat} {n : Int} {x : Int32} (hl : ls[i]? = some (.int x)) (hd : decode cc pc = .ok (.iinc i n, 3)) (k : x_G p l e R s m args below meth c Q D cI cZ cO A L0 T0 n0 ad0 (pc + 3) (ls.set i (.int (x + Int32.ofInt n))) st h) : x_G p l e R s m args below meth c Q D cI cZ cO A L0 T0 n0 ad0 pc ls st h := by
  intro H locs cells slots ad lsR hI hL hc hs ha
  have hi : i < ls.length := (List.getElem?_eq_some_iff.mp hl).1
  obtain ⟨j, hj⟩ := List.mem_iff_getElem?.mp (x_lv_mem (ad := ad) hl rfl)
  exact lv_iinc (x := x) (lv := x_lv ad ls) (nL := ls.length) (k := j) hx hb hd (x_L_has hL) hj rfl hi rfl (fun ls' hl' => k H locs cells slots ad ls' hI (x_L_of hi hl') hc hs ha)
theorem s_iadd (hx : p.tables.exec = Jvm.exec) (hb : c.code = cc) {x y : Int32} (hd : decode cc pc = .ok (.iadd, 1)) (k : x_G p l e R s m args below meth c Q D cI cZ cO A L0 T0 n0 ad0 (pc + 1) ls (.int (x + y) :: st) h) : x_G p l e R s m args below meth c Q D cI cZ cO A L0 T0 n0 ad0 pc ls (.int y :: .int x :: st) h := by
  intro H locs cells slots ad lsR hI hL hc hs ha
  exact lv_iadd hx hb hd (k H locs cells slots ad lsR hI hL hc hs ha)
theorem s_isub (hx : p.tables.exec = Jvm.exec) (hb : c.code = cc) {x y : Int32} (hd : decode cc pc = .ok (.isub, 1)) (k : x_G p l e R s m args below meth c Q D cI cZ cO A L0 T0 n0 ad0 (pc + 1) ls (.int (x - y) :: st) h) : x_G p l e R s m args below meth c Q D cI cZ cO A L0 T0 n0 ad0 pc ls (.int y :: .int x :: st) h := by
  intro H locs cells slots ad lsR hI hL hc hs ha
  exact lv_isub hx hb hd (k H locs cells slots ad lsR hI hL hc hs ha)
theorem s_imul (hx : p.tables.exec = Jvm.exec) (hb : c.code = cc) {x y : Int32} (hd : decode cc pc = .ok (.imul, 1)) (k : x_G p l e R s m args below meth c Q D cI cZ cO A L0 T0 n0 ad0 (pc + 1) ls (.int (x * y) :: st) h) : x_G p l e R s m args below meth c Q D cI cZ cO A L0 T0 n0 ad0 pc ls (.int y :: .int x :: st) h := by
  intro H locs cells slots ad lsR hI hL hc hs ha
  exact lv_imul hx hb hd (k H locs cells slots ad lsR hI hL hc hs ha)
theorem s_iand (hx : p.tables.exec = Jvm.exec) (hb : c.code = cc) {x y : Int32} (hd : decode cc pc = .ok (.iand, 1)) (k : x_G p l e R s m args below meth c Q D cI cZ cO A L0 T0 n0 ad0 (pc + 1) ls (.int (x &&& y) :: st) h) : x_G p l e R s m args below meth c Q D cI cZ cO A L0 T0 n0 ad0 pc ls (.int y :: .int x :: st) h := by
  intro H locs cells slots ad lsR hI hL hc hs ha
  exact lv_iand hx hb hd (k H locs cells slots ad lsR hI hL hc hs ha)
theorem s_ior (hx : p.tables.exec = Jvm.exec) (hb : c.code = cc) {x y : Int32} (hd : decode cc pc = .ok (.ior, 1)) (k : x_G p l e R s m args below meth c Q D cI cZ cO A L0 T0 n0 ad0 (pc + 1) ls (.int (x ||| y) :: st) h) : x_G p l e R s m args below meth c Q D cI cZ cO A L0 T0 n0 ad0 pc ls (.int y :: .int x :: st) h := by
  intro H locs cells slots ad lsR hI hL hc hs ha
  exact lv_ior hx hb hd (k H locs cells slots ad lsR hI hL hc hs ha)
theorem s_ixor (hx : p.tables.exec = Jvm.exec) (hb : c.code = cc) {x y : Int32} (hd : decode cc pc = .ok (.ixor, 1)) (k : x_G p l e R s m args below meth c Q D cI cZ cO A L0 T0 n0 ad0 (pc + 1) ls (.int (x ^^^ y) :: st) h) : x_G p l e R s m args below meth c Q D cI cZ cO A L0 T0 n0 ad0 pc ls (.int y :: .int x :: st) h := by
  intro H locs cells slots ad lsR hI hL hc hs ha
  exact lv_ixor hx hb hd (k H locs cells slots ad lsR hI hL hc hs ha)
theorem s_ishl (hx : p.tables.exec = Jvm.exec) (hb : c.code = cc) {x y : Int32} (hd : decode cc pc = .ok (.ishl, 1)) (k : x_G p l e R s m args below meth c Q D cI cZ cO A L0 T0 n0 ad0 (pc + 1) ls (.int (x <<< (y &&& 31)) :: st) h) : x_G p l e R s m args below meth c Q D cI cZ cO A L0 T0 n0 ad0 pc ls (.int y :: .int x :: st) h := by
  intro H locs cells slots ad lsR hI hL hc hs ha
  exact lv_ishl hx hb hd (k H locs cells slots ad lsR hI hL hc hs ha)
theorem s_ishr (hx : p.tables.exec = Jvm.exec) (hb : c.code = cc) {x y : Int32} (hd : decode cc pc = .ok (.ishr, 1)) (k : x_G p l e R s m args below meth c Q D cI cZ cO A L0 T0 n0 ad0 (pc + 1) ls (.int (x >>> (y &&& 31)) :: st) h) : x_G p l e R s m args below meth c Q D cI cZ cO A L0 T0 n0 ad0 pc ls (.int y :: .int x :: st) h := by
  intro H locs cells slots ad lsR hI hL hc hs ha
  exact lv_ishr hx hb hd (k H locs cells slots ad lsR hI hL hc hs ha)
theorem s_iushr (hx : p.tables.exec = Jvm.exec) (hb : c.code = cc) {x y : Int32} (hd : decode cc pc = .ok (.iushr, 1)) (k : x_G p l e R s m args below meth c Q D cI cZ cO A L0 T0 n0 ad0 (pc + 1) ls (.int ((x.toUInt32 >>> (y.toUInt32 &&& Int32.toUInt32 31)).toInt32) :: st) h) : x_G p l e R s m args below meth c Q D cI cZ cO A L0 T0 n0 ad0 pc ls (.int y :: .int x :: st) h := by
  intro H locs cells slots ad lsR hI hL hc hs ha
  exact lv_iushr hx hb hd rfl (k H locs cells slots ad lsR hI hL hc hs ha)
theorem s_idiv (hx : p.tables.exec = Jvm.exec) (hb : c.code = cc) {x y : Int32} (h0 : ¬ y = 0) (hd : decode cc pc = .ok (.idiv, 1)) (k : x_G p l e R s m args below meth c Q D cI cZ cO A L0 T0 n0 ad0 (pc + 1) ls (.int (x / y) :: st) h) : x_G p l e R s m args below meth c Q D cI cZ cO A L0 T0 n0 ad0 pc ls (.int y :: .int x :: st) h := by
  intro H locs cells slots ad lsR hI hL hc hs ha
  exact lv_idiv hx hb hd h0 (k H locs cells slots ad lsR hI hL hc hs ha)
theorem s_irem (hx : p.tables.exec = Jvm.exec) (hb : c.code = cc) {x y : Int32} (h0 : ¬ y = 0) (hd : decode cc pc = .ok (.irem, 1)) (k : x_G p l e R s m args below meth c Q D cI cZ cO A L0 T0 n0 ad0 (pc + 1) ls (.int (x - x / y * y) :: st) h) : x_G p l e R s m args below meth c Q D cI cZ cO A L0 T0 n0 ad0 pc ls (.int y :: .int x :: st) h := by
  intro H locs cells slots ad lsR hI hL hc hs ha
  exact lv_irem hx hb hd h0 (k H locs cells slots ad lsR hI hL hc hs ha)
theorem s_icmp_eq (hx : p.tables.exec = Jvm.exec) (hb : c.code = cc) {x y : Int32} {off : Int} {t : Nat} (ht : (pc : Int) + off = (t : Int)) (hd : decode cc pc = .ok (.if_icmp .eq off, 3)) (k1 : x = y → x_G p l e R s m args below meth c Q D cI cZ cO A L0 T0 n0 ad0 t ls st h) (k2 : ¬ x = y → x_G p l e R s m args below meth c Q D cI cZ cO A L0 T0 n0 ad0 (pc + 3) ls st h) : x_G p l e R s m args below meth c Q D cI cZ cO A L0 T0 n0 ad0 pc ls (.int y :: .int x :: st) h := by
  intro H locs cells slots ad lsR hI hL hc hs ha
  exact lv_icmp_eq hx hb hd ht (fun q => k1 q H locs cells slots ad lsR hI hL hc hs ha) (fun q => k2 q H locs cells slots ad lsR hI hL hc hs ha)
theorem s_if_eq (hx : p.tables.exec = Jvm.exec) (hb : c.code = cc) {x : Int32} {off : Int} {t : Nat} (ht : (pc : Int) + off = (t : Int)) (hd : decode cc pc = .ok (.ifCond .eq off, 3)) (k1 : x = 0 → x_G p l e R s m args below meth c Q D cI cZ cO A L0 T0 n0 ad0 t ls st h) (k2 : ¬ x = 0 → x_G p l e R s m args below meth c Q D cI cZ cO A L0 T0 n0 ad0 (pc + 3) ls st h) : x_G p l e R s m args below meth c Q D cI cZ cO A L0 T0 n0 ad0 pc ls (.int x :: st) h := by
  intro H locs cells slots ad lsR hI hL hc hs ha
  exact lv_if_eq hx hb hd ht (fun q => k1 q H locs cells slots ad lsR hI hL hc hs ha) (fun q => k2 q H locs cells slots ad lsR hI hL hc hs ha)
theorem s_icmp_ne (hx : p.tables.exec = Jvm.exec) (hb : c.code = cc) {x y : Int32} {off : Int} {t : Nat} (ht : (pc : Int) + off = (t : Int)) (hd : decode cc pc = .ok (.if_icmp .ne off, 3)) (k1 : ¬ x = y → x_G p l e R s m args below meth c Q D cI cZ cO A L0 T0 n0 ad0 t ls st h) (k2 : x = y → x_G p l e R s m args below meth c Q D cI cZ cO A L0 T0 n0 ad0 (pc + 3) ls st h) : x_G p l e R s m args below meth c Q D cI cZ cO A L0 T0 n0 ad0 pc ls (.int y :: .int x :: st) h := by
  intro H locs cells slots ad lsR hI hL hc hs ha
  exact lv_icmp_ne hx hb hd ht (fun q => k1 q H locs cells slots ad lsR hI hL hc hs ha) (fun q => k2 q H locs cells slots ad lsR hI hL hc hs ha)
theorem s_if_ne (hx : p.tables.exec = Jvm.exec) (hb : c.code = cc) {x : Int32} {off : Int} {t : Nat} (ht : (pc : Int) + off = (t : Int)) (hd : decode cc pc = .ok (.ifCond .ne off, 3)) (k1 : ¬ x = 0 → x_G p l e R s m args below meth c Q D cI cZ cO A L0 T0 n0 ad0 t ls st h) (k2 : x = 0 → x_G p l e R s m args below meth c Q D cI cZ cO A L0 T0 n0 ad0 (pc + 3) ls st h) : x_G p l e R s m args below meth c Q D cI cZ cO A L0 T0 n0 ad0 pc ls (.int x :: st) h := by
  intro H locs cells slots ad lsR hI hL hc hs ha
  exact lv_if_ne hx hb hd ht (fun q => k1 q H locs cells slots ad lsR hI hL hc hs ha) (fun q => k2 q H locs cells slots ad lsR hI hL hc hs ha)
theorem s_icmp_lt (hx : p.tables.exec = Jvm.exec) (hb : c.code = cc) {x y : Int32} {off : Int} {t : Nat} (ht : (pc : Int) + off = (t : Int)) (hd : decode cc pc = .ok (.if_icmp .lt off, 3)) (k1 : x < y → x_G p l e R s m args below meth c Q D cI cZ cO A L0 T0 n0 ad0 t ls st h) (k2 : ¬ x < y → x_G p l e R s m args below meth c Q D cI cZ cO A L0 T0 n0 ad0 (pc + 3) ls st h) : x_G p l e R s m args below meth c Q D cI cZ cO A L0 T0 n0 ad0 pc ls (.int y :: .int x :: st) h := by
  intro H locs cells slots ad lsR hI hL hc hs ha
  exact lv_icmp_lt hx hb hd ht (fun q => k1 q H locs cells slots ad lsR hI hL hc hs ha) (fun q => k2 q H locs cells slots ad lsR hI hL hc hs ha)
theorem s_if_lt (hx : p.tables.exec = Jvm.exec) (hb : c.code = cc) {x : Int32} {off : Int} {t : Nat} (ht : (pc : Int) + off = (t : Int)) (hd : decode cc pc = .ok (.ifCond .lt off, 3)) (k1 : x < 0 → x_G p l e R s m args below meth c Q D cI cZ cO A L0 T0 n0 ad0 t ls st h) (k2 : ¬ x < 0 → x_G p l e R s m args below meth c Q D cI cZ cO A L0 T0 n0 ad0 (pc + 3) ls st h) : x_G p l e R s m args below meth c Q D cI cZ cO A L0 T0 n0 ad0 pc ls (.int x :: st) h := by
  intro H locs cells slots ad lsR hI hL hc hs ha
  exact lv_if_lt hx hb hd ht (fun q => k1 q H locs cells slots ad lsR hI hL hc hs ha) (fun q => k2 q H locs cells slots ad lsR hI hL hc hs ha)
theorem s_icmp_ge (hx : p.tables.exec = Jvm.exec) (hb : c.code = cc) {x y : Int32} {off : Int} {t : Nat} (ht : (pc : Int) + off = (t : Int)) (hd : decode cc pc = .ok (.if_icmp .ge off, 3)) (k1 : y ≤ x → x_G p l e R s m args below meth c Q D cI cZ cO A L0 T0 n0 ad0 t ls st h) (k2 : ¬ y ≤ x → x_G p l e R s m args below meth c Q D cI cZ cO A L0 T0 n0 ad0 (pc + 3) ls st h) : x_G p l e R s m args below meth c Q D cI cZ cO A L0 T0 n0 ad0 pc ls (.int y :: .int x :: st) h := by
  intro H locs cells slots ad lsR hI hL hc hs ha
  exact lv_icmp_ge hx hb hd ht (fun q => k1 q H locs cells slots ad lsR hI hL hc hs ha) (fun q => k2 q H locs cells slots ad lsR hI hL hc hs ha)
theorem s_if_ge (hx : p.tables.exec = Jvm.exec) (hb : c.code = cc) {x : Int32} {off : Int} {t : Nat} (ht : (pc : Int) + off = (t : Int)) (hd : decode cc pc = .ok (.ifCond .ge off, 3)) (k1 : 0 ≤ x → x_G p l e R s m args below meth c Q D cI cZ cO A L0 T0 n0 ad0 t ls st h) (k2 : ¬ 0 ≤ x → x_G p l e R s m args below meth c Q D cI cZ cO A L0 T0 n0 ad0 (pc + 3) ls st h) : x_G p l e R s m args below meth c Q D cI cZ cO A L0 T0 n0 ad0 pc ls (.int x :: st) h := by
  intro H locs cells slots ad lsR hI hL hc hs ha
  exact lv_if_ge hx hb hd ht (fun q => k1 q H locs cells slots ad lsR hI hL hc hs ha) (fun q => k2 q H locs cells slots ad lsR hI hL hc hs ha)
theorem s_icmp_gt (hx : p.tables.exec = Jvm.exec) (hb : c.code = cc) {x y : Int32} {off : Int} {t : Nat} (ht : (pc : Int) + off = (t : Int)) (hd : decode cc pc = .ok (.if_icmp .gt off, 3)) (k1 : y < x → x_G p l e R s m args below meth c Q D cI cZ cO A L0 T0 n0 ad0 t ls st h) (k2 : ¬ y < x → x_G p l e R s m args below meth c Q D cI cZ cO A L0 T0 n0 ad0 (pc + 3) ls st h) : x_G p l e R s m args below meth c Q D cI cZ cO A L0 T0 n0 ad0 pc ls (.int y :: .int x :: st) h := by
  intro H locs cells slots ad lsR hI hL hc hs ha
  exact lv_icmp_gt hx hb hd ht (fun q => k1 q H locs cells slots ad lsR hI hL hc hs ha) (fun q => k2 q H locs cells slots ad lsR hI hL hc hs ha)
theorem s_if_gt (hx : p.tables.exec = Jvm.exec) (hb : c.code = cc) {x : Int32} {off : Int} {t : Nat} (ht : (pc : Int) + off = (t : Int)) (hd : decode cc pc = .ok (.ifCond .gt off, 3)) (k1 : 0 < x → x_G p l e R s m args below meth c Q D cI cZ cO A L0 T0 n0 ad0 t ls st h) (k2 : ¬ 0 < x → x_G p l e R s m args below meth c Q D cI cZ cO A L0 T0 n0 ad0 (pc + 3) ls st h) : x_G p l e R s m args below meth c Q D cI cZ cO A L0 T0 n0 ad0 pc ls (.int x :: st) h := by
  intro H locs cells slots ad lsR hI hL hc hs ha
  exact lv_if_gt hx hb hd ht (fun q => k1 q H locs cells slots ad lsR hI hL hc hs ha) (fun q => k2 q H locs cells slots ad lsR hI hL hc hs ha)
theorem s_icmp_le (hx : p.tables.exec = Jvm.exec) (hb : c.code = cc) {x y : Int32} {off : Int} {t : Nat} (ht : (pc : Int) + off = (t : Int)) (hd : decode cc pc = .ok (.if_icmp .le off, 3)) (k1 : x ≤ y → x_G p l e R s m args below meth c Q D cI cZ cO A L0 T0 n0 ad0 t ls st h) (k2 : ¬ x ≤ y → x_G p l e R s m args below meth c Q D cI cZ cO A L0 T0 n0 ad0 (pc + 3) ls st h) : x_G p l e R s m args below meth c Q D cI cZ cO A L0 T0 n0 ad0 pc ls (.int y :: .int x :: st) h := by
  intro H locs cells slots ad lsR hI hL hc hs ha
  exact lv_icmp_le hx hb hd ht (fun q => k1 q H locs cells slots ad lsR hI hL hc hs ha) (fun q => k2 q H locs cells slots ad lsR hI hL hc hs ha)
theorem s_if_le (hx : p.tables.exec = Jvm.exec) (hb : c.code = cc) {x : Int32} {off : Int} {t : Nat} (ht : (pc : Int) + off = (t : Int)) (hd : decode cc pc = .ok (.ifCond .le off, 3)) (k1 : x ≤ 0 → x_G p l e R s m args below meth c Q D cI cZ cO A L0 T0 n0 ad0 t ls st h) (k2 : ¬ x ≤ 0 → x_G p l e R s m args below meth c Q D cI cZ cO A L0 T0 n0 ad0 (pc + 3) ls st h) : x_G p l e R s m args below meth c Q D cI cZ cO A L0 T0 n0 ad0 pc ls (.int x :: st) h := by
  intro H locs cells slots ad lsR hI hL hc hs ha
  exact lv_if_le hx hb hd ht (fun q => k1 q H locs cells slots ad lsR hI hL hc hs ha) (fun q => k2 q H locs cells slots ad lsR hI hL hc hs ha)
theorem s_goto (hx : p.tables.exec = Jvm.exec) (hb : c.code = cc) {off : Int} {t : Nat} (ht : (pc : Int) + off = (t : Int)) (hd : decode cc pc = .ok (.goto off, 3)) (k : x_G p l e R s m args below meth c Q D cI cZ cO A L0 T0 n0 ad0 t ls st h) : x_G p l e R s m args below meth c Q D cI cZ cO A L0 T0 n0 ad0 pc ls st h := by
  intro H locs cells slots ad lsR hI hL hc hs ha
  exact lv_goto hx hb hd ht (k H locs cells slots ad lsR hI hL hc hs ha)
theorem s_dup (hx : p.tables.exec = Jvm.exec) (hb : c.code = cc) {x : Value} (h1 : x.category = 1) (hd : decode cc pc = .ok (.dup, 1)) (k : x_G p l e R s m args below meth c Q D cI cZ cO A L0 T0 n0 ad0 (pc + 1) ls (x :: x :: st) h) : x_G p l e R s m args below meth c Q D cI cZ cO A L0 T0 n0 ad0 pc ls (x :: st) h := by
  intro H locs cells slots ad lsR hI hL hc hs ha
  exact lv_dup hx hb hd (by rw [x_tr_cat]; exact h1) (k H locs cells slots ad lsR hI hL hc hs ha)
theorem s_dup2 (hx : p.tables.exec = Jvm.exec) (hb : c.code = cc) {x y : Value} (h1 : x.category = 1) (h2 : y.category = 1) (hd : decode cc pc = .ok (.dup2, 1)) (k : x_G p l e R s m args below meth c Q D cI cZ cO A L0 T0 n0 ad0 (pc + 1) ls (x :: y :: x :: y :: st) h) : x_G p l e R s m args below meth c Q D cI cZ cO A L0 T0 n0 ad0 pc ls (x :: y :: st) h := by
  intro H locs cells slots ad lsR hI hL hc hs ha
  exact lv_dup2_11 hx hb hd (by rw [x_tr_cat]; exact h1) (by rw [x_tr_cat]; exact h2) (k H locs cells slots ad lsR hI hL hc hs ha)
theorem s_pop (hx : p.tables.exec = Jvm.exec) (hb : c.code = cc) {x : Value} (h1 : x.category = 1) (hd : decode cc pc = .ok (.pop, 1)) (k : x_G p l e R s m args below meth c Q D cI cZ cO A L0 T0 n0 ad0 (pc + 1) ls (st) h) : x_G p l e R s m args below meth c Q D cI cZ cO A L0 T0 n0 ad0 pc ls (x :: st) h := by
  intro H locs cells slots ad lsR hI hL hc hs ha
  exact lv_pop hx hb hd (by rw [x_tr_cat]; exact h1) (k H locs cells slots ad lsR hI hL hc hs ha)
theorem s_get (hx : p.tables.exec = Jvm.exec) (hb : c.code = cc) (hown : s.vm.findClass (x_N cn) = some m.cls) (hts : ∀ w ∈ x_tb, w.before args s = true) {i a b : Nat} (ha8 : a < 8) (hbN : b < (x_C a).2.2) (hlk : Cond.fieldLink (x_N cn) i (x_T a b).1 (x_T a b).2.1 (x_T a b).2.2.1 ∈ x_tb) {x : Nat} {rf : List (Option Nat)} (hq : h.1[x]? = some (0, a, rf)) (hd : decode cc pc = .ok (.getfield i, 3)) {v : Value} (hv : ∀ ad, x_fv ad h.2 x a rf b = x_tr ad v) (k : x_G p l e R s m args below meth c Q D cI cZ cO A L0 T0 n0 ad0 (pc + 3) ls (v :: st) h) : x_G p l e R s m args below meth c Q D cI cZ cO A L0 T0 n0 ad0 pc ls (.ref x :: st) h := by
  intro H locs cells slots ad lsR hI hL hc hs ha
  have hk := (k H locs cells slots ad lsR hI hL hc hs ha)
  refine va_get hx hb hts (x_in_ok a ha8) hown hI.1 hI.2.1 x (x_W_at hq) (x_cl_at a ha8) b hbN (hts _ hlk) (fun _ z => z) (by rw [x_fs_at hbN, hv ad]) hd hk
theorem s_put (hx : p.tables.exec = Jvm.exec) (hb : c.code = cc) (hown : s.vm.findClass (x_N cn) = some m.cls) (hts : ∀ w ∈ x_tb, w.before args s = true) {i a b : Nat} (ha8 : a < 8) (hbN : b < (x_C a).2.2) (hlk : Cond.fieldLink (x_N cn) i (x_T a b).1 (x_T a b).2.1 (x_T a b).2.2.1 ∈ x_tb) {x : Nat} {rf : List (Option Nat)} {y : Int32} (hq : h.1[x]? = some (0, a, rf)) (hkd : x_kd a b ≠ 2) (hfin : (x_T a b).2.2.2 = false) (hn : narrow (x_ty a b) (.int y) = .int y) (hf : fits (x_ty a b) (.int y) = true) (hd : decode cc pc = .ok (.putfield i, 3)) (k : x_G p l e R s m args below meth c Q D cI cZ cO A L0 T0 n0 ad0 (pc + 3) ls st (h.1, x_up h.2 x b y)) : x_G p l e R s m args below meth c Q D cI cZ cO A L0 T0 n0 ad0 pc ls (.int y :: .ref x :: st) h := by
  intro H locs cells slots ad lsR hI hL hc hs ha
  refine va_put hx hb hts (x_in_ok a ha8) (x_ty a) (x_ty_ok a ha8) (x_nm_ok a ha8) hown hI.1 hI.2.1 hI.2.2.1 hI.2.2.2 x (x_W_at hq) (x_cl_at a ha8) b hbN (hts _ hlk) (fun _ z => z) hfin (x_ty_ok a ha8 b hbN) hn hf (by rw [x_fs_len]; exact hbN) hd (fun H1 locs1 g1 g2 g3 => ?_)
  have e1 : (x_W cI cZ cO ad h).set x (ad x, .inr (a, (x_fs ad h.2 x a rf).set b (.int y))) = x_W cI cZ cO ad (h.1, x_up h.2 x b y) := by
    rw [x_fs_set hkd]
    exact x_W_upd (S := h.1) (V := h.2) (V' := x_up h.2 x b y) (q := (0, a, rf)) hq (fun j hj => x_up_ne hj)
  have g1 := Eq.mp (congrArg (fun w => va_P D x_cl w H1) e1) g1
  have g2 := Eq.mp (congrArg (fun w => va_D A w) e1) g2
  exact k H1 locs1 cells slots ad lsR ⟨hI.1, g1, g2, g3⟩ hL hc hs ha
theorem s_putR (hx : p.tables.exec = Jvm.exec) (hb : c.code = cc) (hown : s.vm.findClass (x_N cn) = some m.cls) (hts : ∀ w ∈ x_tb, w.before args s = true) {i a b : Nat} (ha8 : a < 8) (hbN : b < (x_C a).2.2) (hlk : Cond.fieldLink (x_N cn) i (x_T a b).1 (x_T a b).2.1 (x_T a b).2.2.1 ∈ x_tb) {x y : Nat} {rf : List (Option Nat)} (hq : h.1[x]? = some (0, a, rf)) (hkd : x_kd a b = 2) (hrl : b < rf.length) (hfin : (x_T a b).2.2.2 = true) (hdc : (x_T a b).1 = x_N cn) (hini : meth.name = "<init>") (hrk : refKind (x_ty a b) = true) (hd : decode cc pc = .ok (.putfield i, 3)) (k : x_G p l e R s m args below meth c Q D cI cZ cO A L0 T0 n0 ad0 (pc + 3) ls st (h.1.set x (0, a, rf.set b (some y)), h.2)) : x_G p l e R s m args below meth c Q D cI cZ cO A L0 T0 n0 ad0 pc ls (.ref y :: .ref x :: st) h := by
  intro H locs cells slots ad lsR hI hL hc hs ha
  have hn : narrow (x_ty a b) (.ref (ad y)) = .ref (ad y) := by cases x_ty a b <;> rfl
  have hf : fits (x_ty a b) (.ref (ad y)) = true := by
    revert hrk
    cases x_ty a b <;> intro hrk <;> first | rfl | cases hrk
  refine va_putF hx hb hts (x_in_ok a ha8) (x_ty a) (x_ty_ok a ha8) (x_nm_ok a ha8) hown hI.1 hI.2.1 hI.2.2.1 hI.2.2.2 x (x_W_at hq) (x_cl_at a ha8) b hbN (hts _ hlk) (fun _ z => z) hfin hini hdc (x_ty_ok a ha8 b hbN) hn hf (by rw [x_fs_len]; exact hbN) hd (fun H1 locs1 g1 g2 g3 => ?_)
  have e1 : (x_W cI cZ cO ad h).set x (ad x, .inr (a, (x_fs ad h.2 x a rf).set b (.ref (ad y)))) = x_W cI cZ cO ad (h.1.set x (0, a, rf.set b (some y)), h.2) := by
    rw [x_fs_setR hkd hrl]
    exact x_W_upS (S := h.1) (V := h.2) (q := (0, a, rf.set b (some y))) (x_lt hq)
  have g1 := Eq.mp (congrArg (fun w => va_P D x_cl w H1) e1) g1
  have g2 := Eq.mp (congrArg (fun w => va_D A w) e1) g2
  refine k H1 locs1 cells slots ad lsR ⟨hI.1, g1, g2, g3⟩ hL (by simpa using hc) ?_ (by simpa using ha)
  rw [hs]
  exact (x_sl_set (S := h.1) (V := h.2) (q' := (0, a, rf.set b (some y))) hq rfl).symm
theorem s_iald (hx : p.tables.exec = Jvm.exec) (hb : c.code = cc) {x n : Nat} {rf : List (Option Nat)} {i : Int32} (hq : h.1[x]? = some (1, n, rf)) (hin : vp_in i n) (hd : decode cc pc = .ok (.iaload, 1)) (k : x_G p l e R s m args below meth c Q D cI cZ cO A L0 T0 n0 ad0 (pc + 1) ls (.int (h.2 x i.toNatClampNeg) :: st) h) : x_G p l e R s m args below meth c Q D cI cZ cO A L0 T0 n0 ad0 pc ls (.int i :: .ref x :: st) h := by
  intro H locs cells slots ad lsR hI hL hc hs ha
  exact va_iald hx hb hI.1 hI.2.1 x 0 (x_W_at hq) rfl hin hd (k H locs cells slots ad lsR hI hL hc hs ha)
theorem s_zald (hx : p.tables.exec = Jvm.exec) (hb : c.code = cc) {x n : Nat} {rf : List (Option Nat)} {i : Int32} (hq : h.1[x]? = some (2, n, rf)) (hin : vp_in i n) (hd : decode cc pc = .ok (.baload, 1)) (k : x_G p l e R s m args below meth c Q D cI cZ cO A L0 T0 n0 ad0 (pc + 1) ls (.int (h.2 x i.toNatClampNeg) :: st) h) : x_G p l e R s m args below meth c Q D cI cZ cO A L0 T0 n0 ad0 pc ls (.int i :: .ref x :: st) h := by
  intro H locs cells slots ad lsR hI hL hc hs ha
  exact va_zald hx hb hI.1 hI.2.1 x 1 (x_W_at hq) rfl hin hd (k H locs cells slots ad lsR hI hL hc hs ha)
theorem s_iast (hx : p.tables.exec = Jvm.exec) (hb : c.code = cc) {x n : Nat} {rf : List (Option Nat)} {i y : Int32} (hq : h.1[x]? = some (1, n, rf)) (hin : vp_in i n) (hd : decode cc pc = .ok (.iastore, 1)) (k : x_G p l e R s m args below meth c Q D cI cZ cO A L0 T0 n0 ad0 (pc + 1) ls st (h.1, x_up h.2 x i.toNatClampNeg y)) : x_G p l e R s m args below meth c Q D cI cZ cO A L0 T0 n0 ad0 pc ls (.int y :: .int i :: .ref x :: st) h := by
  intro H locs cells slots ad lsR hI hL hc hs ha
  refine va_iast hx hb hI.1 hI.2.1 hI.2.2.1 hI.2.2.2 x 0 (x_W_at hq) rfl hin hd (fun H1 locs1 g1 g2 g3 => ?_)
  have e1 : (x_W cI cZ cO ad h).set x (ad x, .inl (cI, n, .inl (upd (h.2 x) i.toNatClampNeg y))) = x_W cI cZ cO ad (h.1, x_up h.2 x i.toNatClampNeg y) := by
    rw [← x_up_eq]
    exact x_W_upd (S := h.1) (V := h.2) (V' := x_up h.2 x i.toNatClampNeg y) (q := (1, n, rf)) hq (fun j hj => x_up_ne hj)
  rw [e1] at g1 g2
  exact k H1 locs1 cells slots ad lsR ⟨hI.1, g1, g2, g3⟩ hL hc hs ha
theorem s_zast (hx : p.tables.exec = Jvm.exec) (hb : c.code = cc) {x n : Nat} {rf : List (Option Nat)} {i y : Int32} (hq : h.1[x]? = some (2, n, rf)) (hin : vp_in i n) (hy : y = 0 ∨ y = 1) (hd : decode cc pc = .ok (.bastore, 1)) (k : x_G p l e R s m args below meth c Q D cI cZ cO A L0 T0 n0 ad0 (pc + 1) ls st (h.1, x_up h.2 x i.toNatClampNeg y)) : x_G p l e R s m args below meth c Q D cI cZ cO A L0 T0 n0 ad0 pc ls (.int y :: .int i :: .ref x :: st) h := by
  intro H locs cells slots ad lsR hI hL hc hs ha
  refine va_zast hx hb hI.1 hI.2.1 hI.2.2.1 hI.2.2.2 x 1 (x_W_at hq) rfl hin hd (fun H1 locs1 g1 g2 g3 => ?_)
  have e0 : vp_nar .boolean y = y := by rcases hy with rfl | rfl <;> rfl
  rw [e0] at g1 g2
  have e1 : (x_W cI cZ cO ad h).set x (ad x, .inl (cZ, n, .inl (upd (h.2 x) i.toNatClampNeg y))) = x_W cI cZ cO ad (h.1, x_up h.2 x i.toNatClampNeg y) := by
    rw [← x_up_eq]
    exact x_W_upd (S := h.1) (V := h.2) (V' := x_up h.2 x i.toNatClampNeg y) (q := (2, n, rf)) hq (fun j hj => x_up_ne hj)
  rw [e1] at g1 g2
  exact k H1 locs1 cells slots ad lsR ⟨hI.1, g1, g2, g3⟩ hL hc hs ha
theorem s_aald (hx : p.tables.exec = Jvm.exec) (hb : c.code = cc) {x n y : Nat} {rf : List (Option Nat)} {i : Int32} (hq : h.1[x]? = some (3, n, rf)) (hin : vp_in i n) (hy : rf[i.toNatClampNeg]? = some (some y)) (hd : decode cc pc = .ok (.aaload, 1)) (k : x_G p l e R s m args below meth c Q D cI cZ cO A L0 T0 n0 ad0 (pc + 1) ls (.ref y :: st) h) : x_G p l e R s m args below meth c Q D cI cZ cO A L0 T0 n0 ad0 pc ls (.int i :: .ref x :: st) h := by
  intro H locs cells slots ad lsR hI hL hc hs ha
  have hk := (k H locs cells slots ad lsR hI hL hc hs ha)
  refine va_aldq (C := RX4) hx hb hI.1 hI.2.1 x 2 (x_W_at hq) rfl hin hd ?_
  simp only [hy, Option.getD_some, Option.map_some, va_rf]
  exact hk
theorem s_aast (hx : p.tables.exec = Jvm.exec) (hb : c.code = cc) {x n y : Nat} {rf rf2 : List (Option Nat)} {i : Int32} (hq : h.1[x]? = some (3, n, rf)) (hv : h.1[y]? = some (0, 4, rf2)) (hin : vp_in i n) (hl : i.toNatClampNeg < rf.length) (hd : decode cc pc = .ok (.aastore, 1)) (k : x_G p l e R s m args below meth c Q D cI cZ cO A L0 T0 n0 ad0 (pc + 1) ls st (h.1.set x (3, n, rf.set i.toNatClampNeg (some y)), h.2)) : x_G p l e R s m args below meth c Q D cI cZ cO A L0 T0 n0 ad0 pc ls (.ref y :: .int i :: .ref x :: st) h := by
  intro H locs cells slots ad lsR hI hL hc hs ha
  refine va_astq hx hb hI.1 hI.2.1 hI.2.2.1 hI.2.2.2 x 2 y 4 (r := (RX4, TX4, 5)) (x_W_at hq) rfl (x_W_at hv) rfl hin hd (fun H1 locs1 g1 g2 g3 => ?_)
  have e0 : va_up (fun j => ((rf[j]?).getD none).map ad) i.toNatClampNeg (some (ad y)) = fun j => (((rf.set i.toNatClampNeg (some y))[j]?).getD none).map ad := by
    funext j
    by_cases hj : j = i.toNatClampNeg
    · subst hj; simp [va_up, hl]
    · simp [va_up, hj, List.getElem?_set, Ne.symm hj]
  have e1 : (x_W cI cZ cO ad h).set x (ad x, .inl (cO, n, .inr (.inr (.inr (.inr (va_up (fun j => ((rf[j]?).getD none).map ad) i.toNatClampNeg (some (ad y)))))))) = x_W cI cZ cO ad (h.1.set x (3, n, rf.set i.toNatClampNeg (some y)), h.2) := by
    rw [e0]
    exact x_W_upS (S := h.1) (V := h.2) (q := (3, n, rf.set i.toNatClampNeg (some y))) (x_lt hq)
  rw [e1] at g1 g2
  refine k H1 locs1 cells slots ad lsR ⟨hI.1, g1, g2, g3⟩ hL (by simpa using hc) ?_ (by simpa using ha)
  rw [hs]
  exact (x_sl_set (S := h.1) (V := h.2) (q' := (3, n, rf.set i.toNatClampNeg (some y))) hq rfl).symm
theorem s_alen1 (hx : p.tables.exec = Jvm.exec) (hb : c.code = cc) {x n : Nat} {rf : List (Option Nat)} (hq : h.1[x]? = some (1, n, rf)) (hd : decode cc pc = .ok (.arraylength, 1)) (k : x_G p l e R s m args below meth c Q D cI cZ cO A L0 T0 n0 ad0 (pc + 1) ls (.int (Int32.ofNat n) :: st) h) : x_G p l e R s m args below meth c Q D cI cZ cO A L0 T0 n0 ad0 pc ls (.ref x :: st) h := by
  intro H locs cells slots ad lsR hI hL hc hs ha
  exact va_alen hx hb hI.1 hI.2.1 x 0 (x_W_at hq) rfl rfl hd (k H locs cells slots ad lsR hI hL hc hs ha)
theorem s_alen2 (hx : p.tables.exec = Jvm.exec) (hb : c.code = cc) {x n : Nat} {rf : List (Option Nat)} (hq : h.1[x]? = some (2, n, rf)) (hd : decode cc pc = .ok (.arraylength, 1)) (k : x_G p l e R s m args below meth c Q D cI cZ cO A L0 T0 n0 ad0 (pc + 1) ls (.int (Int32.ofNat n) :: st) h) : x_G p l e R s m args below meth c Q D cI cZ cO A L0 T0 n0 ad0 pc ls (.ref x :: st) h := by
  intro H locs cells slots ad lsR hI hL hc hs ha
  exact va_alen hx hb hI.1 hI.2.1 x 1 (x_W_at hq) rfl rfl hd (k H locs cells slots ad lsR hI hL hc hs ha)
theorem s_objInit (hx : p.tables.exec = Jvm.exec) (hb : c.code = cc) (hown : s.vm.findClass (x_N cn) = some m.cls) (hts : ∀ w ∈ x_tb, w.before args s = true) {i x : Nat} (hlk : Cond.methodLink (x_N cn) i Lib.objectInit ∈ x_tb) (hml : c.maxLocals = ls.length) (hst : st.length ≤ 4) (hF : 1 ≤ R.frames) (hLo : 200 ≤ R.locals) (hd : decode cc pc = .ok (.invokespecial i, 3)) (k : x_G p l e R s m args below meth c Q D cI cZ cO A L0 T0 n0 ad0 (pc + 3) ls st h) : x_G p l e R s m args below meth c Q D cI cZ cO A L0 T0 n0 ad0 pc ls (.ref x :: st) h := by
  intro H locs cells slots ad lsR hI hL hc hs ha
  have hk := (k H locs cells slots ad lsR hI hL hc hs ha)
  have hcs := x_catsum st ad
  refine W.objInit hx hb hown (hts _ hlk) (hts _ (x_ok1_in x_obj_ok.1)) (hts _ (x_ok1_in x_obj_ok.2)) (g := F0 m pc lsR ((.ref x :: st).map (x_tr ad))) (a := ad x) (rest := st.map (x_tr ad)) rfl (by show lsR.size = _; rw [hL.1, hml]) rfl hd hF (by show 2 * 0 + _ + 12 ≤ _; omega) hk
theorem s_mmax (hx : p.tables.exec = Jvm.exec) (hb : c.code = cc) (hown : s.vm.findClass (x_N cn) = some m.cls) (hts : ∀ w ∈ x_tb, w.before args s = true) {i : Nat} {x y : Int32} (hlk : Cond.methodLink (x_N cn) i Lib.Math.max.name ∈ x_tb) (hml : c.maxLocals = ls.length) (hst : st.length ≤ 50) (hF : 1 ≤ R.frames) (hLo : 200 ≤ R.locals) (hr1 : h.1.length ≤ R.cells + L0) (hr2 : x_sl h ≤ R.slots + T0) (hd : decode cc pc = .ok (.invokestatic i, 3)) (k : x_G p l e R s m args below meth c Q D cI cZ cO A L0 T0 n0 ad0 (pc + 3) ls (.int (if x < y then y else x) :: st) h) : x_G p l e R s m args below meth c Q D cI cZ cO A L0 T0 n0 ad0 pc ls (.int y :: .int x :: st) h := by
  intro H locs cells slots ad lsR hI hL hc hs ha
  have hk := (k H locs cells slots ad lsR hI hL hc hs ha)
  have hcs := x_catsum st ad
  exact va_mmax hx hb (by rw [hml, hL.1]) hown (hts _ hlk) (hts _ (x_ok1_in x_mth_ok.2.1)) (hts _ (x_ok1_in x_mth_ok.1)) (hts _ (x_ok1_in x_mth_ok.2.2.1)) hF (by omega) (by omega) (by omega) hd hk
theorem s_mmin (hx : p.tables.exec = Jvm.exec) (hb : c.code = cc) (hown : s.vm.findClass (x_N cn) = some m.cls) (hts : ∀ w ∈ x_tb, w.before args s = true) {i : Nat} {x y : Int32} (hlk : Cond.methodLink (x_N cn) i Lib.Math.min.name ∈ x_tb) (hml : c.maxLocals = ls.length) (hst : st.length ≤ 50) (hF : 1 ≤ R.frames) (hLo : 200 ≤ R.locals) (hr1 : h.1.length ≤ R.cells + L0) (hr2 : x_sl h ≤ R.slots + T0) (hd : decode cc pc = .ok (.invokestatic i, 3)) (k : x_G p l e R s m args below meth c Q D cI cZ cO A L0 T0 n0 ad0 (pc + 3) ls (.int (if y < x then y else x) :: st) h) : x_G p l e R s m args below meth c Q D cI cZ cO A L0 T0 n0 ad0 pc ls (.int y :: .int x :: st) h := by
  intro H locs cells slots ad lsR hI hL hc hs ha
  have hk := (k H locs cells slots ad lsR hI hL hc hs ha)
  have hcs := x_catsum st ad
  exact va_mmin hx hb (by rw [hml, hL.1]) hown (hts _ hlk) (hts _ (x_ok1_in x_mth_ok.2.2.2.1)) (hts _ (x_ok1_in x_mth_ok.1)) (hts _ (x_ok1_in x_mth_ok.2.2.2.2)) hF (by omega) (by omega) (by omega) hd hk
theorem s_copy (hx : p.tables.exec = Jvm.exec) (hb : c.code = cc) (hown : s.vm.findClass (x_N cn) = some m.cls) (hts : ∀ w ∈ x_tb, w.before args s = true) {i x y n0' n1 : Nat} {rf rf2 : List (Option Nat)} {sp dp n : Int32} (hlk : Cond.methodLink (x_N cn) i arraycopyName ∈ x_tb) (hml : c.maxLocals = ls.length) (hst : st.length ≤ 4) (hF : 1 ≤ R.frames) (hLo : 200 ≤ R.locals) (hq : h.1[x]? = some (1, n0', rf)) (hq2 : h.1[y]? = some (1, n1, rf2)) (h1 : ¬ sp < 0) (h2 : ¬ dp < 0) (h3 : ¬ n < 0) (h4 : sp.toNatClampNeg + n.toNatClampNeg ≤ n0') (h5 : dp.toNatClampNeg + n.toNatClampNeg ≤ n1) (hd : decode cc pc = .ok (.invokestatic i, 3)) (k : x_G p l e R s m args below meth c Q D cI cZ cO A L0 T0 n0 ad0 (pc + 3) ls st (h.1, fun q => if q = y then va_cpy (h.2 x) (h.2 y) sp.toNatClampNeg dp.toNatClampNeg n.toNatClampNeg else h.2 q)) : x_G p l e R s m args below meth c Q D cI cZ cO A L0 T0 n0 ad0 pc ls (.int n :: .int dp :: .ref y :: .int sp :: .ref x :: st) h := by
  intro H locs cells slots ad lsR hI hL hc hs ha
  have hcs := x_catsum st ad
  have hnw : nativeFrameWords "java/lang/System" "arraycopy" 5 ≤ 100 := by decide +kernel
  refine va_copyi hx hb (by rw [hml, hL.1]) hown (hts _ hlk) (hts _ (x_ok1_in x_cpy_ok.1)) (hts _ (x_ok1_in x_cpy_ok.2.1)) (hts _ (x_ok1_in x_cpy_ok.2.2)) hI.1 hI.2.1 hI.2.2.1 hI.2.2.2 x y 0 0 (ty := .int) (x_W_at hq) (x_W_at hq2) rfl rfl rfl h1 h2 h3 h4 h5 (fun _ _ => rfl) hF (by omega) hd (fun H1 locs1 g1 g2 g3 => ?_)
  have e1 : (x_W cI cZ cO ad h).set y (ad y, .inl (cI, n1, .inl (va_cpy (h.2 x) (h.2 y) sp.toNatClampNeg dp.toNatClampNeg n.toNatClampNeg))) = x_W cI cZ cO ad (h.1, fun q => if q = y then va_cpy (h.2 x) (h.2 y) sp.toNatClampNeg dp.toNatClampNeg n.toNatClampNeg else h.2 q) := by
    have := x_W_upd (cI := cI) (cZ := cZ) (cO := cO) (ad := ad) (S := h.1) (V := h.2) (V' := fun q => if q = y then va_cpy (h.2 x) (h.2 y) sp.toNatClampNeg dp.toNatClampNeg n.toNatClampNeg else h.2 q) (q := (1, n1, rf2)) hq2 (fun j hj => by simp [hj])
    rw [← this]
    simp [x_cell]
  rw [e1] at g1 g2
  exact k H1 locs1 cells slots ad lsR ⟨hI.1, g1, g2, g3⟩ hL hc hs ha
theorem s_new (hx : p.tables.exec = Jvm.exec) (hb : c.code = cc) (hown : s.vm.findClass (x_N cn) = some m.cls) (hts : ∀ w ∈ x_tb, w.before args s = true) {i a : Nat} (hr1 : h.1.length + 1 ≤ R.cells + L0) (hA : ∀ y, s.heap.size ≤ y → A y) (hok : x_rok h.1.length ls st h.1 = true) (ha8 : a < 8) (hr2 : x_sl h + (x_C a).2.2 ≤ R.slots + T0) (hlk : Cond.classLink (x_N cn) i (x_N a) ∈ x_tb) (hd : decode cc pc = .ok (.new i, 3)) (k : x_G p l e R s m args below meth c Q D cI cZ cO A L0 T0 n0 ad0 (pc + 3) ls (.ref h.1.length :: st) (x_push h.1 h.2 (0, a, List.replicate (x_nf.getD a 0) none))) : x_G p l e R s m args below meth c Q D cI cZ cO A L0 T0 n0 ad0 pc ls st h := by
  intro H locs cells slots ad lsR hI hL hc hs ha
  obtain ⟨⟨o1, o2⟩, o3⟩ : (ls.all (x_rv h.1.length) = true ∧ st.all (x_rv h.1.length) = true) ∧ h.1.all (fun q => q.2.2.all (x_ro h.1.length)) = true := by simpa only [x_rok, Bool.and_eq_true] using hok
  have hadN : ∀ z', x_ad ad0 n0 (x_adp ad h.1.length z') (x_push h.1 h.2 (0, a, List.replicate (x_nf.getD a 0) none)).1.length := fun z' => by
    refine ⟨by simp [x_push]; have := ha.1; omega, fun i hi => ?_, fun q => ?_⟩
    · have := ha.1
      simp [x_adp, Nat.ne_of_lt (Nat.lt_of_lt_of_le hi this), ha.2.1 i hi]
    · have := ha.1
      simp [x_push] at q
      omega
  have hn := List.all_eq_true.mp x_new_ok a (List.mem_range.mpr ha8)
  simp only [Bool.and_eq_true, decide_eq_true_eq] at hn
  have hfs : ∀ (V : xV) (ad' : Nat → Nat) (z : Nat), (∀ k, V z k = 0) → ∀ j, j < (x_C a).2.2 → defaultValue (x_ty a j) = vp_V (x_fs ad' V z a (List.replicate (x_nf.getD a 0) none)) j := by
    intro V ad' z hV j hj
    have e1 : vp_V (x_fs ad' V z a (List.replicate (x_nf.getD a 0) none)) j = x_fv ad' V z a (List.replicate (x_nf.getD a 0) none) j := by simp [vp_V, List.getD, x_fs_at hj]
    have hko := List.all_eq_true.mp (x_kok_all a ha8) j (List.mem_range.mpr hj)
    rw [e1]
    unfold x_fv
    simp only [Bool.or_eq_true, Bool.and_eq_true, beq_iff_eq] at hko
    rcases hko with (⟨⟨q1, q2⟩, -⟩ | ⟨⟨q1, q2⟩, -⟩) | ⟨⟨⟨q1, -⟩, -⟩, q2⟩
    · rw [q1, q2, hV]; rfl
    · rw [q1, q2, hV]; rfl
    · rw [if_pos q1]
      have e2 : ((List.replicate (x_nf.getD a 0) (none : Option Nat))[j]?).getD none = none := by
        rw [List.getElem?_replicate]
        split <;> rfl
      rw [e2]
      revert q2
      cases x_ty a j <;> intro q2 <;> first | rfl | cases q2
  refine va_new hx hb hts (x_in_ok a ha8) (x_ty a) (x_ty_ok a ha8) hown (by have := hts _ hlk; rw [← hn.2] at this; exact this) (hts _ (x_ok1_in hn.1.1)) (hts _ (x_ok1_in hn.1.2)) hI.1 hI.2.1 hI.2.2.1 hI.2.2.2 hA (x_cl_at a ha8) (fs := x_fs ad (x_push h.1 h.2 (0, a, List.replicate (x_nf.getD a 0) none)).2 h.1.length a (List.replicate (x_nf.getD a 0) none)) (hfs _ _ _ (fun k => by simp [x_push])) (by omega) (by omega) hd (fun z H1 g1 g2 g3 => ?_)
  have e0 : (.inr (a, x_fs ad (x_push h.1 h.2 (0, a, List.replicate (x_nf.getD a 0) none)).2 h.1.length a (List.replicate (x_nf.getD a 0) none)) : va_E) = x_cell cI cZ cO (x_adp ad h.1.length z) (x_push h.1 h.2 (0, a, List.replicate (x_nf.getD a 0) none)).2 h.1.length (0, a, List.replicate (x_nf.getD a 0) none) := by
    rw [x_cell_ad (by simp [x_ro])]
    rfl
  rw [e0] at g1 g2
  have e1 := x_W_push (cI := cI) (cZ := cZ) (cO := cO) (ad := ad) (S := h.1) (V := h.2) (q := (0, a, List.replicate (x_nf.getD a 0) none)) (a := z) o3
  rw [show x_W cI cZ cO ad h = x_W cI cZ cO ad (h.1, h.2) from rfl, e1] at g1 g2
  have hk := k H1 locs (cells + 1) (slots + (x_C a).2.2) (x_adp ad h.1.length z) lsR ⟨hI.1, g1, g2, g3⟩ (x_L_ro o1 hL) (by simp [x_push]; omega) (by rw [x_sl_push]; show _ = x_sl h + _; rw [← hs]; simp only [x_slots]; omega) (hadN z)
  rw [List.map_cons, x_tr_ro o2] at hk
  have e2 : x_tr (x_adp ad h.1.length z) (.ref h.1.length) = .ref z := by simp [x_tr, x_adp]
  rw [e2] at hk
  exact hk
theorem s_newI (hx : p.tables.exec = Jvm.exec) (hb : c.code = cc) (hown : s.vm.findClass (x_N cn) = some m.cls) (hts : ∀ w ∈ x_tb, w.before args s = true) {n : Int32} (hr1 : h.1.length + 1 ≤ R.cells + L0) (hA : ∀ y, s.heap.size ≤ y → A y) (hok : x_rok h.1.length ls st h.1 = true) (hn0 : ¬ n < 0) (hn1 : n.toNatClampNeg ≤ 1000) (hr2 : x_sl h + n.toNatClampNeg ≤ R.slots + T0) (hd : decode cc pc = .ok (.newarray .int, 2)) (k : x_G p l e R s m args below meth c Q D cI cZ cO A L0 T0 n0 ad0 (pc + 2) ls (.ref h.1.length :: st) (x_push h.1 h.2 (1, n.toNatClampNeg, []))) : x_G p l e R s m args below meth c Q D cI cZ cO A L0 T0 n0 ad0 pc ls (.int n :: st) h := by
  intro H locs cells slots ad lsR hI hL hc hs ha
  obtain ⟨⟨o1, o2⟩, o3⟩ : (ls.all (x_rv h.1.length) = true ∧ st.all (x_rv h.1.length) = true) ∧ h.1.all (fun q => q.2.2.all (x_ro h.1.length)) = true := by simpa only [x_rok, Bool.and_eq_true] using hok
  have hadN : ∀ z', x_ad ad0 n0 (x_adp ad h.1.length z') (x_push h.1 h.2 (1, n.toNatClampNeg, [])).1.length := fun z' => by
    refine ⟨by simp [x_push]; have := ha.1; omega, fun i hi => ?_, fun q => ?_⟩
    · have := ha.1
      simp [x_adp, Nat.ne_of_lt (Nat.lt_of_lt_of_le hi this), ha.2.1 i hi]
    · have := ha.1
      simp [x_push] at q
      omega
  have hby : n.toNatClampNeg * componentBytes .int ≤ 536870912 := Nat.le_trans (Nat.mul_le_mul hn1 (show componentBytes .int ≤ 8 by decide)) (by decide)
  refine va_newa (atype := .int) (ty := .int) (N' := n.toNatClampNeg) (a0 := (n.toNatClampNeg, .inl (fun _ => 0))) hx hb (hts _ (x_ok1_in x_arr_ok.1)) rfl hI.1 hI.2.1 hI.2.2.1 hI.2.2.2 hA (fun cA => rfl) hn0 rfl hby (by omega) (by omega) hd (fun z cA H1 gK g1 g2 g3 => ?_)
  have eA : cA = cI := by
    have q1 := (gK.2 3 _ rfl).2
    have q2 := (hI.1.2 0 _ rfl).2
    exact Option.some.inj (q1.symm.trans q2)
  subst eA
  have e0 : (.inl (cA, n.toNatClampNeg, .inl (fun _ => 0)) : va_E) = x_cell cA cZ cO (x_adp ad h.1.length z) (x_push h.1 h.2 (1, n.toNatClampNeg, [])).2 h.1.length (1, n.toNatClampNeg, []) := by simp [x_cell, x_push]
  rw [e0] at g1 g2
  have e1 := x_W_push (cI := cA) (cZ := cZ) (cO := cO) (ad := ad) (S := h.1) (V := h.2) (q := (1, n.toNatClampNeg, [])) (a := z) o3
  rw [show x_W cA cZ cO ad h = x_W cA cZ cO ad (h.1, h.2) from rfl, e1] at g1 g2
  have hk := k H1 locs (cells + 1) (slots + n.toNatClampNeg) (x_adp ad h.1.length z) lsR ⟨hI.1, g1, g2, g3⟩ (x_L_ro o1 hL) (by simp [x_push]; omega) (by rw [x_sl_push]; show _ = x_sl h + _; rw [← hs]; simp only [x_slots]; omega) (hadN z)
  rw [List.map_cons, x_tr_ro o2] at hk
  have e2 : x_tr (x_adp ad h.1.length z) (.ref h.1.length) = .ref z := by simp [x_tr, x_adp]
  rw [e2] at hk
  exact hk
theorem s_newZ (hx : p.tables.exec = Jvm.exec) (hb : c.code = cc) (hown : s.vm.findClass (x_N cn) = some m.cls) (hts : ∀ w ∈ x_tb, w.before args s = true) {n : Int32} (hr1 : h.1.length + 1 ≤ R.cells + L0) (hA : ∀ y, s.heap.size ≤ y → A y) (hok : x_rok h.1.length ls st h.1 = true) (hn0 : ¬ n < 0) (hn1 : n.toNatClampNeg ≤ 1000) (hr2 : x_sl h + n.toNatClampNeg ≤ R.slots + T0) (hd : decode cc pc = .ok (.newarray .boolean, 2)) (k : x_G p l e R s m args below meth c Q D cI cZ cO A L0 T0 n0 ad0 (pc + 2) ls (.ref h.1.length :: st) (x_push h.1 h.2 (2, n.toNatClampNeg, []))) : x_G p l e R s m args below meth c Q D cI cZ cO A L0 T0 n0 ad0 pc ls (.int n :: st) h := by
  intro H locs cells slots ad lsR hI hL hc hs ha
  obtain ⟨⟨o1, o2⟩, o3⟩ : (ls.all (x_rv h.1.length) = true ∧ st.all (x_rv h.1.length) = true) ∧ h.1.all (fun q => q.2.2.all (x_ro h.1.length)) = true := by simpa only [x_rok, Bool.and_eq_true] using hok
  have hadN : ∀ z', x_ad ad0 n0 (x_adp ad h.1.length z') (x_push h.1 h.2 (2, n.toNatClampNeg, [])).1.length := fun z' => by
    refine ⟨by simp [x_push]; have := ha.1; omega, fun i hi => ?_, fun q => ?_⟩
    · have := ha.1
      simp [x_adp, Nat.ne_of_lt (Nat.lt_of_lt_of_le hi this), ha.2.1 i hi]
    · have := ha.1
      simp [x_push] at q
      omega
  have hby : n.toNatClampNeg * componentBytes .boolean ≤ 536870912 := Nat.le_trans (Nat.mul_le_mul hn1 (show componentBytes .boolean ≤ 8 by decide)) (by decide)
  refine va_newa (atype := .boolean) (ty := .boolean) (N' := n.toNatClampNeg) (a0 := (n.toNatClampNeg, .inl (fun _ => 0))) hx hb (hts _ (x_ok1_in x_arr_ok.2)) rfl hI.1 hI.2.1 hI.2.2.1 hI.2.2.2 hA (fun cA => rfl) hn0 rfl hby (by omega) (by omega) hd (fun z cA H1 gK g1 g2 g3 => ?_)
  have eA : cA = cZ := by
    have q1 := (gK.2 3 _ rfl).2
    have q2 := (hI.1.2 1 _ rfl).2
    exact Option.some.inj (q1.symm.trans q2)
  subst eA
  have e0 : (.inl (cA, n.toNatClampNeg, .inl (fun _ => 0)) : va_E) = x_cell cI cA cO (x_adp ad h.1.length z) (x_push h.1 h.2 (2, n.toNatClampNeg, [])).2 h.1.length (2, n.toNatClampNeg, []) := by simp [x_cell, x_push]
  rw [e0] at g1 g2
  have e1 := x_W_push (cI := cI) (cZ := cA) (cO := cO) (ad := ad) (S := h.1) (V := h.2) (q := (2, n.toNatClampNeg, [])) (a := z) o3
  rw [show x_W cI cA cO ad h = x_W cI cA cO ad (h.1, h.2) from rfl, e1] at g1 g2
  have hk := k H1 locs (cells + 1) (slots + n.toNatClampNeg) (x_adp ad h.1.length z) lsR ⟨hI.1, g1, g2, g3⟩ (x_L_ro o1 hL) (by simp [x_push]; omega) (by rw [x_sl_push]; show _ = x_sl h + _; rw [← hs]; simp only [x_slots]; omega) (hadN z)
  rw [List.map_cons, x_tr_ro o2] at hk
  have e2 : x_tr (x_adp ad h.1.length z) (.ref h.1.length) = .ref z := by simp [x_tr, x_adp]
  rw [e2] at hk
  exact hk
theorem s_newO (hx : p.tables.exec = Jvm.exec) (hb : c.code = cc) (hown : s.vm.findClass (x_N cn) = some m.cls) (hts : ∀ w ∈ x_tb, w.before args s = true) {i : Nat} {n : Int32} (hr1 : h.1.length + 1 ≤ R.cells + L0) (hA : ∀ y, s.heap.size ≤ y → A y) (hok : x_rok h.1.length ls st h.1 = true) (hao : va_AO RX4 s) (hlk : Cond.classLink (x_N cn) i (x_N 4) ∈ x_tb) (hn0 : ¬ n < 0) (hn1 : n.toNatClampNeg ≤ 1000) (hr2 : x_sl h + n.toNatClampNeg ≤ R.slots + T0) (hd : decode cc pc = .ok (.anewarray i, 3)) (k : x_G p l e R s m args below meth c Q D cI cZ cO A L0 T0 n0 ad0 (pc + 3) ls (.ref h.1.length :: st) (x_push h.1 h.2 (3, n.toNatClampNeg, List.replicate n.toNatClampNeg none))) : x_G p l e R s m args below meth c Q D cI cZ cO A L0 T0 n0 ad0 pc ls (.int n :: st) h := by
  intro H locs cells slots ad lsR hI hL hc hs ha
  obtain ⟨⟨o1, o2⟩, o3⟩ : (ls.all (x_rv h.1.length) = true ∧ st.all (x_rv h.1.length) = true) ∧ h.1.all (fun q => q.2.2.all (x_ro h.1.length)) = true := by simpa only [x_rok, Bool.and_eq_true] using hok
  have hadN : ∀ z', x_ad ad0 n0 (x_adp ad h.1.length z') (x_push h.1 h.2 (3, n.toNatClampNeg, List.replicate n.toNatClampNeg none)).1.length := fun z' => by
    refine ⟨by simp [x_push]; have := ha.1; omega, fun i hi => ?_, fun q => ?_⟩
    · have := ha.1
      simp [x_adp, Nat.ne_of_lt (Nat.lt_of_lt_of_le hi this), ha.2.1 i hi]
    · have := ha.1
      simp [x_push] at q
      omega
  refine va_newq (C := RX4) (N' := n.toNatClampNeg) hx hb hown (hts _ hlk) hao hI.1 hI.2.1 hI.2.2.1 hI.2.2.2 hA hn0 rfl (by omega) (by omega) (by omega) hd (fun z cA H1 gK g1 g2 g3 => ?_)
  have eA : cA = cO := by
    obtain ⟨kA, comp, q1, q2, q3, q4⟩ := (gK.2 3 _ rfl).2
    obtain ⟨kA', comp', r1, r2, r3, r4⟩ := (hI.1.2 2 _ rfl).2
    exact Option.some.inj (q4.symm.trans r4)
  subst eA
  have e0 : (.inl (cA, n.toNatClampNeg, .inr (.inr (.inr (.inr (fun _ => none))))) : va_E) = x_cell cI cZ cA (x_adp ad h.1.length z) (x_push h.1 h.2 (3, n.toNatClampNeg, List.replicate n.toNatClampNeg none)).2 h.1.length (3, n.toNatClampNeg, List.replicate n.toNatClampNeg none) := by
    have : ∀ j, (((List.replicate n.toNatClampNeg (none : Option Nat))[j]?).getD none) = none := fun j => by
      rw [List.getElem?_replicate]
      split <;> rfl
    simp only [x_cell, this, Option.map_none]
  rw [e0] at g1 g2
  have e1 := x_W_push (cI := cI) (cZ := cZ) (cO := cA) (ad := ad) (S := h.1) (V := h.2) (q := (3, n.toNatClampNeg, List.replicate n.toNatClampNeg none)) (a := z) o3
  rw [show x_W cI cZ cA ad h = x_W cI cZ cA ad (h.1, h.2) from rfl, e1] at g1 g2
  have hk := k H1 locs (cells + 1) (slots + n.toNatClampNeg) (x_adp ad h.1.length z) lsR ⟨hI.1, g1, g2, g3⟩ (x_L_ro o1 hL) (by simp [x_push]; omega) (by rw [x_sl_push]; show _ = x_sl h + _; rw [← hs]; simp only [x_slots]; omega) (hadN z)
  rw [List.map_cons, x_tr_ro o2] at hk
  have e2 : x_tr (x_adp ad h.1.length z) (.ref h.1.length) = .ref z := by simp [x_tr, x_adp]
  rw [e2] at hk
  exact hk
theorem x_sw_spec (L : List (Int32 × Nat)) (x : Int32) (d : Nat) : (∃ q ∈ L, q.1 = x ∧ x_sw L x d = q.2) ∨ ((∀ q ∈ L, q.1 ≠ x) ∧ x_sw L x d = d) := by
  induction L with
  | nil => exact Or.inr ⟨fun q hq => absurd hq List.not_mem_nil, rfl⟩
  | cons q r ih =>
    by_cases hq : q.1 = x
    · exact Or.inl ⟨q, List.mem_cons_self, hq, by simp [x_sw, hq]⟩
    · rcases ih with ⟨z, h1, h2, h3⟩ | ⟨h1, h2⟩
      · exact Or.inl ⟨z, List.mem_cons_of_mem _ h1, h2, by simp [x_sw, hq, h3]⟩
      · refine Or.inr ⟨fun z hz => ?_, by simp [x_sw, hq, h2]⟩
        rcases List.mem_cons.mp hz with rfl | hz
        · exact hq
        · exact h1 z hz
theorem s_table (hx : p.tables.exec = Jvm.exec) (hb : c.code = cc) {d lo hi : Int} {offs : Array Int} {len a cs : Nat} {x : Int32} (ha' : (pc : Int) + d = (a : Int)) (h1 : (x_sws.getD cs []).all (fun q => decide (¬ q.1.toInt < lo) && decide (¬ hi < q.1.toInt) && offs[(q.1.toInt - lo).toNat]? == some ((q.2 : Int) - pc)) = true) (h2 : (List.range (hi - lo + 1).toNat).all (fun i => (x_sws.getD cs []).any (fun q => q.1.toInt == lo + i)) = true) (hd : decode cc pc = .ok (.tableswitch d lo hi offs, len)) (k : x_G p l e R s m args below meth c Q D cI cZ cO A L0 T0 n0 ad0 (x_sw (x_sws.getD cs []) x a) ls st h) : x_G p l e R s m args below meth c Q D cI cZ cO A L0 T0 n0 ad0 pc ls (.int x :: st) h := by
  intro H locs cells slots ad lsR hI hL hc hs ha
  have hk := k H locs cells slots ad lsR hI hL hc hs ha
  rcases x_sw_spec (x_sws.getD cs []) x a with ⟨q, q1, q2, q3⟩ | ⟨q1, q2⟩
  · have hq := List.all_eq_true.mp h1 q q1
    simp only [Bool.and_eq_true, decide_eq_true_eq, beq_iff_eq] at hq
    rw [q3] at hk
    subst q2
    exact lv_tableIn hx hb hd hq.1.1 hq.1.2 hq.2 (by omega) hk
  · rw [q2] at hk
    refine lv_tableOut hx hb hd ?_ ha' hk
    rcases Int.lt_or_le x.toInt lo with z | z
    · exact Or.inl z
    · rcases Int.lt_or_le hi x.toInt with y | y
      · exact Or.inr y
      · exfalso
        have hq := List.all_eq_true.mp h2 (x.toInt - lo).toNat (List.mem_range.mpr (by omega))
        obtain ⟨w, w1, w2⟩ := List.any_eq_true.mp hq
        simp only [beq_iff_eq] at w2
        exact q1 w w1 (Int32.toInt_inj.mp (by omega))
theorem x_find_sw (pc : Int) (L : List (Int32 × Nat)) (x : Int32) (d : Nat) : (L.map (fun q => (q.1.toInt, (q.2 : Int) - pc))).find? (·.1 == x.toInt) = none ∧ x_sw L x d = d ∨ ∃ q : Int32 × Nat, (L.map (fun q => (q.1.toInt, (q.2 : Int) - pc))).find? (·.1 == x.toInt) = some (q.1.toInt, (q.2 : Int) - pc) ∧ x_sw L x d = q.2 := by
  induction L with
  | nil => exact Or.inl ⟨rfl, rfl⟩
  | cons q r ih =>
    by_cases hq : q.1 = x
    · exact Or.inr ⟨q, by simp [hq], by simp [x_sw, hq]⟩
    · have hn : ¬ q.1.toInt = x.toInt := fun z => hq (Int32.toInt_inj.mp z)
      rcases ih with ⟨h1, h2⟩ | ⟨z, h1, h2⟩
      · exact Or.inl ⟨by rw [List.map_cons, List.find?_cons_of_neg (by simpa using hn)]; exact h1, by simp [x_sw, hq, h2]⟩
      · exact Or.inr ⟨z, by rw [List.map_cons, List.find?_cons_of_neg (by simpa using hn)]; exact h1, by simp [x_sw, hq, h2]⟩
theorem s_look (hx : p.tables.exec = Jvm.exec) (hb : c.code = cc) {d : Int} {ps : Array (Int × Int)} {len a cs : Nat} {x : Int32} (ha' : (pc : Int) + d = (a : Int)) (h1 : (x_sws.getD cs []).map (fun q => (q.1.toInt, (q.2 : Int) - pc)) = ps.toList) (h2 : (ps.toList.zip (ps.toList.drop 1)).all (fun (a, next) => a.1 < next.1) = true) (hd : decode cc pc = .ok (.lookupswitch d ps, len)) (k : x_G p l e R s m args below meth c Q D cI cZ cO A L0 T0 n0 ad0 (x_sw (x_sws.getD cs []) x a) ls st h) : x_G p l e R s m args below meth c Q D cI cZ cO A L0 T0 n0 ad0 pc ls (.int x :: st) h := by
  intro H locs cells slots ad lsR hI hL hc hs ha
  have hk := k H locs cells slots ad lsR hI hL hc hs ha
  rcases x_find_sw pc (x_sws.getD cs []) x a with ⟨q1, q2⟩ | ⟨q, q1, q2⟩
  · rw [h1] at q1
    rw [q2] at hk
    exact lv_lookup hx hb hd h2 (Op.lookupswitch.offset_none q1) ha' hk
  · rw [h1] at q1
    rw [q2] at hk
    exact lv_lookup hx hb hd h2 (Op.lookupswitch.offset_some q1) (by omega) hk
end Steps
end
section
section Inv
variable {nf : List Nat} {sws : List (List (Int32 × Nat))} {pc nx a b cs : Nat} {v : Int32} {ls st : List Value} {h : xH} {c' : xC}
theorem v_0 (hs : x_step nf sws (pc, 0, nx, a, b, cs, v) ls st h = some (.inl c')) : c' = (nx, ls, .int v :: st, h) := by
  simp only [x_step, x_mem, x_new] at hs
  (repeat' (split at hs)) <;> (try cases hs)
  all_goals exact rfl
theorem v_1 (hs : x_step nf sws (pc, 1, nx, a, b, cs, v) ls st h = some (.inl c')) : ∃ x : Int32, ls[a]? = some (.int x) ∧ c' = (nx, ls, .int x :: st, h) := by
  simp only [x_step, x_mem, x_new] at hs
  (repeat' (split at hs)) <;> (try cases hs)
  all_goals exact ⟨_, by assumption, rfl⟩
theorem v_2 (hs : x_step nf sws (pc, 2, nx, a, b, cs, v) ls st h = some (.inl c')) : ∃ x : Nat, ls[a]? = some (.ref x) ∧ c' = (nx, ls, .ref x :: st, h) := by
  simp only [x_step, x_mem, x_new] at hs
  (repeat' (split at hs)) <;> (try cases hs)
  all_goals exact ⟨_, by assumption, rfl⟩
theorem v_3 (hs : x_step nf sws (pc, 3, nx, a, b, cs, v) ls st h = some (.inl c')) : ∃ (x : Int32) (st' : List Value), st = .int x :: st' ∧ a < ls.length ∧ c' = (nx, ls.set a (.int x), st', h) := by
  simp only [x_step, x_mem, x_new] at hs
  (repeat' (split at hs)) <;> (try cases hs)
  all_goals exact ⟨_, _, rfl, by assumption, rfl⟩
theorem v_4 (hs : x_step nf sws (pc, 4, nx, a, b, cs, v) ls st h = some (.inl c')) : ∃ (x : Nat) (st' : List Value), st = .ref x :: st' ∧ a < ls.length ∧ c' = (nx, ls.set a (.ref x), st', h) := by
  simp only [x_step, x_mem, x_new] at hs
  (repeat' (split at hs)) <;> (try cases hs)
  all_goals exact ⟨_, _, rfl, by assumption, rfl⟩
theorem v_5 (hs : x_step nf sws (pc, 5, nx, a, b, cs, v) ls st h = some (.inl c')) : ∃ x : Int32, ls[a]? = some (.int x) ∧ c' = (nx, ls.set a (.int (x + v)), st, h) := by
  simp only [x_step, x_mem, x_new] at hs
  (repeat' (split at hs)) <;> (try cases hs)
  all_goals exact ⟨_, by assumption, rfl⟩
theorem v_6 (hs : x_step nf sws (pc, 6, nx, a, b, cs, v) ls st h = some (.inl c')) : ∃ (x y z : Int32) (st' : List Value), st = .int y :: .int x :: st' ∧ x_bin b x y = some z ∧ st'.length ≤ 50 ∧ c' = (nx, ls, .int z :: st', h) := by
  simp only [x_step, x_mem, x_new] at hs
  (repeat' (split at hs)) <;> (try cases hs)
  all_goals exact ⟨_, _, _, _, rfl, by assumption, by assumption, rfl⟩
theorem v_7 (hs : x_step nf sws (pc, 7, nx, a, b, cs, v) ls st h = some (.inl c')) : ∃ (x y : Int32) (st' : List Value), st = .int y :: .int x :: st' ∧ c' = (if x_cmp b x y then a else nx, ls, st', h) := by
  simp only [x_step] at hs
  split at hs
  · cases hs
    exact ⟨_, _, _, rfl, rfl⟩
  · cases hs
theorem v_8 (hs : x_step nf sws (pc, 8, nx, a, b, cs, v) ls st h = some (.inl c')) : ∃ (x : Int32) (st' : List Value), st = .int x :: st' ∧ c' = (if x_cmp b x 0 then a else nx, ls, st', h) := by
  simp only [x_step] at hs
  split at hs
  · cases hs
    exact ⟨_, _, rfl, rfl⟩
  · cases hs
theorem v_9 (hs : x_step nf sws (pc, 9, nx, a, b, cs, v) ls st h = some (.inl c')) : c' = (a, ls, st, h) := by
  simp only [x_step, x_mem, x_new] at hs
  (repeat' (split at hs)) <;> (try cases hs)
  all_goals exact rfl
theorem v_10 (hs : x_step nf sws (pc, 10, nx, a, b, cs, v) ls st h = some (.inl c')) : ∃ (x : Value) (st' : List Value), st = x :: st' ∧ x.category = 1 ∧ c' = (nx, ls, x :: x :: st', h) := by
  simp only [x_step, x_mem, x_new] at hs
  (repeat' (split at hs)) <;> (try cases hs)
  all_goals exact ⟨_, _, rfl, by assumption, rfl⟩
theorem v_11 (hs : x_step nf sws (pc, 11, nx, a, b, cs, v) ls st h = some (.inl c')) : ∃ (x y : Value) (st' : List Value), st = x :: y :: st' ∧ (x.category = 1 ∧ y.category = 1) ∧ c' = (nx, ls, x :: y :: x :: y :: st', h) := by
  simp only [x_step, x_mem, x_new] at hs
  (repeat' (split at hs)) <;> (try cases hs)
  all_goals exact ⟨_, _, _, rfl, by assumption, rfl⟩
theorem v_12 (hs : x_step nf sws (pc, 12, nx, a, b, cs, v) ls st h = some (.inl c')) : ∃ (x : Value) (st' : List Value), st = x :: st' ∧ x.category = 1 ∧ c' = (nx, ls, st', h) := by
  simp only [x_step, x_mem, x_new] at hs
  (repeat' (split at hs)) <;> (try cases hs)
  all_goals exact ⟨_, _, rfl, by assumption, rfl⟩
theorem v_13 (hs : x_step nf sws (pc, 13, nx, a, b, cs, v) ls st h = some (.inl c')) : ∃ (x : Nat) (st' : List Value) (rf : List (Option Nat)), st = .ref x :: st' ∧ h.1[x]? = some (0, a, rf) ∧ c' = (nx, ls, .int (h.2 x b) :: st', h) := by
  simp only [x_step, x_mem, x_new] at hs
  (repeat' (split at hs)) <;> (try cases hs)
  all_goals (first | exact ⟨_, _, _, rfl, by subst_vars; assumption, rfl⟩ | (subst_vars; simp_all))
theorem v_14 (hs : x_step nf sws (pc, 14, nx, a, b, cs, v) ls st h = some (.inl c')) : ∃ (x y : Nat) (st' : List Value) (rf : List (Option Nat)), st = .ref x :: st' ∧ (h.1[x]? = some (0, a, rf) ∧ rf[b]? = some (some y)) ∧ c' = (nx, ls, .ref y :: st', h) := by
  simp only [x_step, x_mem, x_new] at hs
  (repeat' (split at hs)) <;> (try cases hs)
  all_goals (subst_vars; exact ⟨_, _, _, _, rfl, ⟨by assumption, by assumption⟩, rfl⟩)
theorem v_15 (hs : x_step nf sws (pc, 15, nx, a, b, cs, v) ls st h = some (.inl c')) : ∃ (x : Nat) (y : Int32) (st' : List Value) (rf : List (Option Nat)), st = .int y :: .ref x :: st' ∧ h.1[x]? = some (0, a, rf) ∧ c' = (nx, ls, st', (h.1, x_up h.2 x b y)) := by
  simp only [x_step, x_mem, x_new] at hs
  (repeat' (split at hs)) <;> (try cases hs)
  all_goals (first | exact ⟨_, _, _, _, rfl, by subst_vars; assumption, rfl⟩ | (subst_vars; simp_all))
theorem v_16 (hs : x_step nf sws (pc, 16, nx, a, b, cs, v) ls st h = some (.inl c')) : ∃ (x : Nat) (y : Int32) (st' : List Value) (rf : List (Option Nat)), st = .int y :: .ref x :: st' ∧ (h.1[x]? = some (0, a, rf) ∧ (y = 0 ∨ y = 1)) ∧ c' = (nx, ls, st', (h.1, x_up h.2 x b y)) := by
  simp only [x_step, x_mem, x_new] at hs
  (repeat' (split at hs)) <;> (try cases hs)
  rename_i hz
  obtain ⟨rfl, hy⟩ := hz
  exact ⟨_, _, _, _, rfl, ⟨by assumption, hy⟩, rfl⟩
theorem v_17 (hs : x_step nf sws (pc, 17, nx, a, b, cs, v) ls st h = some (.inl c')) : ∃ (x y : Nat) (st' : List Value) (rf : List (Option Nat)), st = .ref y :: .ref x :: st' ∧ (h.1[x]? = some (0, a, rf) ∧ b < rf.length) ∧ c' = (nx, ls, st', (h.1.set x (0, a, rf.set b (some y)), h.2)) := by
  simp only [x_step, x_mem, x_new] at hs
  (repeat' (split at hs)) <;> (try cases hs)
  rename_i hz
  obtain ⟨rfl, hy⟩ := hz
  exact ⟨_, _, _, _, rfl, ⟨by assumption, hy⟩, rfl⟩
theorem v_18 (hs : x_step nf sws (pc, 18, nx, a, b, cs, v) ls st h = some (.inl c')) : ∃ (x n : Nat) (i : Int32) (st' : List Value) (rf : List (Option Nat)), st = .int i :: .ref x :: st' ∧ (h.1[x]? = some (1, n, rf) ∧ x_in i n = true) ∧ c' = (nx, ls, .int (h.2 x i.toNatClampNeg) :: st', h) := by
  simp only [x_step, x_mem, x_new] at hs
  (repeat' (split at hs)) <;> (try cases hs)
  all_goals (subst_vars; exact ⟨_, _, _, _, _, rfl, ⟨by assumption, by assumption⟩, rfl⟩)
theorem v_19 (hs : x_step nf sws (pc, 19, nx, a, b, cs, v) ls st h = some (.inl c')) : ∃ (x n : Nat) (i y : Int32) (st' : List Value) (rf : List (Option Nat)), st = .int y :: .int i :: .ref x :: st' ∧ (h.1[x]? = some (1, n, rf) ∧ x_in i n = true) ∧ c' = (nx, ls, st', (h.1, x_up h.2 x i.toNatClampNeg y)) := by
  simp only [x_step, x_mem, x_new] at hs
  (repeat' (split at hs)) <;> (try cases hs)
  all_goals (subst_vars; exact ⟨_, _, _, _, _, _, rfl, ⟨by assumption, by assumption⟩, rfl⟩)
theorem v_20 (hs : x_step nf sws (pc, 20, nx, a, b, cs, v) ls st h = some (.inl c')) : ∃ (x n : Nat) (i : Int32) (st' : List Value) (rf : List (Option Nat)), st = .int i :: .ref x :: st' ∧ (h.1[x]? = some (2, n, rf) ∧ x_in i n = true) ∧ c' = (nx, ls, .int (h.2 x i.toNatClampNeg) :: st', h) := by
  simp only [x_step, x_mem, x_new] at hs
  (repeat' (split at hs)) <;> (try cases hs)
  all_goals (subst_vars; exact ⟨_, _, _, _, _, rfl, ⟨by assumption, by assumption⟩, rfl⟩)
theorem v_21 (hs : x_step nf sws (pc, 21, nx, a, b, cs, v) ls st h = some (.inl c')) : ∃ (x n : Nat) (i y : Int32) (st' : List Value) (rf : List (Option Nat)), st = .int y :: .int i :: .ref x :: st' ∧ (h.1[x]? = some (2, n, rf) ∧ x_in i n = true ∧ (y = 0 ∨ y = 1)) ∧ c' = (nx, ls, st', (h.1, x_up h.2 x i.toNatClampNeg y)) := by
  simp only [x_step, x_mem, x_new] at hs
  (repeat' (split at hs)) <;> (try cases hs)
  all_goals (subst_vars; exact ⟨_, _, _, _, _, _, rfl, ⟨by assumption, by assumption⟩, rfl⟩)
theorem v_22 (hs : x_step nf sws (pc, 22, nx, a, b, cs, v) ls st h = some (.inl c')) : ∃ (x n y : Nat) (i : Int32) (st' : List Value) (rf : List (Option Nat)), st = .int i :: .ref x :: st' ∧ (h.1[x]? = some (3, n, rf) ∧ x_in i n = true ∧ rf[i.toNatClampNeg]? = some (some y)) ∧ c' = (nx, ls, .ref y :: st', h) := by
  simp only [x_step, x_mem, x_new] at hs
  (repeat' (split at hs)) <;> (try cases hs)
  all_goals (subst_vars; exact ⟨_, _, _, _, _, _, rfl, ⟨by assumption, by assumption, by assumption⟩, rfl⟩)
theorem v_23 (hs : x_step nf sws (pc, 23, nx, a, b, cs, v) ls st h = some (.inl c')) : ∃ (x n y : Nat) (i : Int32) (st' : List Value) (rf rf2 : List (Option Nat)), st = .ref y :: .int i :: .ref x :: st' ∧ (h.1[x]? = some (3, n, rf) ∧ h.1[y]? = some (0, 4, rf2) ∧ x_in i n = true ∧ i.toNatClampNeg < rf.length) ∧ c' = (nx, ls, st', (h.1.set x (3, n, rf.set i.toNatClampNeg (some y)), h.2)) := by
  simp only [x_step, x_mem, x_new] at hs
  (repeat' (split at hs)) <;> (try cases hs)
  all_goals (subst_vars; exact ⟨_, _, _, _, _, _, _, rfl, ⟨by assumption, by assumption, by assumption⟩, rfl⟩)
theorem v_24 (hs : x_step nf sws (pc, 24, nx, a, b, cs, v) ls st h = some (.inl c')) : ∃ (x n t : Nat) (st' : List Value) (rf : List (Option Nat)), st = .ref x :: st' ∧ (h.1[x]? = some (t + 1, n, rf) ∧ t < 2) ∧ c' = (nx, ls, .int (Int32.ofNat n) :: st', h) := by
  simp only [x_step, x_mem, x_new] at hs
  (repeat' (split at hs)) <;> (try cases hs)
  all_goals (subst_vars; exact ⟨_, _, _, _, _, rfl, ⟨by assumption, by assumption⟩, rfl⟩)
theorem v_25 (hs : x_step nf sws (pc, 25, nx, a, b, cs, v) ls st h = some (.inl c')) : False := by
  simp only [x_step, x_mem, x_new] at hs
  (repeat' (split at hs)) <;> cases hs
theorem v_26 (hs : x_step nf sws (pc, 26, nx, a, b, cs, v) ls st h = some (.inl c')) : False := by
  simp only [x_step, x_mem, x_new] at hs
  (repeat' (split at hs)) <;> cases hs
theorem v_27 (hs : x_step nf sws (pc, 27, nx, a, b, cs, v) ls st h = some (.inl c')) : False := by
  simp only [x_step, x_mem, x_new] at hs
  (repeat' (split at hs)) <;> cases hs
theorem v_28 (hs : x_step nf sws (pc, 28, nx, a, b, cs, v) ls st h = some (.inl c')) : False := by
  simp only [x_step, x_mem, x_new] at hs
  (repeat' (split at hs)) <;> cases hs
theorem v_29 (hs : x_step nf sws (pc, 29, nx, a, b, cs, v) ls st h = some (.inl c')) : x_rok h.1.length ls st h.1 = true ∧ c' = (nx, ls, .ref h.1.length :: st, x_push h.1 h.2 (0, a, List.replicate (nf.getD a 0) none)) := by
  simp only [x_step, x_mem, x_new] at hs
  (repeat' (split at hs)) <;> (try cases hs)
  all_goals (first | exact ⟨by assumption, rfl⟩ | (subst_vars; simp_all))
theorem v_30 (hs : x_step nf sws (pc, 30, nx, a, b, cs, v) ls st h = some (.inl c')) : ∃ (n : Int32) (st' : List Value), st = .int n :: st' ∧ (x_rok h.1.length ls st' h.1 = true ∧ ¬ n < 0 ∧ n.toNatClampNeg ≤ 1000 ∧ (b = 1 ∨ b = 2)) ∧ c' = (nx, ls, .ref h.1.length :: st', x_push h.1 h.2 (b, n.toNatClampNeg, [])) := by
  simp only [x_step, x_mem, x_new] at hs
  (repeat' (split at hs)) <;> (try cases hs)
  all_goals (first | exact ⟨_, _, rfl, by subst_vars; assumption, rfl⟩ | (subst_vars; simp_all))
theorem v_31 (hs : x_step nf sws (pc, 31, nx, a, b, cs, v) ls st h = some (.inl c')) : ∃ (n : Int32) (st' : List Value), st = .int n :: st' ∧ (x_rok h.1.length ls st' h.1 = true ∧ ¬ n < 0 ∧ n.toNatClampNeg ≤ 1000) ∧ c' = (nx, ls, .ref h.1.length :: st', x_push h.1 h.2 (3, n.toNatClampNeg, List.replicate n.toNatClampNeg none)) := by
  simp only [x_step, x_mem, x_new] at hs
  (repeat' (split at hs)) <;> (try cases hs)
  all_goals (first | exact ⟨_, _, rfl, by subst_vars; assumption, rfl⟩ | (subst_vars; simp_all))
theorem v_32 (hs : x_step nf sws (pc, 32, nx, a, b, cs, v) ls st h = some (.inl c')) : ∃ (x : Nat) (st' : List Value), st = .ref x :: st' ∧ st'.length ≤ 4 ∧ c' = (nx, ls, st', h) := by
  simp only [x_step, x_mem, x_new] at hs
  (repeat' (split at hs)) <;> (try cases hs)
  all_goals (first | exact ⟨_, _, rfl, by subst_vars; assumption, rfl⟩ | (subst_vars; simp_all))
theorem v_33 (hs : x_step nf sws (pc, 33, nx, a, b, cs, v) ls st h = some (.inl c')) : ∃ (x y n0 n1 : Nat) (sp dp n : Int32) (st' : List Value) (rf rf2 : List (Option Nat)), st = .int n :: .int dp :: .ref y :: .int sp :: .ref x :: st' ∧ (h.1[x]? = some (1, n0, rf) ∧ h.1[y]? = some (1, n1, rf2) ∧ ¬ sp < 0 ∧ ¬ dp < 0 ∧ ¬ n < 0 ∧ sp.toNatClampNeg + n.toNatClampNeg ≤ n0 ∧ dp.toNatClampNeg + n.toNatClampNeg ≤ n1 ∧ st'.length ≤ 4) ∧ c' = (nx, ls, st', (h.1, fun q => if q = y then va_cpy (h.2 x) (h.2 y) sp.toNatClampNeg dp.toNatClampNeg n.toNatClampNeg else h.2 q)) := by
  simp only [x_step, x_mem, x_new] at hs
  (repeat' (split at hs)) <;> (try cases hs)
  all_goals (subst_vars; exact ⟨_, _, _, _, _, _, _, _, _, _, rfl, ⟨by assumption, by assumption, by assumption⟩, rfl⟩)
theorem v_34 (hs : x_step nf sws (pc, 34, nx, a, b, cs, v) ls st h = some (.inl c')) : ∃ (x : Int32) (st' : List Value), st = .int x :: st' ∧ c' = (x_sw (sws.getD cs []) x a, ls, st', h) := by
  simp only [x_step, x_mem, x_new] at hs
  split at hs
  · cases hs
    exact ⟨_, _, rfl, rfl⟩
  · cases hs
theorem x_in_of {i : Int32} {n : Nat} (h : x_in i n = true) : vp_in i n := by
  have h1 := h
  simp only [x_in, decide_eq_true_eq] at h1
  exact h1
end Inv
end
section
/-! the steps put together -/
theorem x_FL_use {cn i a b : Nat} (h : x_FL.any (fun q => q.1 == cn && q.2.1 == i && q.2.2.1 == a && q.2.2.2.1 == b) = true) : a < 8 ∧ b < (x_C a).2.2 ∧ Cond.fieldLink (x_N cn) i (x_T a b).1 (x_T a b).2.1 (x_T a b).2.2.1 ∈ x_tb := by
  obtain ⟨q, hq, h1⟩ := List.any_eq_true.mp h
  simp only [Bool.and_eq_true, beq_iff_eq] at h1
  obtain ⟨⟨⟨rfl, rfl⟩, rfl⟩, rfl⟩ := h1
  have h2 := List.all_eq_true.mp x_FL_ok q hq
  simp only [Bool.and_eq_true, decide_eq_true_eq] at h2
  exact ⟨h2.2, h2.1.2, x_ok1_in h2.1.1⟩
theorem x_CL_use {cn i : Nat} {v : Int32} (h : x_CL.any (fun q => q.1 == cn && q.2.1 == i && q.2.2.1 == v) = true) : Cond.constant (x_N cn) i v ∈ x_tb := by
  obtain ⟨q, hq, h1⟩ := List.any_eq_true.mp h
  simp only [Bool.and_eq_true, beq_iff_eq] at h1
  obtain ⟨⟨rfl, rfl⟩, rfl⟩ := h1
  exact x_ok1_in (List.all_eq_true.mp x_CL_ok q hq)
theorem x_ML_use {cn i a : Nat} (h : x_f3 x_ML cn i a = true) : Cond.methodLink (x_N cn) i (x_Y a) ∈ x_tb := by
  obtain ⟨q, hq, h1⟩ := List.any_eq_true.mp h
  simp only [Bool.and_eq_true, beq_iff_eq] at h1
  obtain ⟨⟨rfl, rfl⟩, rfl⟩ := h1
  exact x_ok1_in (List.all_eq_true.mp x_ML_ok q hq)
theorem x_KL_use {cn i a : Nat} (h : x_f3 x_KL cn i a = true) : Cond.classLink (x_N cn) i (x_N a) ∈ x_tb := by
  obtain ⟨q, hq, h1⟩ := List.any_eq_true.mp h
  simp only [Bool.and_eq_true, beq_iff_eq] at h1
  obtain ⟨⟨rfl, rfl⟩, rfl⟩ := h1
  exact x_ok1_in (List.all_eq_true.mp x_KL_ok q hq)
theorem x_XL_use {cn i b : Nat} (h : x_f3 x_XL cn i b = true) : Cond.methodLink (x_N cn) i (if b = 11 then Lib.Math.max.name else Lib.Math.min.name) ∈ x_tb := by
  obtain ⟨q, hq, h1⟩ := List.any_eq_true.mp h
  simp only [Bool.and_eq_true, beq_iff_eq] at h1
  obtain ⟨⟨rfl, rfl⟩, rfl⟩ := h1
  exact x_ok1_in (List.all_eq_true.mp x_XL_ok q hq)
theorem x_OL_use {cn i : Nat} (h : x_OL.any (fun q => q.1 == cn && q.2.1 == i) = true) : Cond.methodLink (x_N cn) i Lib.objectInit ∈ x_tb := by
  obtain ⟨q, hq, h1⟩ := List.any_eq_true.mp h
  simp only [Bool.and_eq_true, beq_iff_eq] at h1
  obtain ⟨rfl, rfl⟩ := h1
  exact x_ok1_in (List.all_eq_true.mp x_OL_ok q hq)
theorem x_AL_use {cn i : Nat} (h : x_AL.any (fun q => q.1 == cn && q.2.1 == i) = true) : Cond.methodLink (x_N cn) i arraycopyName ∈ x_tb := by
  obtain ⟨q, hq, h1⟩ := List.any_eq_true.mp h
  simp only [Bool.and_eq_true, beq_iff_eq] at h1
  obtain ⟨rfl, rfl⟩ := h1
  exact x_ok1_in (List.all_eq_true.mp x_AL_ok q hq)
theorem x_kd_use {a b : Nat} (ha : a < 8) (hb : b < (x_C a).2.2) : (x_kd a b = 0 ∧ x_ty a b = .int ∧ (x_T a b).2.2.2 = false) ∨ (x_kd a b = 1 ∧ x_ty a b = .boolean ∧ (x_T a b).2.2.2 = false) ∨ (x_kd a b = 2 ∧ (x_T a b).2.2.2 = true ∧ (x_T a b).1 = x_N a ∧ refKind (x_ty a b) = true) := by
  have hko := List.all_eq_true.mp (x_kok_all a ha) b (List.mem_range.mpr hb)
  simp only [Bool.or_eq_true, Bool.and_eq_true, beq_iff_eq, Bool.not_eq_true'] at hko
  rcases hko with (⟨⟨q1, q2⟩, q3⟩ | ⟨⟨q1, q2⟩, q3⟩) | ⟨⟨⟨q1, q2⟩, q3⟩, q4⟩
  · exact Or.inl ⟨q1, q2, q3⟩
  · exact Or.inr (Or.inl ⟨q1, q2, q3⟩)
  · exact Or.inr (Or.inr ⟨q1, q2, q3, q4⟩)
def x_X (p : Program) (s : State) (m : MethodId) (args : Array Value) (meth : Method) (c : Code) (R : Room) (A : Nat → Prop) (q : xI) : Prop := p.tables.exec = Jvm.exec ∧ c.code = q.2.1 ∧ c.maxLocals = q.2.2.1 ∧ s.vm.findClass (x_N q.2.2.2.2.2.1) = some m.cls ∧ (∀ w ∈ x_tb, w.before args s = true) ∧ (q.1.name = "<init>" → meth.name = "<init>") ∧ va_AO RX4 s ∧ (∀ y, s.heap.size ≤ y → A y) ∧ 1 ≤ R.frames ∧ 200 ≤ R.locals
section Comb
variable {p : Program} {l : Launch} {e : Env} {R : Room} {s : State} {m : MethodId} {args : Array Value} {below : List Frame} {meth : Method} {c : Code} {Q : State → Prop} {D : va_G} {cI cZ cO : ClassId} {A : Nat → Prop} {L0 T0 n0 : Nat} {ad0 : Nat → Nat} {ls st : List Value} {h : xH}

set_option maxHeartbeats 4000000 in
theorem x_stepS {q : xI} (hX : x_X p s m args meth c R A q) {en : xE} (hk : x_chk q en = true) (hlen : ls.length = q.2.2.1) {c' : xC} (hs : x_step x_nf x_sws en ls st h = some (.inl c')) (hr1 : c'.2.2.2.1.length ≤ R.cells + L0) (hr2 : x_sl c'.2.2.2 ≤ R.slots + T0) (k : x_G p l e R s m args below meth c Q D cI cZ cO A L0 T0 n0 ad0 c'.1 c'.2.1 c'.2.2.1 c'.2.2.2) : x_G p l e R s m args below meth c Q D cI cZ cO A L0 T0 n0 ad0 en.1 ls st h := by
  obtain ⟨hx, hb, hml, hown, hts, hnm, hao, hA, hF, hLo⟩ := hX
  obtain ⟨pc, op, nx, a, b, cs, v⟩ := en
  unfold x_chk at hk
  split at hk
  case h_2 => cases hk
  rename_i ins len hd
  simp only [Bool.and_eq_true] at hk
  obtain ⟨⟨hl, hf⟩, -⟩ := hk
  dsimp only at hd ⊢
  cases ins
  case iconst n =>
    simp only [x_fit, Bool.and_eq_true, beq_iff_eq] at hf
    obtain ⟨rfl, rfl⟩ := hf
    simp only [x_len, Bool.and_eq_true, beq_iff_eq] at hl
    obtain ⟨rfl, rfl⟩ := hl
    obtain rfl := v_0 hs
    exact s_iconst hx hb hd k
  case bipush n =>
    simp only [x_fit, Bool.and_eq_true, beq_iff_eq] at hf
    obtain ⟨rfl, rfl⟩ := hf
    simp only [x_len, Bool.and_eq_true, beq_iff_eq] at hl
    obtain ⟨rfl, rfl⟩ := hl
    obtain rfl := v_0 hs
    exact s_bipush hx hb hd k
  case sipush n =>
    simp only [x_fit, Bool.and_eq_true, beq_iff_eq] at hf
    obtain ⟨rfl, rfl⟩ := hf
    simp only [x_len, Bool.and_eq_true, beq_iff_eq] at hl
    obtain ⟨rfl, rfl⟩ := hl
    obtain rfl := v_0 hs
    exact s_sipush hx hb hd k
  case ldc n =>
    simp only [x_fit, Bool.and_eq_true, beq_iff_eq] at hf
    obtain ⟨rfl, hz⟩ := hf
    simp only [x_len, Bool.and_eq_true, beq_iff_eq] at hl
    obtain ⟨rfl, rfl⟩ := hl
    obtain rfl := v_0 hs
    exact s_ldc hx hb hown hts (x_CL_use hz) hd k
  case ldc_w n =>
    simp only [x_fit, Bool.and_eq_true, beq_iff_eq] at hf
    obtain ⟨rfl, hz⟩ := hf
    simp only [x_len, Bool.and_eq_true, beq_iff_eq] at hl
    obtain ⟨rfl, rfl⟩ := hl
    obtain rfl := v_0 hs
    exact s_ldc_w hx hb hown hts (x_CL_use hz) hd k
  case iload_n n =>
    simp only [x_fit, Bool.and_eq_true, beq_iff_eq] at hf
    obtain ⟨rfl, rfl⟩ := hf
    simp only [x_len, Bool.and_eq_true, beq_iff_eq] at hl
    obtain ⟨rfl, rfl⟩ := hl
    obtain ⟨x, hx1, rfl⟩ := v_1 hs
    exact s_iload_n hx hb hx1 hd k
  case iload n =>
    simp only [x_fit, Bool.and_eq_true, beq_iff_eq] at hf
    obtain ⟨rfl, rfl⟩ := hf
    simp only [x_len, Bool.and_eq_true, beq_iff_eq] at hl
    obtain ⟨rfl, rfl⟩ := hl
    obtain ⟨x, hx1, rfl⟩ := v_1 hs
    exact s_iload hx hb hx1 hd k
  case aload_n n =>
    simp only [x_fit, Bool.and_eq_true, beq_iff_eq] at hf
    obtain ⟨rfl, rfl⟩ := hf
    simp only [x_len, Bool.and_eq_true, beq_iff_eq] at hl
    obtain ⟨rfl, rfl⟩ := hl
    obtain ⟨x, hx1, rfl⟩ := v_2 hs
    exact s_aload_n hx hb hx1 hd k
  case istore_n n =>
    simp only [x_fit, Bool.and_eq_true, beq_iff_eq] at hf
    obtain ⟨rfl, rfl⟩ := hf
    simp only [x_len, Bool.and_eq_true, beq_iff_eq] at hl
    obtain ⟨rfl, rfl⟩ := hl
    obtain ⟨x, st', rfl, hx1, rfl⟩ := v_3 hs
    exact s_istore_n hx hb hx1 hd k
  case istore n =>
    simp only [x_fit, Bool.and_eq_true, beq_iff_eq] at hf
    obtain ⟨rfl, rfl⟩ := hf
    simp only [x_len, Bool.and_eq_true, beq_iff_eq] at hl
    obtain ⟨rfl, rfl⟩ := hl
    obtain ⟨x, st', rfl, hx1, rfl⟩ := v_3 hs
    exact s_istore hx hb hx1 hd k
  case astore_n n =>
    simp only [x_fit, Bool.and_eq_true, beq_iff_eq] at hf
    obtain ⟨rfl, rfl⟩ := hf
    simp only [x_len, Bool.and_eq_true, beq_iff_eq] at hl
    obtain ⟨rfl, rfl⟩ := hl
    obtain ⟨x, st', rfl, hx1, rfl⟩ := v_4 hs
    exact s_astore_n hx hb hx1 hd k
  case iinc i n =>
    simp only [x_fit, Bool.and_eq_true, beq_iff_eq] at hf
    obtain ⟨⟨rfl, rfl⟩, rfl⟩ := hf
    simp only [x_len, Bool.and_eq_true, beq_iff_eq] at hl
    obtain ⟨rfl, rfl⟩ := hl
    obtain ⟨x, hx1, rfl⟩ := v_5 hs
    exact s_iinc hx hb hx1 hd k
  case iadd =>
    simp only [x_fit, Bool.and_eq_true, beq_iff_eq] at hf
    obtain ⟨rfl, rfl⟩ := hf
    simp only [x_len, Bool.and_eq_true, beq_iff_eq] at hl
    obtain ⟨rfl, rfl⟩ := hl
    obtain ⟨x, y, z, st', rfl, hz, -, rfl⟩ := v_6 hs
    obtain rfl := Option.some.inj hz
    exact s_iadd hx hb hd k
  case isub =>
    simp only [x_fit, Bool.and_eq_true, beq_iff_eq] at hf
    obtain ⟨rfl, rfl⟩ := hf
    simp only [x_len, Bool.and_eq_true, beq_iff_eq] at hl
    obtain ⟨rfl, rfl⟩ := hl
    obtain ⟨x, y, z, st', rfl, hz, -, rfl⟩ := v_6 hs
    obtain rfl := Option.some.inj hz
    exact s_isub hx hb hd k
  case imul =>
    simp only [x_fit, Bool.and_eq_true, beq_iff_eq] at hf
    obtain ⟨rfl, rfl⟩ := hf
    simp only [x_len, Bool.and_eq_true, beq_iff_eq] at hl
    obtain ⟨rfl, rfl⟩ := hl
    obtain ⟨x, y, z, st', rfl, hz, -, rfl⟩ := v_6 hs
    obtain rfl := Option.some.inj hz
    exact s_imul hx hb hd k
  case iand =>
    simp only [x_fit, Bool.and_eq_true, beq_iff_eq] at hf
    obtain ⟨rfl, rfl⟩ := hf
    simp only [x_len, Bool.and_eq_true, beq_iff_eq] at hl
    obtain ⟨rfl, rfl⟩ := hl
    obtain ⟨x, y, z, st', rfl, hz, -, rfl⟩ := v_6 hs
    obtain rfl := Option.some.inj hz
    exact s_iand hx hb hd k
  case ior =>
    simp only [x_fit, Bool.and_eq_true, beq_iff_eq] at hf
    obtain ⟨rfl, rfl⟩ := hf
    simp only [x_len, Bool.and_eq_true, beq_iff_eq] at hl
    obtain ⟨rfl, rfl⟩ := hl
    obtain ⟨x, y, z, st', rfl, hz, -, rfl⟩ := v_6 hs
    obtain rfl := Option.some.inj hz
    exact s_ior hx hb hd k
  case ixor =>
    simp only [x_fit, Bool.and_eq_true, beq_iff_eq] at hf
    obtain ⟨rfl, rfl⟩ := hf
    simp only [x_len, Bool.and_eq_true, beq_iff_eq] at hl
    obtain ⟨rfl, rfl⟩ := hl
    obtain ⟨x, y, z, st', rfl, hz, -, rfl⟩ := v_6 hs
    obtain rfl := Option.some.inj hz
    exact s_ixor hx hb hd k
  case ishl =>
    simp only [x_fit, Bool.and_eq_true, beq_iff_eq] at hf
    obtain ⟨rfl, rfl⟩ := hf
    simp only [x_len, Bool.and_eq_true, beq_iff_eq] at hl
    obtain ⟨rfl, rfl⟩ := hl
    obtain ⟨x, y, z, st', rfl, hz, -, rfl⟩ := v_6 hs
    obtain rfl := Option.some.inj hz
    exact s_ishl hx hb hd k
  case ishr =>
    simp only [x_fit, Bool.and_eq_true, beq_iff_eq] at hf
    obtain ⟨rfl, rfl⟩ := hf
    simp only [x_len, Bool.and_eq_true, beq_iff_eq] at hl
    obtain ⟨rfl, rfl⟩ := hl
    obtain ⟨x, y, z, st', rfl, hz, -, rfl⟩ := v_6 hs
    obtain rfl := Option.some.inj hz
    exact s_ishr hx hb hd k
  case iushr =>
    simp only [x_fit, Bool.and_eq_true, beq_iff_eq] at hf
    obtain ⟨rfl, rfl⟩ := hf
    simp only [x_len, Bool.and_eq_true, beq_iff_eq] at hl
    obtain ⟨rfl, rfl⟩ := hl
    obtain ⟨x, y, z, st', rfl, hz, -, rfl⟩ := v_6 hs
    obtain rfl := Option.some.inj hz
    exact s_iushr hx hb hd k
  case idiv =>
    simp only [x_fit, Bool.and_eq_true, beq_iff_eq] at hf
    obtain ⟨rfl, rfl⟩ := hf
    simp only [x_len, Bool.and_eq_true, beq_iff_eq] at hl
    obtain ⟨rfl, rfl⟩ := hl
    obtain ⟨x, y, z, st', rfl, hz, -, rfl⟩ := v_6 hs
    simp only [x_bin] at hz
    split at hz
    · cases hz
    · rename_i h0
      obtain rfl := Option.some.inj hz
      exact s_idiv hx hb h0 hd k
  case irem =>
    simp only [x_fit, Bool.and_eq_true, beq_iff_eq] at hf
    obtain ⟨rfl, rfl⟩ := hf
    simp only [x_len, Bool.and_eq_true, beq_iff_eq] at hl
    obtain ⟨rfl, rfl⟩ := hl
    obtain ⟨x, y, z, st', rfl, hz, -, rfl⟩ := v_6 hs
    simp only [x_bin] at hz
    split at hz
    · cases hz
    · rename_i h0
      obtain rfl := Option.some.inj hz
      exact s_irem hx hb h0 hd k
  case if_icmp cd off =>
    simp only [x_fit, Bool.and_eq_true, beq_iff_eq] at hf
    obtain ⟨⟨rfl, rfl⟩, ht⟩ := hf
    simp only [x_len, Bool.and_eq_true, beq_iff_eq] at hl
    obtain ⟨rfl, rfl⟩ := hl
    obtain ⟨x, y, st', rfl, rfl⟩ := v_7 hs
    dsimp only at k
    cases cd
    · exact s_icmp_eq hx hb ht hd (fun q => by rw [if_pos (by simp [x_cmp, x_cnd, q])] at k; exact k) (fun q => by rw [if_neg (by simp [x_cmp, x_cnd, q])] at k; exact k)
    · exact s_icmp_ne hx hb ht hd (fun q => by rw [if_pos (by simp [x_cmp, x_cnd, q])] at k; exact k) (fun q => by rw [if_neg (by simp [x_cmp, x_cnd, q])] at k; exact k)
    · exact s_icmp_lt hx hb ht hd (fun q => by rw [if_pos (by simp [x_cmp, x_cnd, q])] at k; exact k) (fun q => by rw [if_neg (by simp [x_cmp, x_cnd, q])] at k; exact k)
    · exact s_icmp_ge hx hb ht hd (fun q => by rw [if_pos (by simp [x_cmp, x_cnd, q])] at k; exact k) (fun q => by rw [if_neg (by simp [x_cmp, x_cnd, q])] at k; exact k)
    · exact s_icmp_gt hx hb ht hd (fun q => by rw [if_pos (by simp [x_cmp, x_cnd, q])] at k; exact k) (fun q => by rw [if_neg (by simp [x_cmp, x_cnd, q])] at k; exact k)
    · exact s_icmp_le hx hb ht hd (fun q => by rw [if_pos (by simp [x_cmp, x_cnd, q])] at k; exact k) (fun q => by rw [if_neg (by simp [x_cmp, x_cnd, q])] at k; exact k)
  case ifCond cd off =>
    simp only [x_fit, Bool.and_eq_true, beq_iff_eq] at hf
    obtain ⟨⟨rfl, rfl⟩, ht⟩ := hf
    simp only [x_len, Bool.and_eq_true, beq_iff_eq] at hl
    obtain ⟨rfl, rfl⟩ := hl
    obtain ⟨x, st', rfl, rfl⟩ := v_8 hs
    dsimp only at k
    cases cd
    · exact s_if_eq hx hb ht hd (fun q => by rw [if_pos (by simp [x_cmp, x_cnd, q])] at k; exact k) (fun q => by rw [if_neg (by simp [x_cmp, x_cnd, q])] at k; exact k)
    · exact s_if_ne hx hb ht hd (fun q => by rw [if_pos (by simp [x_cmp, x_cnd, q])] at k; exact k) (fun q => by rw [if_neg (by simp [x_cmp, x_cnd, q])] at k; exact k)
    · exact s_if_lt hx hb ht hd (fun q => by rw [if_pos (by simp [x_cmp, x_cnd, q])] at k; exact k) (fun q => by rw [if_neg (by simp [x_cmp, x_cnd, q])] at k; exact k)
    · exact s_if_ge hx hb ht hd (fun q => by rw [if_pos (by simp [x_cmp, x_cnd, q])] at k; exact k) (fun q => by rw [if_neg (by simp [x_cmp, x_cnd, q])] at k; exact k)
    · exact s_if_gt hx hb ht hd (fun q => by rw [if_pos (by simp [x_cmp, x_cnd, q])] at k; exact k) (fun q => by rw [if_neg (by simp [x_cmp, x_cnd, q])] at k; exact k)
    · exact s_if_le hx hb ht hd (fun q => by rw [if_pos (by simp [x_cmp, x_cnd, q])] at k; exact k) (fun q => by rw [if_neg (by simp [x_cmp, x_cnd, q])] at k; exact k)
  case goto off =>
    simp only [x_fit, Bool.and_eq_true, beq_iff_eq] at hf
    obtain ⟨rfl, ht⟩ := hf
    simp only [x_len, Bool.and_eq_true, beq_iff_eq] at hl
    obtain ⟨rfl, rfl⟩ := hl
    obtain rfl := v_9 hs
    exact s_goto hx hb ht hd k
  case dup =>
    simp only [x_fit, beq_iff_eq] at hf
    subst hf
    simp only [x_len, Bool.and_eq_true, beq_iff_eq] at hl
    obtain ⟨rfl, rfl⟩ := hl
    obtain ⟨x, st', rfl, h1, rfl⟩ := v_10 hs
    exact s_dup hx hb h1 hd k
  case dup2 =>
    simp only [x_fit, beq_iff_eq] at hf
    subst hf
    simp only [x_len, Bool.and_eq_true, beq_iff_eq] at hl
    obtain ⟨rfl, rfl⟩ := hl
    obtain ⟨x, y, st', rfl, h1, rfl⟩ := v_11 hs
    exact s_dup2 hx hb h1.1 h1.2 hd k
  case pop =>
    simp only [x_fit, beq_iff_eq] at hf
    subst hf
    simp only [x_len, Bool.and_eq_true, beq_iff_eq] at hl
    obtain ⟨rfl, rfl⟩ := hl
    obtain ⟨x, st', rfl, h1, rfl⟩ := v_12 hs
    exact s_pop hx hb h1 hd k
  case getfield i =>
    simp only [x_fit, Bool.and_eq_true, Bool.or_eq_true, beq_iff_eq] at hf
    obtain ⟨hz, hfl⟩ := hf
    obtain ⟨ha8, hbN, hlk⟩ := x_FL_use hfl
    simp only [x_len, Bool.and_eq_true, beq_iff_eq] at hl
    obtain ⟨rfl, rfl⟩ := hl
    rcases hz with ⟨rfl, hz⟩ | ⟨rfl, hz⟩
    · obtain ⟨x, st', rf, rfl, hq, rfl⟩ := v_13 hs
      exact s_get hx hb hown hts ha8 hbN hlk hq hd (v := .int (h.2 x b)) (fun ad => by unfold x_fv; rw [if_neg (by rcases hz with z | z <;> rw [z] <;> decide)]; rfl) k
    · obtain ⟨x, y, st', rf, rfl, ⟨hq, hy⟩, rfl⟩ := v_14 hs
      exact s_get hx hb hown hts ha8 hbN hlk hq hd (v := .ref y) (fun ad => by unfold x_fv; rw [if_pos hz, hy]; rfl) k
  case putfield i =>
    simp only [x_fit, Bool.and_eq_true, Bool.or_eq_true, beq_iff_eq] at hf
    obtain ⟨hz, hfl⟩ := hf
    obtain ⟨ha8, hbN, hlk⟩ := x_FL_use hfl
    have hku := x_kd_use ha8 hbN
    simp only [x_len, Bool.and_eq_true, beq_iff_eq] at hl
    obtain ⟨rfl, rfl⟩ := hl
    rcases hz with (⟨rfl, hz⟩ | ⟨rfl, hz⟩) | ⟨⟨⟨rfl, hz⟩, hini⟩, rfl⟩
    · obtain ⟨x, y, st', rf, rfl, hq, rfl⟩ := v_15 hs
      rw [hz] at hku
      rcases hku with ⟨-, t1, t2⟩ | ⟨t0, -⟩ | ⟨t0, -⟩
      · exact s_put hx hb hown hts ha8 hbN hlk hq (by rw [hz]; decide) t2 (by rw [t1]; rfl) (by rw [t1]; rfl) hd k
      · cases t0
      · cases t0
    · obtain ⟨x, y, st', rf, rfl, ⟨hq, hy⟩, rfl⟩ := v_16 hs
      rw [hz] at hku
      rcases hku with ⟨t0, -⟩ | ⟨-, t1, t2⟩ | ⟨t0, -⟩
      · cases t0
      · exact s_put hx hb hown hts ha8 hbN hlk hq (by rw [hz]; decide) t2 (by rw [t1]; rcases hy with rfl | rfl <;> rfl) (by rw [t1]; rcases hy with rfl | rfl <;> rfl) hd k
      · cases t0
    · obtain ⟨x, y, st', rf, rfl, ⟨hq, hy⟩, rfl⟩ := v_17 hs
      rw [hz] at hku
      rcases hku with ⟨t0, -⟩ | ⟨t0, -⟩ | ⟨-, t1, t2, t3⟩
      · cases t0
      · cases t0
      · exact s_putR hx hb hown hts ha8 hbN hlk hq hz hy t1 t2 (hnm hini) t3 hd k
  case iaload =>
    simp only [x_fit, beq_iff_eq] at hf
    subst hf
    simp only [x_len, Bool.and_eq_true, beq_iff_eq] at hl
    obtain ⟨rfl, rfl⟩ := hl
    obtain ⟨x, n, i, st', rf, rfl, ⟨hq, hi⟩, rfl⟩ := v_18 hs
    exact s_iald hx hb hq (x_in_of hi) hd k
  case iastore =>
    simp only [x_fit, beq_iff_eq] at hf
    subst hf
    simp only [x_len, Bool.and_eq_true, beq_iff_eq] at hl
    obtain ⟨rfl, rfl⟩ := hl
    obtain ⟨x, n, i, y, st', rf, rfl, ⟨hq, hi⟩, rfl⟩ := v_19 hs
    exact s_iast hx hb hq (x_in_of hi) hd k
  case baload =>
    simp only [x_fit, beq_iff_eq] at hf
    subst hf
    simp only [x_len, Bool.and_eq_true, beq_iff_eq] at hl
    obtain ⟨rfl, rfl⟩ := hl
    obtain ⟨x, n, i, st', rf, rfl, ⟨hq, hi⟩, rfl⟩ := v_20 hs
    exact s_zald hx hb hq (x_in_of hi) hd k
  case bastore =>
    simp only [x_fit, beq_iff_eq] at hf
    subst hf
    simp only [x_len, Bool.and_eq_true, beq_iff_eq] at hl
    obtain ⟨rfl, rfl⟩ := hl
    obtain ⟨x, n, i, y, st', rf, rfl, ⟨hq, hi, hy⟩, rfl⟩ := v_21 hs
    exact s_zast hx hb hq (x_in_of hi) hy hd k
  case aaload =>
    simp only [x_fit, beq_iff_eq] at hf
    subst hf
    simp only [x_len, Bool.and_eq_true, beq_iff_eq] at hl
    obtain ⟨rfl, rfl⟩ := hl
    obtain ⟨x, n, y, i, st', rf, rfl, ⟨hq, hi, hy⟩, rfl⟩ := v_22 hs
    exact s_aald hx hb hq (x_in_of hi) hy hd k
  case aastore =>
    simp only [x_fit, beq_iff_eq] at hf
    subst hf
    simp only [x_len, Bool.and_eq_true, beq_iff_eq] at hl
    obtain ⟨rfl, rfl⟩ := hl
    obtain ⟨x, n, y, i, st', rf, rf2, rfl, ⟨hq, hq2, hi, hy⟩, rfl⟩ := v_23 hs
    exact s_aast hx hb hq hq2 (x_in_of hi) hy hd k
  case arraylength =>
    simp only [x_fit, beq_iff_eq] at hf
    subst hf
    simp only [x_len, Bool.and_eq_true, beq_iff_eq] at hl
    obtain ⟨rfl, rfl⟩ := hl
    obtain ⟨x, n, t, st', rf, rfl, ⟨hq, ht⟩, rfl⟩ := v_24 hs
    rcases (show t = 0 ∨ t = 1 by omega) with rfl | rfl
    · exact s_alen1 hx hb hq hd k
    · exact s_alen2 hx hb hq hd k
  case invokestatic i =>
    simp only [x_fit, Bool.and_eq_true, Bool.or_eq_true, beq_iff_eq] at hf
    simp only [x_len, Bool.and_eq_true, beq_iff_eq] at hl
    obtain ⟨rfl, rfl⟩ := hl
    rcases hf with (⟨⟨rfl, -⟩, -⟩ | ⟨rfl, hz⟩) | ⟨⟨rfl, hb2⟩, hz⟩
    · exact (v_25 hs).elim
    · obtain ⟨x, y, n0', n1, sp, dp, n, st', rf, rf2, rfl, ⟨hq, hq2, h1, h2, h3, h4, h5, h6⟩, rfl⟩ := v_33 hs
      exact s_copy hx hb hown hts (x_AL_use hz) (hml.trans hlen.symm) h6 hF hLo hq hq2 h1 h2 h3 h4 h5 hd k
    · obtain ⟨x, y, z, st', rfl, hz2, h50, rfl⟩ := v_6 hs
      have hu := x_XL_use hz
      rcases hb2 with rfl | rfl
      · obtain rfl := Option.some.inj hz2
        exact s_mmax hx hb hown hts hu (hml.trans hlen.symm) h50 hF hLo hr1 hr2 hd k
      · obtain rfl := Option.some.inj hz2
        exact s_mmin hx hb hown hts hu (hml.trans hlen.symm) h50 hF hLo hr1 hr2 hd k
  case invokevirtual i =>
    simp only [x_fit, Bool.and_eq_true, Bool.or_eq_true, beq_iff_eq] at hf
    obtain ⟨⟨rfl, -⟩, -⟩ := hf
    exact (v_26 hs).elim
  case invokespecial i =>
    simp only [x_fit, Bool.and_eq_true, Bool.or_eq_true, beq_iff_eq] at hf
    simp only [x_len, Bool.and_eq_true, beq_iff_eq] at hl
    obtain ⟨rfl, rfl⟩ := hl
    rcases hf with ⟨⟨rfl, -⟩, -⟩ | ⟨rfl, hz⟩
    · exact (v_26 hs).elim
    · obtain ⟨x, st', rfl, h4, rfl⟩ := v_32 hs
      exact s_objInit hx hb hown hts (x_OL_use hz) (hml.trans hlen.symm) h4 hF hLo hd k
  case ireturn =>
    simp only [x_fit, beq_iff_eq] at hf
    subst hf
    exact (v_27 hs).elim
  case return_ =>
    simp only [x_fit, beq_iff_eq] at hf
    subst hf
    exact (v_28 hs).elim
  case new i =>
    simp only [x_fit, Bool.and_eq_true, beq_iff_eq, decide_eq_true_eq] at hf
    obtain ⟨⟨rfl, hz⟩, ha8⟩ := hf
    simp only [x_len, Bool.and_eq_true, beq_iff_eq] at hl
    obtain ⟨rfl, rfl⟩ := hl
    obtain ⟨hok, rfl⟩ := v_29 hs
    rw [show (x_push h.1 h.2 (0, a, List.replicate (x_nf.getD a 0) none)).1.length = h.1.length + 1 by simp [x_push]] at hr1
    rw [x_sl_push] at hr2
    exact s_new hx hb hown hts hr1 hA hok ha8 hr2 (x_KL_use hz) hd k
  case newarray t =>
    cases t
    case int =>
      simp only [x_fit, Bool.and_eq_true, beq_iff_eq] at hf
      obtain ⟨rfl, rfl⟩ := hf
      simp only [x_len, Bool.and_eq_true, beq_iff_eq] at hl
      obtain ⟨rfl, rfl⟩ := hl
      obtain ⟨n, st', rfl, ⟨hok, h1, h2, -⟩, rfl⟩ := v_30 hs
      rw [show (x_push h.1 h.2 (1, n.toNatClampNeg, [])).1.length = h.1.length + 1 by simp [x_push]] at hr1
      rw [x_sl_push] at hr2
      exact s_newI (cn := q.2.2.2.2.2.1) hx hb hown hts hr1 hA hok h1 h2 hr2 hd k
    case boolean =>
      simp only [x_fit, Bool.and_eq_true, beq_iff_eq] at hf
      obtain ⟨rfl, rfl⟩ := hf
      simp only [x_len, Bool.and_eq_true, beq_iff_eq] at hl
      obtain ⟨rfl, rfl⟩ := hl
      obtain ⟨n, st', rfl, ⟨hok, h1, h2, -⟩, rfl⟩ := v_30 hs
      rw [show (x_push h.1 h.2 (2, n.toNatClampNeg, [])).1.length = h.1.length + 1 by simp [x_push]] at hr1
      rw [x_sl_push] at hr2
      exact s_newZ (cn := q.2.2.2.2.2.1) hx hb hown hts hr1 hA hok h1 h2 hr2 hd k
    all_goals (simp [x_fit] at hf)
  case anewarray i =>
    simp only [x_fit, Bool.and_eq_true, beq_iff_eq] at hf
    obtain ⟨⟨rfl, rfl⟩, hz⟩ := hf
    simp only [x_len, Bool.and_eq_true, beq_iff_eq] at hl
    obtain ⟨rfl, rfl⟩ := hl
    obtain ⟨n, st', rfl, ⟨hok, h1, h2⟩, rfl⟩ := v_31 hs
    rw [show (x_push h.1 h.2 (3, n.toNatClampNeg, List.replicate n.toNatClampNeg none)).1.length = h.1.length + 1 by simp [x_push]] at hr1
    rw [x_sl_push] at hr2
    exact s_newO hx hb hown hts hr1 hA hok hao (x_KL_use hz) h1 h2 hr2 hd k
  case tableswitch d lo hi offs =>
    simp only [x_fit, Bool.and_eq_true, beq_iff_eq] at hf
    obtain ⟨⟨⟨rfl, h1⟩, h2⟩, h3⟩ := hf
    obtain ⟨x, st', rfl, rfl⟩ := v_34 hs
    exact s_table hx hb h1 h2 h3 hd k
  case lookupswitch d ps =>
    simp only [x_fit, Bool.and_eq_true, beq_iff_eq] at hf
    obtain ⟨⟨⟨rfl, h1⟩, h2⟩, h3⟩ := hf
    obtain ⟨x, st', rfl, rfl⟩ := v_34 hs
    exact s_look hx hb h1 h2 h3 hd k
  all_goals (exact absurd hf (by simp [x_fit]))
end Comb
end
section
/-! returns, calls, and the whole run -/
section Fit
variable {cn pc nx a b cs : Nat} {z : Bool} {v : Int32} {ins : Instr}
theorem f_27 (h : x_fit cn z (pc, 27, nx, a, b, cs, v) ins = true) : ins = .ireturn := by
  cases ins
  case ireturn => rfl
  case newarray t => cases t <;> simp [x_fit] at h
  all_goals (exfalso; revert h; simp [x_fit])
theorem f_28 (h : x_fit cn z (pc, 28, nx, a, b, cs, v) ins = true) : ins = .return_ := by
  cases ins
  case return_ => rfl
  case newarray t => cases t <;> simp [x_fit] at h
  all_goals (exfalso; revert h; simp [x_fit])
theorem f_25 (h : x_fit cn z (pc, 25, nx, a, b, cs, v) ins = true) : ∃ i, ins = .invokestatic i ∧ x_f3 x_ML cn i a = true ∧ (x_inf[a]?).any (fun q => q.2.2.2.2.1 == 0 && q.2.2.2.2.2.2.1 == b) = true := by
  cases ins
  case invokestatic i =>
    simp only [x_fit, Bool.and_eq_true, Bool.or_eq_true, beq_iff_eq] at h
    rcases h with (⟨⟨-, h1⟩, h2⟩ | ⟨h, -⟩) | ⟨⟨h, -⟩, -⟩
    · exact ⟨i, rfl, h1, h2⟩
    · cases h
    · cases h
  case newarray t => cases t <;> simp [x_fit] at h
  all_goals (exfalso; revert h; simp [x_fit])
theorem f_26 (h : x_fit cn z (pc, 26, nx, a, b, cs, v) ins = true) : (∃ i, ins = .invokevirtual i ∧ (x_f3 x_ML cn i a = true ∨ x_f3 x_NL cn i a = true) ∧ (x_inf[a]?).any (fun q => q.2.2.2.2.1 == 1 && q.2.2.2.2.2.2.1 + 1 == b && q.2.2.2.2.2.1 == cs && decide (cs < 8)) = true) ∨ ∃ i, ins = .invokespecial i ∧ x_f3 x_ML cn i a = true ∧ (x_inf[a]?).any (fun q => q.2.2.2.2.1 == 2 && q.2.2.2.2.2.2.1 + 1 == b && q.2.2.2.2.2.1 == cs && decide (cs < 8)) = true := by
  cases ins
  case invokevirtual i =>
    simp only [x_fit, Bool.and_eq_true, Bool.or_eq_true, beq_iff_eq] at h
    exact Or.inl ⟨i, rfl, h.1.2, h.2⟩
  case invokespecial i =>
    simp only [x_fit, Bool.and_eq_true, Bool.or_eq_true, beq_iff_eq] at h
    rcases h with ⟨⟨-, h1⟩, h2⟩ | ⟨h, -⟩
    · exact Or.inr ⟨i, rfl, h1, h2⟩
    · cases h
  case newarray t => cases t <;> simp [x_fit] at h
  all_goals (exfalso; revert h; simp [x_fit])
end Fit
section Ret
variable {nf : List Nat} {sws : List (List (Int32 × Nat))} {pc nx a b cs op : Nat} {v : Int32} {ls st : List Value} {h : xH}
theorem r_ret {r : Option Int32} (hs : x_step nf sws (pc, op, nx, a, b, cs, v) ls st h = some (.inr (.inl r))) : (op = 27 ∧ ∃ y, st = [.int y] ∧ r = some y ∧ (b = 0 ∨ y = 0 ∨ y = 1)) ∨ (op = 28 ∧ st = [] ∧ r = none) := by
  simp only [x_step, x_mem, x_new] at hs
  (repeat' (split at hs)) <;> (try cases hs)
  · exact Or.inl ⟨rfl, _, rfl, rfl, by assumption⟩
  · exact Or.inr ⟨rfl, rfl, rfl⟩
theorem r_call {i pc' : Nat} {as ls' st' : List Value} (hs : x_step nf sws (pc, op, nx, a, b, cs, v) ls st h = some (.inr (.inr (i, as, pc', ls', st')))) : i = a ∧ pc' = nx ∧ ls' = ls ∧ st = as.reverse ++ st' ∧ st'.length ≤ 4 ∧ as.length = b ∧ (∀ v ∈ as, v.category = 1) ∧ (op = 25 ∨ (op = 26 ∧ ∃ (x : Nat) (as2 : List Value) (rf : List (Option Nat)), as = .ref x :: as2 ∧ h.1[x]? = some (0, cs, rf))) := by
  simp only [x_step, x_mem, x_new] at hs
  (repeat' (split at hs)) <;> (try cases hs)
  · rename_i hz
    exact ⟨rfl, rfl, rfl, by rw [List.reverse_reverse, List.take_append_drop], hz.2.1, by simp; omega, fun v hv => by have := List.all_eq_true.mp hz.2.2 v (List.mem_reverse.mp hv); simpa using this, Or.inl rfl⟩
  · rename_i hz _ x as2 he _ ci rf hq hc
    subst hc
    refine ⟨rfl, rfl, rfl, ?_, hz.2.1, ?_, fun v hv => ?_, Or.inr ⟨rfl, x, as2, rf, rfl, hq⟩⟩
    · rw [← he, List.reverse_reverse, List.take_append_drop]
    · rw [← he]; simp; omega
    · rw [← he] at hv
      have := List.all_eq_true.mp hz.2.2 v (List.mem_reverse.mp hv)
      simpa using this
end Ret
theorem x_sl_set0 {S : List xS} {V : xV} {x ci : Nat} {rf rf' : List (Option Nat)} (hq : S[x]? = some (0, ci, rf)) : x_sl (S.set x (0, ci, rf'), V) = x_sl (S, V) := x_sl_set hq rfl
theorem x_sl_set3 {S : List xS} {V : xV} {x n : Nat} {rf rf' : List (Option Nat)} (hq : S[x]? = some (3, n, rf)) : x_sl (S.set x (3, n, rf'), V) = x_sl (S, V) := x_sl_set hq rfl
section Mono
variable {nf : List Nat} {sws : List (List (Int32 × Nat))}
theorem x_step_mono {en : xE} {ls st : List Value} {h : xH} {c' : xC} (hs : x_step nf sws en ls st h = some (.inl c')) : c'.2.1.length = ls.length ∧ h.1.length ≤ c'.2.2.2.1.length ∧ x_sl h ≤ x_sl c'.2.2.2 := by
  obtain ⟨pc, op, nx, a, b, cs, v⟩ := en
  simp only [x_step, x_mem, x_new] at hs
  (repeat' (split at hs)) <;> (try cases hs)
  all_goals first
    | exact ⟨rfl, Nat.le_refl _, Nat.le_refl _⟩
    | exact ⟨by simp, Nat.le_refl _, Nat.le_refl _⟩
    | exact ⟨rfl, by simp [x_push], by rw [x_sl_push]; exact Nat.le_add_right _ _⟩
    | exact ⟨rfl, by simp, Nat.le_of_eq (x_sl_set0 (by assumption)).symm⟩
    | exact ⟨rfl, by simp, Nat.le_of_eq (x_sl_set3 (by assumption)).symm⟩
theorem x_ex_mono {mt : List (Nat × List xE)} : ∀ (n d : Nat) (code : List xE) (pc : Nat) (ls st : List Value) (h : xH) (r : Option Int32) (h' : xH), x_ex nf sws mt n d code pc ls st h = some (r, h') → h.1.length ≤ h'.1.length ∧ x_sl h ≤ x_sl h' := by
  intro n
  induction n with
  | zero => intro d code pc ls st h r h' hs; cases hs
  | succ n ih =>
    intro d code pc ls st h r h' hs
    simp only [x_ex] at hs
    split at hs
    · cases hs
    · split at hs
      · cases hs
      · rename_i hst
        have h1 := x_step_mono hst
        have h2 := ih _ _ _ _ _ _ _ _ hs
        exact ⟨Nat.le_trans h1.2.1 h2.1, Nat.le_trans h1.2.2 h2.2⟩
      · cases hs
        exact ⟨Nat.le_refl _, Nat.le_refl _⟩
      · split at hs
        · split at hs
          · cases hs
          · rename_i hst
            split at hs
            · have h1 := ih _ _ _ _ _ _ _ _ hst
              have h2 := ih _ _ _ _ _ _ _ _ hs
              exact ⟨Nat.le_trans h1.1 h2.1, Nat.le_trans h1.2 h2.2⟩
            · cases hs
        · cases hs
end Mono
end
section
/-! contracts out of pure runs -/
theorem x_tb_good {w : Cond} (h : w ∈ x_tb) : (w.onTables && w.keeps) = true ∨ ∃ ty, w = .arrayClass ty := good_of_word (List.mem_filter.mp h).2
def x_ws (q : xI) : List Cond := .code q.1 q.2.1 q.2.2.1 q.2.2.2.1 :: x_tb
def x_rm (d mc ms : Nat) : Room := { frames := d + 1, cells := mc, slots := ms, locals := 200 * (d + 1) }
def x_Nst (U : State) : Prop := va_AO RX4 U ∧ ∀ q ∈ x_NL, va_Nw (.methodLinkNest (x_N q.1) q.2.1 (x_Y q.2.2.1) RX6) U
theorem x_Nst.blind {U : State} {g : JFrame} {mk : MethodId} {a : Array Value} (h : x_Nst U) : x_Nst (U.calling g mk a) := ⟨va_AO.moved (u := U) (U := U.calling g mk a) (Vm.Alike.refl U.vm) h.1, fun q hq => va_Nw.same rfl (u := U) (U := U.calling g mk a) rfl (h.2 q hq)⟩
theorem x_Nst.warm {s U : State} (hW : s.WarmedH U.vm) (h : x_Nst s) : x_Nst U := ⟨va_AO.moved hW.alike h.1, fun q hq => va_Nw.warmM hW (h.2 q hq)⟩
def x_PB (D : va_G) (cI cZ cO : ClassId) (sz : Nat) (ad : Nat → Nat) (h : xH) (U : State) : Prop := U.heap.size = sz ∧ va_P D x_cl (x_W cI cZ cO ad h) U.heap ∧ va_K D x_cl [(cI, .int), (cZ, .boolean), (cO, .object RX4)] U ∧ va_D (fun _ => True) (x_W cI cZ cO ad h) ∧ x_Nst U
def x_Qc (D : va_G) (cI cZ cO : ClassId) (sz : Nat) (ad : Nat → Nat) (h : xH) (r : Option Int32) (h' : xH) : Array Value → State → Outcome → State → Prop := fun _ st oc t => (oc = .returned (r.map .int) ∧ ∃ ad', x_ad ad h.1.length ad' h'.1.length ∧ va_P D x_cl (x_W cI cZ cO ad' h') t.heap ∧ va_D (va_A (x_W cI cZ cO ad h) sz) (x_W cI cZ cO ad' h')) ∧ va_F (va_A (x_W cI cZ cO ad h) sz) st t
def x_Met (l : Launch) (D : va_G) (cI cZ cO : ClassId) (q : xI) (d : Nat) (as : List Value) (h : xH) (r : Option Int32) (h' : xH) : Prop := ∀ (ad : Nat → Nat) (sz : Nat), Met l q.1 (x_ws q) (x_rm d (h'.1.length - h.1.length) (x_sl h' - x_sl h)) (va_Pc (as.map (x_tr ad)) (x_PB D cI cZ cO sz ad h)) (x_Qc D cI cZ cO sz ad h r h') (h'.1.length - h.1.length) (x_sl h' - x_sl h) (va_A (x_W cI cZ cO ad h) sz)
section Cont
variable {p : Program} {l : Launch} {e : Env} {R : Room} {s : State} {m : MethodId} {args : Array Value} {below : List Frame} {meth : Method} {c : Code} {H : Heap} {locs : List Loc} {cells slots : Nat} {Q : State → Prop}
variable {pc : Nat} {ls : Array Slot} {rest st0 : List Value} {a : Array Value} {A0 : Nat → Prop} {mc ms sz : Nat} {D : va_G} {cI cZ cO : ClassId} {ad : Nat → Nat} {h h' : xH} {r : Option Int32}
theorem x_cont (hr : va_Run p l e R s m args below meth c H locs cells slots mc ms (F0 m pc ls st0) rest (x_Qc D cI cZ cO sz ad h r h' a) (va_A (x_W cI cZ cO ad h) sz)) (hS : va_S A0 s.heap H locs) (hA : ∀ q, va_A (x_W cI cZ cO ad h) sz q → A0 q)
    (kk : ∀ (H1 : Heap) (locs1 : List Loc) (ad' : Nat → Nat), x_ad ad h.1.length ad' h'.1.length → va_P D x_cl (x_W cI cZ cO ad' h') H1 → va_D A0 (x_W cI cZ cO ad' h') → va_S A0 s.heap H1 locs1 → W p l e R s m args below meth c H1 locs1 (cells + mc) (slots + ms) Q (F0 m (pc + 3) ls ((r.map Value.int).toList ++ rest))) : W p l e R s m args below meth c H locs cells slots Q (F0 m pc ls st0) := by
  intro T hT X
  obtain ⟨v, st₀, t, T', L, h0, X', hL, e1, e2, ⟨⟨hv, ad', g1, g2, g3⟩, hz, hk⟩, st⟩ := hr T hT X
  cases hv
  rw [h0] at hz hk
  obtain ⟨t2, a1, b1⟩ := kk T'.heap (locs ++ L) ad' g1 (by rw [e1]; exact g2) (g3.weaken (fun _ _ _ z => hA _ z))
    ⟨Nat.le_trans hS.1 (by rw [e1]; exact hz), fun q h1 h2 => by rw [e1, hk q (Nat.lt_of_lt_of_le h1 hS.1) (fun z => h2 (hA q z))]; exact hS.2.1 q h1 h2, fun q hq => by
      rcases List.mem_append.mp hq with h | h
      · exact hS.2.2 q h
      · exact hA _ (hL q h)⟩ T' rfl X'
  exact ⟨t2, st t2 a1, b1⟩
end Cont
theorem x_Y_of {i : Nat} {q : xI} (h : x_inf[i]? = some q) : x_Y i = q.1 := by simp [x_Y, List.getD, h]
theorem x_ad_trans {ad0 ad ad' : Nat → Nat} {n0 n n' : Nat} (h1 : x_ad ad0 n0 ad n) (h2 : x_ad ad n ad' n') : x_ad ad0 n0 ad' n' := by
  refine ⟨Nat.le_trans h1.1 h2.1, fun i hi => ?_, fun q => ?_⟩
  · rw [h2.2.1 i (Nat.lt_of_lt_of_le hi h1.1), h1.2.1 i hi]
  · have e1 : n = n0 := by have := h1.1; have := h2.1; omega
    rw [h2.2.2 (by omega), h1.2.2 e1]
theorem x_lg_sl {vs : List Value} (h : ∀ v ∈ vs, v.category = 1) : lg_sl vs = vs.map Slot.val := by
  induction vs with
  | nil => rfl
  | cons v t ih =>
    have h1 : v.category = 1 := h v List.mem_cons_self
    have h2 := ih (fun w hw => h w (List.mem_cons_of_mem _ hw))
    unfold lg_sl at h2 ⊢
    simp only [List.flatMap_cons, h2, h1]
    rfl
theorem x_L_entry {as : List Value} {ad : Nat → Nat} {n : Nat} (h : ∀ v ∈ as, v.category = 1) (hn : as.length ≤ n) : x_L ((lg_sl (as.map (x_tr ad)) ++ List.replicate (n - (lg_sl (as.map (x_tr ad))).length) Slot.unset).toArray) (as ++ List.replicate (n - as.length) (.long 0)) ad := by
  have h1 : ∀ v ∈ as.map (x_tr ad), v.category = 1 := by
    intro v hv
    obtain ⟨w, hw, rfl⟩ := List.mem_map.mp hv
    rw [x_tr_cat, h w hw]
  have hle : (lg_sl (as.map (x_tr ad))).length ≤ n := by rw [x_lg_sl h1]; simpa using hn
  have hh := lv_entry (as.map (x_tr ad)) hle
  refine ⟨by rw [hh.1]; simp; omega, hh.2.1, fun i v hi hc => ?_⟩
  by_cases hl : i < as.length
  · rw [List.getElem?_append_left hl] at hi
    rw [x_lg_sl h1, List.getElem?_toArray, List.getElem?_append_left (by simpa using hl)]
    simp [hi]
  · rw [List.getElem?_append_right (by omega)] at hi
    have := List.mem_of_getElem? hi
    rw [List.mem_replicate] at this
    rw [this.2] at hc
    cases hc
end
section
section Call
variable {p : Program} {l : Launch} {e : Env} {R : Room} {s : State} {m : MethodId} {args : Array Value} {below : List Frame} {meth : Method} {c : Code} {Q : State → Prop} {D : va_G} {cI cZ cO : ClassId} {A : Nat → Prop} {L0 T0 n0 : Nat} {ad0 : Nat → Nat} {ls st : List Value} {h : xH}
set_option maxHeartbeats 4000000 in
theorem x_callS {q q2 : xI} (hX : x_X p s m args meth c R A q) (hN : x_Nst s) {d : Nat} (hF2 : d + 2 ≤ R.frames) (hL2 : 200 * (d + 2) ≤ R.locals) {en : xE} (hk : x_chk q en = true) (hlen : ls.length = q.2.2.1) {i pc' : Nat} {as ls' st' : List Value} (hs : x_step x_nf x_sws en ls st h = some (.inr (.inr (i, as, pc', ls', st')))) (hq2 : x_inf[i]? = some q2) {r : Option Int32} {h' : xH} (hM : x_Met l D cI cZ cO q2 d as h r h')
    (hm1 : h.1.length ≤ h'.1.length) (hm2 : x_sl h ≤ x_sl h') (hr1 : h'.1.length ≤ R.cells + L0) (hr2 : x_sl h' ≤ R.slots + T0) (hok : h'.1.length = h.1.length ∨ x_rok h.1.length ls' st' h.1 = true) (k : x_G p l e R s m args below meth c Q D cI cZ cO A L0 T0 n0 ad0 pc' ls' (r.toList.map Value.int ++ st') h') : x_G p l e R s m args below meth c Q D cI cZ cO A L0 T0 n0 ad0 en.1 ls st h := by
  obtain ⟨hx, hb, hml, hown, hts, hnm, hao, hA, hF, hLo⟩ := hX
  obtain ⟨pc, op, nx, a, b, cs, v⟩ := en
  obtain ⟨rfl, rfl, rfl, rfl, hst4, hasl, hcat, hop⟩ := r_call hs
  have hg2 := x_all_good i q2 hq2
  simp only [x_good, Bool.and_eq_true, decide_eq_true_eq, Bool.not_eq_true', beq_eq_false_iff_ne, beq_iff_eq] at hg2
  obtain ⟨⟨⟨⟨⟨⟨⟨⟨hpl, hcl2⟩, hmh⟩, hvh⟩, hpd⟩, hini2⟩, hall2⟩, hmx⟩, hnp⟩ := hg2
  obtain ⟨wr, hwP⟩ := x_all_wP i q2 hq2
  simp only [x_wP, Bool.and_eq_true] at hwP
  obtain ⟨⟨⟨wc, wi⟩, wx⟩, wsel⟩ := hwP
  have hcode := x_ok1_in wc
  have hinit := x_ok1_in wi
  have hGood : GoodIn x_tb (x_ws q2) := by
    intro w hw
    rcases List.mem_cons.mp hw with rfl | hw
    · exact ⟨hcode, x_tb_good hcode⟩
    · exact ⟨hw, x_tb_good hw⟩
  have hYi := x_Y_of hq2
  unfold x_chk at hk
  split at hk
  case h_2 => cases hk
  rename_i ins len hd
  simp only [Bool.and_eq_true] at hk
  obtain ⟨⟨hl, hf⟩, -⟩ := hk
  dsimp only at hd ⊢
  intro H locs cells slots ad lsR hI hL hc hs' ha
  have hDA : ∀ y, va_A (x_W cI cZ cO ad h) H.size y → A y := by
    intro y hy
    rcases hy with ⟨k0, e0, hk0⟩ | hy
    · exact hI.2.2.1.2 k0 _ hk0
    · exact hA y (Nat.le_trans hI.2.2.2.1 hy)
  have hblind : FrameBlind (va_Pc (as.map (x_tr ad)) (x_PB D cI cZ cO H.size ad h)) := fun a0 U g mk z => by
    obtain ⟨z0, z1, zP, zK, zD, zN⟩ := z
    exact ⟨z0, z1, zP, va_K.moved (u := U) (U := U.calling g mk a0) (Vm.Alike.refl U.vm) zK, zD, zN.blind⟩
  have hpre : ∀ U : State, U.heap = H → s.WarmedH U.vm → va_Pc (as.map (x_tr ad)) (x_PB D cI cZ cO H.size ad h) (as.map (x_tr ad)).toArray U := fun U hU hW => ⟨rfl, by rw [hU], by rw [hU]; exact hI.2.1, va_K.moved hW.alike hI.1, hI.2.2.1.weaken (fun _ _ _ _ => trivial), hN.warm hW⟩
  have hroomW : 2 * (F0 m pc lsR ((as.reverse ++ st').map (x_tr ad))).monitorRoom + ((st'.map (x_tr ad)).map fun v => v.category).sum ≤ 8 := by
    show 2 * 0 + _ ≤ 8
    have := x_catsum st' ad
    omega
  have hstk : (as.reverse ++ st').map (x_tr ad) = (as.map (x_tr ad)).reverse ++ st'.map (x_tr ad) := by simp
  have hroomC : cells + (h'.1.length - h.1.length) ≤ R.cells ∧ slots + (x_sl h' - x_sl h) ≤ R.slots := by omega
  have hfix : CallFix p m c q.2.1 q.2.2.1 s args x_tb (x_N q.2.2.2.2.2.1) := ⟨hx, hb, hml, hown, hts⟩
  have hRR : (x_rm d (h'.1.length - h.1.length) (x_sl h' - x_sl h)).frames + 1 ≤ R.frames ∧ 8 + (q2.2.2.1 + 11) + (x_rm d (h'.1.length - h.1.length) (x_sl h' - x_sl h)).locals ≤ R.locals := by
    show d + 1 + 1 ≤ R.frames ∧ 8 + (q2.2.2.1 + 11) + 200 * (d + 1) ≤ R.locals
    omega
  have hsz : lsR.size = q.2.2.1 := hL.1.trans hlen
  have fin : ∀ (rest : List Value), rest = st'.map (x_tr ad) → va_Run p l e R s m args below meth c H locs cells slots (h'.1.length - h.1.length) (x_sl h' - x_sl h) (F0 m pc lsR ((as.reverse ++ st').map (x_tr ad))) rest (x_Qc D cI cZ cO H.size ad h r h' (as.map (x_tr ad)).toArray) (va_A (x_W cI cZ cO ad h) H.size) → pc' = pc + 3 → W p l e R s m args below meth c H locs cells slots Q (F0 m pc lsR ((as.reverse ++ st').map (x_tr ad))) := by
    intro rest hrest hrun hpc
    subst hrest
    subst hpc
    refine x_cont hrun hI.2.2.2 hDA (fun H1 locs1 ad' g0 g1 g2 g3 => ?_)
    have hadls : x_L lsR ls' ad' ∧ st'.map (x_tr ad') = st'.map (x_tr ad) := by
      rcases hok with z | z
      · rw [g0.2.2 z]
        exact ⟨hL, rfl⟩
      · simp only [x_rok, Bool.and_eq_true] at z
        exact ⟨x_L_eq z.1.1 g0.2.1 hL, x_tr_eq z.1.2 g0.2.1⟩
    have hk' := k H1 locs1 (cells + (h'.1.length - h.1.length)) (slots + (x_sl h' - x_sl h)) ad' lsR ⟨hI.1, g1, g2, g3⟩ hadls.1 (by omega) (by omega) (x_ad_trans ha g0)
    rw [List.map_append, hadls.2] at hk'
    cases r with
    | none => exact hk'
    | some y => exact hk'
  rcases hop with rfl | ⟨rfl, x, as2, rf, rfl, hxq⟩
  · obtain ⟨idx, rfl, hml1, hany⟩ := f_25 hf
    rw [hq2] at hany
    simp only [Option.any_some, Bool.and_eq_true, beq_iff_eq] at hany
    simp only [x_len, Bool.and_eq_true, beq_iff_eq] at hl
    obtain ⟨rfl, rfl⟩ := hl
    rw [hany.1] at wx
    have hlk := x_ML_use hml1
    rw [hYi] at hlk
    refine fin _ rfl ?_ rfl
    exact va_runS (As := as.map (x_tr ad)) (rest := st'.map (x_tr ad)) hfix (hM ad H.size) ⟨callB_of (ws' := x_tb) q2.2.2.2.2.2.2.1 hts hGood rfl rfl rfl (hts _ hinit) (hts _ hlk) ⟨hmh, hvh, hpd⟩ hRR, hts _ (x_ok1_in wx)⟩ ⟨hblind, hpre⟩ rfl (by rw [List.length_map, hasl, hany.2]) hsz hstk hroomW hd hroomC
  · rcases f_26 hf with ⟨idx, rfl, hml1, hany⟩ | ⟨idx, rfl, hml1, hany⟩
    · rw [hq2] at hany
      simp only [Option.any_some, Bool.and_eq_true, beq_iff_eq, decide_eq_true_eq] at hany
      obtain ⟨⟨⟨hk1, hk2⟩, hk3⟩, hk4⟩ := hany
      simp only [x_len, Bool.and_eq_true, beq_iff_eq] at hl
      obtain ⟨rfl, rfl⟩ := hl
      rw [hk1] at wx
      have hsel : Cond.selects q2.1.cls q2.1 q2.1 ∈ x_tb := by
        simp only [hk1, bne_self_eq_false, Bool.false_or] at wsel
        exact x_ok1_in wsel
      have hn8 := List.all_eq_true.mp x_new_ok cs (List.mem_range.mpr hk4)
      simp only [Bool.and_eq_true, decide_eq_true_eq] at hn8
      have hcls : (x_C cs).1 = q2.1.cls := by rw [hn8.2, hcl2, hk3]; rfl
      have hrecv : ∃ cell : Cell, H[ad x]? = some cell ∧ cell.vm.isStatics = false ∧ s.vm.findClass q2.1.cls = some cell.cls := by
        have := va_recv hI.1 hI.2.1 (x_cl_at cs hk4) (x_W_at hxq)
        rw [← hcls]
        exact this
      have hstk2 : (F0 m pc lsR (((Value.ref x :: as2).reverse ++ st').map (x_tr ad))).stack = (as2.map (x_tr ad)).reverse ++ Value.ref (ad x) :: st'.map (x_tr ad) := by
        show ((Value.ref x :: as2).reverse ++ st').map (x_tr ad) = _
        simp [x_tr]
      have hal : (as2.map (x_tr ad)).length = q2.2.2.2.2.2.2.1 := by
        rw [List.length_map]
        rw [List.length_cons] at hasl
        omega
      refine fin _ rfl ?_ rfl
      rcases hml1 with hml1 | hml1
      · have hlk := x_ML_use hml1
        rw [hYi] at hlk
        exact va_runV (C := q2.1.cls) (b := ad x) (As := as2.map (x_tr ad)) (rest := st'.map (x_tr ad)) hfix (hM ad H.size) ⟨callB_of (ws' := x_tb) q2.2.2.2.2.2.2.1 hts hGood rfl rfl rfl (hts _ hinit) (hts _ hlk) ⟨hmh, hvh, hpd⟩ hRR, hts _ (x_ok1_in wx), hts _ hsel⟩ ⟨hblind, hrecv, hpre⟩ rfl hal hsz hstk2 hroomW hd hroomC
      · obtain ⟨z, hz, hz1⟩ := List.any_eq_true.mp hml1
        simp only [Bool.and_eq_true, beq_iff_eq] at hz1
        have hnl := hN.2 z hz
        rw [hz1.1.1, hz1.1.2, hz1.2, hYi] at hnl
        exact va_runVN (C := q2.1.cls) (b := ad x) (As := as2.map (x_tr ad)) (rest := st'.map (x_tr ad)) hfix (hM ad H.size) ⟨va_cnB (ws' := x_tb) q2.2.2.2.2.2.2.1 hts hGood rfl rfl rfl hnl (hts _ hinit) ⟨hmh, hvh, hpd⟩ hRR, hts _ (x_ok1_in wx), hts _ hsel⟩ ⟨hblind, hrecv, hpre⟩ rfl hal hsz hstk2 hroomW hd hroomC
    · rw [hq2] at hany
      simp only [Option.any_some, Bool.and_eq_true, beq_iff_eq, decide_eq_true_eq] at hany
      obtain ⟨⟨⟨hk1, hk2⟩, hk3⟩, hk4⟩ := hany
      simp only [x_len, Bool.and_eq_true, beq_iff_eq] at hl
      obtain ⟨rfl, rfl⟩ := hl
      rw [hk1] at wx
      have hlk := x_ML_use hml1
      rw [hYi] at hlk
      have hin2 : q2.1.name = "<init>" ∧ q2.2.2.2.1 = none := by
        simpa [hk1] using hini2
      have hstk2 : (F0 m pc lsR (((Value.ref x :: as2).reverse ++ st').map (x_tr ad))).stack = (as2.map (x_tr ad)).reverse ++ Value.ref (ad x) :: st'.map (x_tr ad) := by
        show ((Value.ref x :: as2).reverse ++ st').map (x_tr ad) = _
        simp [x_tr]
      have hal : (as2.map (x_tr ad)).length = q2.2.2.2.2.2.2.1 := by
        rw [List.length_map]
        rw [List.length_cons] at hasl
        omega
      have hcB := callB_of (own := x_N q.2.2.2.2.2.1) (index := idx) (ws' := x_tb) q2.2.2.2.2.2.2.1 hts hGood rfl rfl rfl (hts _ hinit) (hts _ hlk) ⟨hmh, hvh, hpd⟩ hRR
      rw [hin2.2] at hcB
      refine fin _ rfl ?_ rfl
      exact va_runI (b := ad x) (As := as2.map (x_tr ad)) (rest := st'.map (x_tr ad)) hfix (hM ad H.size) ⟨hcB, hin2.1, hts _ (x_ok1_in wx)⟩ ⟨hblind, hpre⟩ rfl hal hsz hstk2 hroomW hd hroomC
end Call
end
section
/-! THE WHOLE RUN: what the pure machine answers, the machine answers -/
def x_End (q : xI) (r : Option Int32) (pc' : Nat) (st' : List Value) : Prop := (r = none ∧ st' = [] ∧ decode q.2.1 pc' = .ok (.return_, 1) ∧ q.2.2.2.1 = none) ∨ ∃ y, r = some y ∧ st' = [.int y] ∧ decode q.2.1 pc' = .ok (.ireturn, 1) ∧ (q.2.2.2.1 = some .int ∨ (q.2.2.2.1 = some .boolean ∧ (y = 0 ∨ y = 1)))
theorem x_at_mem {code : List xE} {pc : Nat} {en : xE} (h : x_at code pc = some en) : en ∈ code ∧ en.1 = pc := by
  induction code with
  | nil => cases h
  | cons q r ih =>
    unfold x_at at h
    split at h
    · cases h
      exact ⟨List.mem_cons_self, by assumption⟩
    · exact ⟨List.mem_cons_of_mem _ (ih h).1, (ih h).2⟩
theorem x_chk_all {i : Nat} {q : xI} (hq : x_inf[i]? = some q) {en : xE} (h : en ∈ q.2.2.2.2.2.2.2) : x_chk q en = true := by
  have hg := x_all_good i q hq
  simp only [x_good, Bool.and_eq_true] at hg
  exact List.all_eq_true.mp hg.1.1.2 en h
theorem x_endS {q : xI} {en : xE} (hk : x_chk q en = true) {ls st : List Value} {h : xH} {r : Option Int32} (hs : x_step x_nf x_sws en ls st h = some (.inr (.inl r))) : x_End q r en.1 st := by
  obtain ⟨pc, op, nx, a, b, cs, v⟩ := en
  unfold x_chk at hk
  split at hk
  case h_2 => cases hk
  rename_i ins len hd
  simp only [Bool.and_eq_true] at hk
  obtain ⟨⟨hl, hf⟩, hr⟩ := hk
  rcases r_ret hs with ⟨rfl, y, rfl, rfl, hb⟩ | ⟨rfl, rfl, rfl⟩
  · have hi := f_27 hf
    subst hi
    simp only [x_len, Bool.and_eq_true, beq_iff_eq] at hl
    obtain ⟨rfl, rfl⟩ := hl
    refine Or.inr ⟨y, rfl, rfl, hd, ?_⟩
    simp only [Bool.or_eq_true, Bool.and_eq_true, beq_iff_eq] at hr
    rcases hr with ⟨h1, -⟩ | ⟨h1, h2⟩
    · exact Or.inl h1
    · refine Or.inr ⟨h1, ?_⟩
      rcases hb with z | z
      · rw [z] at h2; cases h2
      · exact z
  · have hi := f_28 hf
    subst hi
    simp only [x_len, Bool.and_eq_true, beq_iff_eq] at hl
    obtain ⟨rfl, rfl⟩ := hl
    exact Or.inl ⟨rfl, rfl, hd, by simpa using hr⟩
theorem x_mt_at {i nl : Nat} {code : List xE} (h : x_mt[i]? = some (nl, code)) : ∃ q, x_inf[i]? = some q ∧ q.2.2.1 = nl ∧ q.2.2.2.2.2.2.2 = code := by
  rw [x_mt_eq, List.getElem?_map] at h
  obtain ⟨q, hq, h1⟩ := Option.map_eq_some_iff.mp h
  cases h1
  exact ⟨q, hq, rfl, rfl⟩
/-- a run of fuel n gives its contract, if runs of less fuel give theirs -/
def x_IH (l : Launch) (D : va_G) (cI cZ cO : ClassId) (n : Nat) : Prop := ∀ (i : Nat) (q : xI), x_inf[i]? = some q → ∀ (d : Nat) (as : List Value) (h : xH) (r : Option Int32) (h' : xH), (∀ v ∈ as, v.category = 1) → as.length = (if q.2.2.2.2.1 = 0 then q.2.2.2.2.2.2.1 else q.2.2.2.2.2.2.1 + 1) → x_ex x_nf x_sws x_mt n d q.2.2.2.2.2.2.2 0 (as ++ List.replicate (q.2.2.1 - as.length) (.long 0)) [] h = some (r, h') → x_Met l D cI cZ cO q d as h r h'
section Snd
variable {l : Launch} {D : va_G} {cI cZ cO : ClassId}
set_option maxHeartbeats 4000000 in
theorem x_snd (N : Nat) (ihM : ∀ n, n < N → x_IH l D cI cZ cO n) : ∀ (n : Nat), n ≤ N → ∀ (i : Nat) (q : xI), x_inf[i]? = some q → ∀ (d pc : Nat) (ls st : List Value) (h : xH) (r : Option Int32) (h' : xH), x_ex x_nf x_sws x_mt n d q.2.2.2.2.2.2.2 pc ls st h = some (r, h') → ls.length = q.2.2.1 →
    ∀ {p : Program} {e : Env} {R : Room} {s : State} {m : MethodId} {args : Array Value} {below : List Frame} {meth : Method} {c : Code} {Q : State → Prop} {A : Nat → Prop} {L0 T0 n0 : Nat} {ad0 : Nat → Nat}, x_X p s m args meth c R A q → x_Nst s → d + 1 ≤ R.frames → 200 * (d + 1) ≤ R.locals → h'.1.length ≤ R.cells + L0 → x_sl h' ≤ R.slots + T0 →
      (∀ (pc' : Nat) (ls' st' : List Value), x_End q r pc' st' → x_G p l e R s m args below meth c Q D cI cZ cO A L0 T0 n0 ad0 pc' ls' st' h') → x_G p l e R s m args below meth c Q D cI cZ cO A L0 T0 n0 ad0 pc ls st h := by
  intro n
  induction n with
  | zero => intro _ i q hq d pc ls st h r h' hs; cases hs
  | succ n ih =>
    intro hn i q hq d pc ls st h r h' hs hlen p e R s m args below meth c Q A L0 T0 n0 ad0 hX hN hF hL hr1 hr2 hend
    have ih := ih (by omega)
    simp only [x_ex] at hs
    split at hs
    · cases hs
    · rename_i en hat
      obtain ⟨hmem, hpc⟩ := x_at_mem hat
      have hk := x_chk_all hq hmem
      subst hpc
      split at hs
      · cases hs
      · rename_i pc1 ls1 st1 h1 hst
        have hmo := x_step_mono hst
        have hmo2 := x_ex_mono _ _ _ _ _ _ _ _ _ hs
        exact x_stepS hX hk hlen hst (Nat.le_trans hmo2.1 hr1) (Nat.le_trans hmo2.2 hr2) (ih i q hq d _ _ _ _ _ _ hs (hmo.1.trans hlen) hX hN hF hL hr1 hr2 hend)
      · rename_i r1 hst
        cases hs
        exact hend _ _ _ (x_endS hk hst)
      · rename_i i1 as pc1 ls1 st1 hst
        split at hs
        · rename_i d' nl code' hmt
          obtain ⟨q2, hq2, rfl, rfl⟩ := x_mt_at hmt
          split at hs
          · cases hs
          · rename_i r1 h1 hrun
            split at hs
            · rename_i hok
              have hc := r_call hst
              have hlen1 : ls1.length = q.2.2.1 := by rw [hc.2.2.1]; exact hlen
              have hmo1 := x_ex_mono _ _ _ _ _ _ _ _ _ hrun
              have hmo2 := x_ex_mono _ _ _ _ _ _ _ _ _ hs
              have has : as.length = (if q2.2.2.2.2.1 = 0 then q2.2.2.2.2.2.2.1 else q2.2.2.2.2.2.2.1 + 1) := by
                obtain ⟨pc, op, nx, a, b, cs, v⟩ := en
                obtain ⟨e1, -, -, -, -, e2, -, e3⟩ := hc
                dsimp only at e1 e2
                unfold x_chk at hk
                split at hk
                case h_2 => cases hk
                simp only [Bool.and_eq_true] at hk
                obtain ⟨⟨-, hf⟩, -⟩ := hk
                rcases e3 with rfl | ⟨rfl, -⟩
                · obtain ⟨-, -, -, hany⟩ := f_25 hf
                  rw [← e1, hq2] at hany
                  simp only [Option.any_some, Bool.and_eq_true, beq_iff_eq] at hany
                  rw [if_pos hany.1, e2, hany.2]
                · rcases f_26 hf with ⟨-, -, -, hany⟩ | ⟨-, -, -, hany⟩
                  · rw [← e1, hq2] at hany
                    simp only [Option.any_some, Bool.and_eq_true, beq_iff_eq, decide_eq_true_eq] at hany
                    rw [if_neg (by rw [hany.1.1.1]; decide), e2, hany.1.1.2]
                  · rw [← e1, hq2] at hany
                    simp only [Option.any_some, Bool.and_eq_true, beq_iff_eq, decide_eq_true_eq] at hany
                    rw [if_neg (by rw [hany.1.1.1]; decide), e2, hany.1.1.2]
              have hM := ihM n (by omega) i1 q2 hq2 d' as h r1 h1 hc.2.2.2.2.2.2.1 has hrun
              exact x_callS hX hN (by omega) (by omega) hk hlen hst hq2 hM hmo1.1 hmo1.2 (Nat.le_trans hmo2.1 hr1) (Nat.le_trans hmo2.2 hr2) hok (ih i q hq _ _ _ _ _ _ _ hs hlen1 hX hN hF hL hr1 hr2 hend)
            · cases hs
        · cases hs
end Snd
end
section
section All
variable {l : Launch} {D : va_G} {cI cZ cO : ClassId}
set_option maxHeartbeats 4000000 in
theorem x_all : ∀ N, x_IH l D cI cZ cO N := by
  intro N
  induction N using Nat.strongRecOn with
  | ind N ih =>
    intro i q hq d as h r h' hcat hal hs ad sz
    have hg2 := x_all_good i q hq
    simp only [x_good, Bool.and_eq_true, decide_eq_true_eq, Bool.not_eq_true', beq_eq_false_iff_ne, beq_iff_eq] at hg2
    obtain ⟨⟨⟨⟨⟨⟨⟨⟨hpl, hcl2⟩, hmh⟩, hvh⟩, hpd⟩, hini2⟩, hall2⟩, hmx⟩, hnp⟩ := hg2
    have hmo := x_ex_mono _ _ _ _ _ _ _ _ _ hs
    refine Met.ofW (cc := q.2.1) (maxL := q.2.2.1) (ret := q.2.2.2.1) hpl rfl ?_
    intro p e s m args below meth c s₁ B hml hv
    obtain ⟨rfl, hsz, hP, hK, hD, hN⟩ := hv
    have hts : ∀ w ∈ x_ws q, w.before (as.map (x_tr ad)).toArray s = true := atoms_spec (ws := x_ws q) B.pre
    have hlocks := B.notSynchronized
    have hAA : ∀ y, s.heap.size ≤ y → va_A (x_W cI cZ cO ad h) sz y := fun y hy => Or.inr (by rw [← hsz]; exact hy)
    have hown : s.vm.findClass (x_N q.2.2.2.2.2.1) = some m.cls := by
      have h1 := findClass_of_methodNamed B.named
      rw [hcl2] at h1
      exact h1
    have hX : x_X p s m (as.map (x_tr ad)).toArray meth c (x_rm d (h'.1.length - h.1.length) (x_sl h' - x_sl h)) (va_A (x_W cI cZ cO ad h) sz) q := ⟨B.exec, B.bytes, hml, hown, fun w hw => hts w (List.mem_cons_of_mem _ hw), fun z => (name_of_methodNamed B.named B.method).1.trans z, hN.1, hAA, by show 1 ≤ d + 1; omega, by show 200 ≤ 200 * (d + 1); omega⟩
    have hasl : as.length ≤ q.2.2.1 := by rw [hal]; exact hnp
    have key := x_snd N ih N (Nat.le_refl _) i q hq d 0 _ [] h r h' hs (by simp; omega) (p := p) (e := e) (below := below) (Q := MQ below (x_Qc D cI cZ cO sz ad h r h') (as.map (x_tr ad)).toArray s (h'.1.length - h.1.length) (x_sl h' - x_sl h) (va_A (x_W cI cZ cO ad h) sz)) (L0 := h.1.length) (T0 := x_sl h) (n0 := h.1.length) (ad0 := ad) hX hN (Nat.le_refl _) (Nat.le_refl _) (by show _ ≤ h'.1.length - h.1.length + _; omega) (by show _ ≤ x_sl h' - x_sl h + _; omega) ?_
    · rw [lg_entry_eq]
      exact key s.heap [] 0 0 ad _ ⟨hK, hP, hD.self, va_S.rf⟩ (x_L_entry hcat hasl) (Nat.zero_add _) (Nat.zero_add _) ⟨Nat.le_refl _, fun _ _ => rfl, fun _ => rfl⟩
    · intro pc' ls' st' hE H locs cells slots ad' lsR hI hL hc hs' ha
      obtain rfl : cells = h'.1.length - h.1.length := by omega
      obtain rfl : slots = x_sl h' - x_sl h := by omega
      rcases hE with ⟨rfl, rfl, hd, hret⟩ | ⟨y, rfl, rfl, hd, hret⟩
      · exact W.vret (Qc := x_Qc D cI cZ cO sz ad h none h') (free := va_A (x_W cI cZ cO ad h) sz) B.exec B.bytes (by rw [B.returns, hret]) (fun t ht hW => ⟨⟨rfl, ad', ha, by rw [ht]; exact hI.2.1, hI.2.2.1⟩, hI.2.2.2.F ht⟩) hI.2.2.2.2.2 hd
      · rcases hret with hret | ⟨hret, hy⟩
        · exact W.iret (Qc := x_Qc D cI cZ cO sz ad h (some y) h') (free := va_A (x_W cI cZ cO ad h) sz) B.exec B.bytes (by rw [B.returns, hret]) (fun t ht hW => ⟨⟨rfl, ad', ha, by rw [ht]; exact hI.2.1, hI.2.2.1⟩, hI.2.2.2.F ht⟩) hI.2.2.2.2.2 hd
        · exact W.zret (Qc := x_Qc D cI cZ cO sz ad h (some y) h') (free := va_A (x_W cI cZ cO ad h) sz) (ty := .boolean) B.exec B.bytes (by rw [B.returns, hret]) (by rcases hy with rfl | rfl <;> rfl) (fun t ht hW => ⟨⟨rfl, ad', ha, by rw [ht]; exact hI.2.1, hI.2.2.1⟩, hI.2.2.2.F ht⟩) hI.2.2.2.2.2 hd
end All
end
section
def R_law : String := "MuseumYearLaw"
def lw_P (b : Addr) (xs : List Int32) (args : Array Value) (s : State) : Prop := args = #[.ref b] ∧ s.IntsAt b xs ∧ xs.length ≤ 2048 ∧ (Jvm.Cond.and given_1 narrow_1).before args s = true
def lw_Q (_ : Array Value) (s : State) (o : Outcome) (t : State) : Prop := o = .returned (some (.int 1)) ∧ Framed s o t [] 600000 7302250
def lw_Z (below : List Frame) (a : Array Value) (s : State) : State → Prop := fun t => ∃ o, t.status = .running ∧ Ended t below o ∧ lw_Q a s o t
/-- the law's own end, with 1 on the stack, nothing written that was there before, its room as the claim has it -/
theorem lw_ret {p : Program} {l : Launch} {e : Env} {s : State} {m : MethodId} {below : List Frame} {meth : Method} {c : Code} {b : Nat} (hx : p.tables.exec = Jvm.exec) (hb : c.code = code) (hr : meth.sig.returnType = ret) (hlocks : meth.locks = false) {pc : Nat} {H : Heap} {ls : Array Slot} (hdg : decode code pc = .ok (.ireturn, 1)) : W p l e room_1 s m #[Value.ref b] below meth c H [] 600000 7302250 (lw_Z below #[Value.ref b] s) (F0 m pc ls [.int 1]) := by
  intro T hT X
  obtain ⟨fs, hret, hrun, hended, hW, hframe⟩ := X.leave (v := some (.int 1)) (hlocks := hlocks) (fun h => by rw [hr] at h; cases h)
  have hmeth' : T.vm.method? m = some meth := X.method'
  refine ⟨T.setFrames fs, ?_, .returned (some (.int 1)), hrun, hended, rfl, ⟨_, rfl⟩, hW, hframe⟩
  jvm_step X.here [X.here.top, hx, hb, hdg, hmeth', hr, ret, narrow_b1]
  (try refine ⟨rfl, ?_⟩); (try refine ⟨rfl, ?_⟩)
  first | (intro acts; rw [hret _ acts rfl rfl rfl]) | rw [hret _ _ rfl rfl rfl]
  exact Steps.refl _
/-- what holds at the law's entry: the machine, the code, the tables' words (any of lw_tbl by 'hts w (by decide +kernel)'), the script of L ints xs at the cell b, what the Statement gives of the start (any of its parts by flat_of_before) -/
def lw_At (p : Program) (s : State) (m : MethodId) (meth : Method) (c : Code) (b L : Nat) (xs : Nat → Int32) : Prop :=
  p.tables.exec = Jvm.exec ∧ c.code = code ∧ meth.sig.returnType = ret ∧ c.maxLocals = 4 ∧ s.vm.findClass R_law = some m.cls ∧ (∀ w ∈ lw_tbl, w.before #[Value.ref b] s = true) ∧ va_X b L xs s s.heap ∧ b < s.heap.size ∧ meth.locks = false ∧ (Jvm.Cond.and given_1 narrow_1).before #[Value.ref b] s = true
/-- the shapes behind the two constructors -/
def x_S0 : List xS := [(0, 6, [some 1, none, some 2, some 5, some 10, some 19, some 71, none, some 72, none, some 73]), (1, 100, []), (0, 3, [none, none, none, some 3, some 4]), (1, 6, []), (1, 4, []), (0, 4, [some 6, some 7, some 8, some 9, none]), (1, 8, []), (1, 6, []), (1, 6, []), (1, 6, []), (0, 1, [some 11, some 14, some 1, none, none, none, none, none, none, none]), (0, 3, [none, none, none, some 12, some 13]), (1, 6, []), (1, 4, []), (0, 4, [some 15, some 16, some 17, some 18, none]), (1, 8, []), (1, 6, []), (1, 6, []), (1, 6, []), (0, 0, [some 20, none, none]), (3, 10, [some 21, some 26, some 31, some 36, some 41, some 46, some 51, some 56, some 61, some 66]), (0, 4, [some 22, some 23, some 24, some 25, none]), (1, 8, []), (1, 6, []), (1, 6, []), (1, 6, []), (0, 4, [some 27, some 28, some 29, some 30, none]), (1, 8, []), (1, 6, []), (1, 6, []), (1, 6, []), (0, 4, [some 32, some 33, some 34, some 35, none]), (1, 8, []), (1, 6, []), (1, 6, []), (1, 6, []), (0, 4, [some 37, some 38, some 39, some 40, none]), (1, 8, []), (1, 6, []), (1, 6, []), (1, 6, []), (0, 4, [some 42, some 43, some 44, some 45, none]), (1, 8, []), (1, 6, []), (1, 6, []), (1, 6, []), (0, 4, [some 47, some 48, some 49, some 50, none]), (1, 8, []), (1, 6, []), (1, 6, []), (1, 6, []), (0, 4, [some 52, some 53, some 54, some 55, none]), (1, 8, []), (1, 6, []), (1, 6, []), (1, 6, []), (0, 4, [some 57, some 58, some 59, some 60, none]), (1, 8, []), (1, 6, []), (1, 6, []), (1, 6, []), (0, 4, [some 62, some 63, some 64, some 65, none]), (1, 8, []), (1, 6, []), (1, 6, []), (1, 6, []), (0, 4, [some 67, some 68, some 69, some 70, none]), (1, 8, []), (1, 6, []), (1, 6, []), (1, 6, []), (3, 2, [some 86, some 91]), (1, 4, []), (0, 5, [some 2, some 5, some 76, some 74, some 75, none, none]), (1, 8, []), (1, 6, []), (0, 2, [some 2, some 5, some 77, some 78, some 79, some 80, some 81, some 82, some 83, some 84, some 85, none, none, none, none, none, none]), (1, 8, []), (1, 8, []), (1, 6, []), (1, 6, []), (1, 6, []), (1, 8, []), (1, 8, []), (1, 10, []), (1, 8, []), (0, 4, [some 87, some 88, some 89, some 90, none]), (1, 8, []), (1, 6, []), (1, 6, []), (1, 6, []), (0, 4, [some 92, some 93, some 94, some 95, none]), (1, 8, []), (1, 6, []), (1, 6, []), (1, 6, []), (0, 7, [none, some 97, none, none, none, none, none, none, none, none, none, some 98, some 99, none, none, none, none, none, some 100, some 101, some 102, some 103, some 104, none, some 105, some 106, some 107, none, some 108, some 109, some 110, some 111, none, none]), (1, 100, []), (1, 4, []), (1, 6, []), (1, 4, []), (1, 6, []), (1, 27, []), (1, 27, []), (1, 270, []), (1, 54, []), (2, 2, []), (1, 4, []), (1, 8, []), (1, 9, []), (1, 6, []), (1, 8, [])]
def x_LL : List (Nat × Nat × Nat) := [(9, 66, 69), (13, 67, 339), (18, 68, 343), (23, 69, 347), (27, 70, 442), (32, 71, 450), (36, 72, 458), (40, 73, 470), (45, 74, 484), (49, 75, 492), (53, 76, 498), (57, 77, 506), (61, 78, 518), (65, 79, 620), (69, 80, 629), (73, 81, 647), (77, 82, 652), (81, 83, 671), (85, 84, 680), (89, 85, 688), (93, 86, 692), (97, 87, 696), (101, 88, 704), (105, 89, 708), (109, 90, 712), (12, 96, 723), (17, 99, 839), (22, 100, 846), (26, 110, 850), (31, 115, 889), (35, 116, 897), (39, 117, 905), (44, 119, 913), (48, 120, 921), (52, 121, 925), (56, 122, 929), (60, 123, 933), (64, 131, 937), (68, 132, 969), (72, 134, 973), (76, 135, 982), (80, 137, 986), (84, 138, 994), (88, 140, 998), (92, 141, 1006), (96, 142, 1010), (100, 143, 1014), (104, 144, 1018), (108, 145, 1022), (112, 146, 1026)]
theorem x_LL_ok : x_LL.all (fun q => x_ok1 (.methodLink R_law q.1 (x_Y q.2.1)) q.2.2) = true := by decide +kernel
theorem x_LK_ok : x_ok1 (.classLink R_law 7 RX6) 67 = true ∧ x_ok1 (.classLink R_law 10 RX7) 721 = true := by decide +kernel
theorem x_LL_use {idx i : Nat} (h : x_LL.any (fun q => q.1 == idx && q.2.1 == i) = true) : Cond.methodLink R_law idx (x_Y i) ∈ x_tb := by
  obtain ⟨q, hq, h1⟩ := List.any_eq_true.mp h
  simp only [Bool.and_eq_true, beq_iff_eq] at h1
  obtain ⟨rfl, rfl⟩ := h1
  exact x_ok1_in (List.all_eq_true.mp x_LL_ok q hq)
section LawCalls
variable {p : Program} {l : Launch} {e : Env} {s : State} {m : MethodId} {b : Nat} {below : List Frame} {meth : Method} {c : Code} {Q : State → Prop} {D : va_G} {cI cZ cO : ClassId} {A : Nat → Prop} {H : Heap} {locs : List Loc} {cells slots : Nat} {ad : Nat → Nat} {h h' : xH} {lsR : Array Slot} {pc : Nat} {rest : List Value}
def x_LX (p : Program) (s : State) (m : MethodId) (b : Nat) (c : Code) (A : Nat → Prop) : Prop := p.tables.exec = Jvm.exec ∧ c.code = code ∧ c.maxLocals = 4 ∧ s.vm.findClass R_law = some m.cls ∧ (∀ w ∈ x_tb, w.before #[Value.ref b] s = true) ∧ x_Nst s ∧ (∀ y, s.heap.size ≤ y → A y)
set_option maxHeartbeats 4000000 in
theorem law_call (hX : x_LX p s m b c A) (hI : x_I D cI cZ cO A s H locs ad h) {i idx : Nat} {q2 : xI} (hq2 : x_inf[i]? = some q2) (hlk : x_LL.any (fun q => q.1 == idx && q.2.1 == i) = true) {x : Nat} {as2 : List Int32} {rf : List (Option Nat)} (hxq : h.1[x]? = some (0, q2.2.2.2.2.2.1, rf)) (h8 : q2.2.2.2.2.2.1 < 8) (hal : as2.length = q2.2.2.2.2.2.2.1) (hkd : q2.2.2.2.2.1 = 1 ∧ decode code pc = .ok (.invokevirtual idx, 3) ∨ q2.2.2.2.2.1 = 2 ∧ decode code pc = .ok (.invokespecial idx, 3)) {n d : Nat} (hd0 : d ≤ 100) {r : Option Int32}
    (hrun : x_ex x_nf x_sws x_mt n d q2.2.2.2.2.2.2.2 0 ((Value.ref x :: as2.map Value.int) ++ List.replicate (q2.2.2.1 - (as2.length + 1)) (.long 0)) [] h = some (r, h')) (hsz : lsR.size = 4) (hrest : (rest.map fun v => v.category).sum ≤ 8) (hroom : cells + (h'.1.length - h.1.length) ≤ 600000 ∧ slots + (x_sl h' - x_sl h) ≤ 7302250)
    (k : ∀ (H1 : Heap) (locs1 : List Loc) (ad' : Nat → Nat), x_ad ad h.1.length ad' h'.1.length → x_I D cI cZ cO A s H1 locs1 ad' h' → W p l e room_1 s m #[Value.ref b] below meth c H1 locs1 (cells + (h'.1.length - h.1.length)) (slots + (x_sl h' - x_sl h)) Q (F0 m (pc + 3) lsR ((r.map Value.int).toList ++ rest))) : W p l e room_1 s m #[Value.ref b] below meth c H locs cells slots Q (F0 m pc lsR ((as2.map Value.int).reverse ++ Value.ref (ad x) :: rest)) := by
  obtain ⟨hx, hb, hml, hown, hts, hN, hA⟩ := hX
  have hg2 := x_all_good i q2 hq2
  simp only [x_good, Bool.and_eq_true, decide_eq_true_eq, Bool.not_eq_true', beq_eq_false_iff_ne, beq_iff_eq] at hg2
  obtain ⟨⟨⟨⟨⟨⟨⟨⟨hpl, hcl2⟩, hmh⟩, hvh⟩, hpd⟩, hini2⟩, hall2⟩, hmx⟩, hnp⟩ := hg2
  obtain ⟨wr, hwP⟩ := x_all_wP i q2 hq2
  simp only [x_wP, Bool.and_eq_true] at hwP
  obtain ⟨⟨⟨wc, wi⟩, wx⟩, wsel⟩ := hwP
  have hcode := x_ok1_in wc
  have hinit := x_ok1_in wi
  have hGood : GoodIn x_tb (x_ws q2) := by
    intro w hw
    rcases List.mem_cons.mp hw with rfl | hw
    · exact ⟨hcode, x_tb_good hcode⟩
    · exact ⟨hw, x_tb_good hw⟩
  have hlk2 := x_LL_use hlk
  rw [x_Y_of hq2] at hlk2
  have hk12 : ¬ q2.2.2.2.2.1 = 0 := by rcases hkd with z | z <;> rw [z.1] <;> decide
  have hM := x_all (l := l) (D := D) (cI := cI) (cZ := cZ) (cO := cO) n i q2 hq2 d (Value.ref x :: as2.map Value.int) h r h' (by
    intro v hv
    rcases List.mem_cons.mp hv with rfl | hv
    · rfl
    · obtain ⟨w, -, rfl⟩ := List.mem_map.mp hv
      rfl) (by rw [if_neg hk12]; simp [hal]) (by rw [show (Value.ref x :: as2.map Value.int).length = as2.length + 1 by simp]; exact hrun)
  have hmap : (Value.ref x :: as2.map Value.int).map (x_tr ad) = Value.ref (ad x) :: as2.map Value.int := by simp [x_tr, Function.comp_def]
  have hMa := hM ad H.size
  rw [hmap] at hMa
  have hDA : ∀ y, va_A (x_W cI cZ cO ad h) H.size y → A y := by
    intro y hy
    rcases hy with ⟨k0, e0, hk0⟩ | hy
    · exact hI.2.2.1.2 k0 _ hk0
    · exact hA y (Nat.le_trans hI.2.2.2.1 hy)
  have hblind : FrameBlind (va_Pc (Value.ref (ad x) :: as2.map Value.int) (x_PB D cI cZ cO H.size ad h)) := fun a0 U g mk z => by
    obtain ⟨z0, z1, zP, zK, zD, zN⟩ := z
    exact ⟨z0, z1, zP, va_K.moved (u := U) (U := U.calling g mk a0) (Vm.Alike.refl U.vm) zK, zD, zN.blind⟩
  have hpre : ∀ U : State, U.heap = H → s.WarmedH U.vm → va_Pc (Value.ref (ad x) :: as2.map Value.int) (x_PB D cI cZ cO H.size ad h) (Value.ref (ad x) :: as2.map Value.int).toArray U := fun U hU hW => ⟨rfl, by rw [hU], by rw [hU]; exact hI.2.1, va_K.moved hW.alike hI.1, hI.2.2.1.weaken (fun _ _ _ _ => trivial), hN.warm hW⟩
  have hfix : CallFix p m c code 4 s #[Value.ref b] x_tb R_law := ⟨hx, hb, hml, hown, hts⟩
  have hRR : (x_rm d (h'.1.length - h.1.length) (x_sl h' - x_sl h)).frames + 1 ≤ room_1.frames ∧ 8 + (q2.2.2.1 + 11) + (x_rm d (h'.1.length - h.1.length) (x_sl h' - x_sl h)).locals ≤ room_1.locals := by
    show d + 1 + 1 ≤ 2048 ∧ 8 + (q2.2.2.1 + 11) + 200 * (d + 1) ≤ 84000
    omega
  have hn8 := List.all_eq_true.mp x_new_ok _ (List.mem_range.mpr h8)
  simp only [Bool.and_eq_true, decide_eq_true_eq] at hn8
  have hcls : (x_C q2.2.2.2.2.2.1).1 = q2.1.cls := by rw [hn8.2, hcl2]; rfl
  have hrecv : ∃ cell : Cell, H[ad x]? = some cell ∧ cell.vm.isStatics = false ∧ s.vm.findClass q2.1.cls = some cell.cls := by
    have := va_recv hI.1 hI.2.1 (x_cl_at _ h8) (x_W_at hxq)
    rw [← hcls]
    exact this
  have hal2 : (as2.map Value.int).length = q2.2.2.2.2.2.2.1 := by rw [List.length_map, hal]
  have fin : va_Run p l e room_1 s m #[Value.ref b] below meth c H locs cells slots (h'.1.length - h.1.length) (x_sl h' - x_sl h) (F0 m pc lsR ((as2.map Value.int).reverse ++ Value.ref (ad x) :: rest)) rest (x_Qc D cI cZ cO H.size ad h r h' (Value.ref (ad x) :: as2.map Value.int).toArray) (va_A (x_W cI cZ cO ad h) H.size) → W p l e room_1 s m #[Value.ref b] below meth c H locs cells slots Q (F0 m pc lsR ((as2.map Value.int).reverse ++ Value.ref (ad x) :: rest)) := by
    intro hrun
    exact x_cont hrun hI.2.2.2 hDA (fun H1 locs1 ad' g0 g1 g2 g3 => k H1 locs1 ad' g0 ⟨hI.1, g1, g2, g3⟩)
  rcases hkd with ⟨hk1, hd⟩ | ⟨hk1, hd⟩
  · rw [hk1] at wx
    have hsel : Cond.selects q2.1.cls q2.1 q2.1 ∈ x_tb := by
      simp only [hk1, bne_self_eq_false, Bool.false_or] at wsel
      exact x_ok1_in wsel
    exact fin (va_runV (C := q2.1.cls) (b := ad x) (As := as2.map Value.int) (rest := rest) hfix hMa ⟨callB_of (ws' := x_tb) q2.2.2.2.2.2.2.1 hts hGood rfl rfl rfl (hts _ hinit) (hts _ hlk2) ⟨hmh, hvh, hpd⟩ hRR, hts _ (x_ok1_in wx), hts _ hsel⟩ ⟨hblind, hrecv, hpre⟩ rfl hal2 hsz rfl (lv_room hrest) hd hroom)
  · rw [hk1] at wx
    have hin2 : q2.1.name = "<init>" ∧ q2.2.2.2.1 = none := by
      simpa [hk1] using hini2
    have hcB := callB_of (own := R_law) (index := idx) (ws' := x_tb) q2.2.2.2.2.2.2.1 hts hGood rfl rfl rfl (hts _ hinit) (hts _ hlk2) ⟨hmh, hvh, hpd⟩ hRR
    rw [hin2.2] at hcB
    exact fin (va_runI (b := ad x) (As := as2.map Value.int) (rest := rest) hfix hMa ⟨hcB, hin2.1, hts _ (x_ok1_in wx)⟩ ⟨hblind, hpre⟩ rfl hal2 hsz rfl (lv_room hrest) hd hroom)
theorem law_new (hX : x_LX p s m b c A) (hI : x_I D cI cZ cO A s H locs ad h) {i a : Nat} (ha8 : a < 8) (hr1 : cells + 1 ≤ 600000) (hr2 : slots + (x_C a).2.2 ≤ 7302250) (o3 : h.1.all (fun q => q.2.2.all (x_ro h.1.length)) = true) (hlk : Cond.classLink R_law i (x_C a).1 ∈ x_tb) (hd : decode code pc = .ok (.new i, 3))
    (k : ∀ (z : Nat) (H1 : Heap), x_I D cI cZ cO A s H1 locs (x_adp ad h.1.length z) (x_push h.1 h.2 (0, a, List.replicate (x_nf.getD a 0) none)) → W p l e room_1 s m #[Value.ref b] below meth c H1 locs (cells + 1) (slots + (x_C a).2.2) Q (F0 m (pc + 3) lsR (.ref z :: rest))) : W p l e room_1 s m #[Value.ref b] below meth c H locs cells slots Q (F0 m pc lsR rest) := by
  obtain ⟨hx, hb, hml, hown, hts, hN, hA⟩ := hX
  have hn := List.all_eq_true.mp x_new_ok a (List.mem_range.mpr ha8)
  simp only [Bool.and_eq_true, decide_eq_true_eq] at hn
  have hfs : ∀ (V : xV) (ad' : Nat → Nat) (z : Nat), (∀ k, V z k = 0) → ∀ j, j < (x_C a).2.2 → defaultValue (x_ty a j) = vp_V (x_fs ad' V z a (List.replicate (x_nf.getD a 0) none)) j := by
    intro V ad' z hV j hj
    have e1 : vp_V (x_fs ad' V z a (List.replicate (x_nf.getD a 0) none)) j = x_fv ad' V z a (List.replicate (x_nf.getD a 0) none) j := by simp [vp_V, List.getD, x_fs_at hj]
    rw [e1]
    unfold x_fv
    rcases x_kd_use ha8 hj with ⟨q1, q2, -⟩ | ⟨q1, q2, -⟩ | ⟨q1, -, -, q2⟩
    · rw [q1, q2, hV]; rfl
    · rw [q1, q2, hV]; rfl
    · rw [if_pos q1]
      have e2 : ((List.replicate (x_nf.getD a 0) (none : Option Nat))[j]?).getD none = none := by
        rw [List.getElem?_replicate]
        split <;> rfl
      rw [e2]
      revert q2
      cases x_ty a j <;> intro q2 <;> first | rfl | cases q2
  refine va_new hx hb hts (x_in_ok a ha8) (x_ty a) (x_ty_ok a ha8) hown (hts _ hlk) (hts _ (x_ok1_in hn.1.1)) (hts _ (x_ok1_in hn.1.2)) hI.1 hI.2.1 hI.2.2.1 hI.2.2.2 hA (x_cl_at a ha8) (fs := x_fs ad (x_push h.1 h.2 (0, a, List.replicate (x_nf.getD a 0) none)).2 h.1.length a (List.replicate (x_nf.getD a 0) none)) (hfs _ _ _ (fun k => by simp [x_push])) hr1 hr2 hd (fun z H1 g1 g2 g3 => ?_)
  have e0 : (.inr (a, x_fs ad (x_push h.1 h.2 (0, a, List.replicate (x_nf.getD a 0) none)).2 h.1.length a (List.replicate (x_nf.getD a 0) none)) : va_E) = x_cell cI cZ cO (x_adp ad h.1.length z) (x_push h.1 h.2 (0, a, List.replicate (x_nf.getD a 0) none)).2 h.1.length (0, a, List.replicate (x_nf.getD a 0) none) := by
    rw [x_cell_ad (by simp [x_ro])]
    rfl
  rw [e0] at g1 g2
  have e1 := x_W_push (cI := cI) (cZ := cZ) (cO := cO) (ad := ad) (S := h.1) (V := h.2) (q := (0, a, List.replicate (x_nf.getD a 0) none)) (a := z) o3
  rw [show x_W cI cZ cO ad h = x_W cI cZ cO ad (h.1, h.2) from rfl, e1] at g1 g2
  exact k z H1 ⟨hI.1, g1, g2, g3⟩
end LawCalls
end
section
/-! THE LAW, over pure runs -/
def x_Ex (d : Nat) (code : List xE) (pc : Nat) (ls st : List Value) (V : xV) (r : Option Int32) (V' : xV) : Prop := ∃ n, x_ex x_nf x_sws x_mt n d code pc ls st (x_S0, V) = some (r, (x_S0, V'))
def x_Rn (d i : Nat) (as : List Value) (V : xV) (r : Option Int32) (V' : xV) : Prop := ∃ (nl : Nat) (code : List xE), x_mt[i]? = some (nl, code) ∧ x_Ex d code 0 (as ++ List.replicate (nl - as.length) (.long 0)) [] V r V'
/-- the cases: first pc, how many numbers, index and method of the class, of the reference -/
def x_lc : List (Nat × Nat × Nat × Nat × Nat × Nat) := [(144, 1, 13, 67, 17, 99), (167, 0, 18, 68, 22, 100), (180, 0, 23, 69, 26, 110), (193, 2, 27, 70, 31, 115), (226, 1, 32, 71, 35, 116), (249, 2, 36, 72, 39, 117), (282, 3, 40, 73, 44, 119), (325, 3, 45, 74, 48, 120), (368, 2, 49, 75, 52, 121), (401, 1, 53, 76, 56, 122), (424, 0, 57, 77, 60, 123), (437, 2, 61, 78, 64, 131), (470, 1, 65, 79, 68, 132), (493, 2, 69, 80, 72, 134), (526, 1, 73, 81, 76, 135), (549, 1, 77, 82, 80, 137), (572, 0, 81, 83, 84, 138), (585, 1, 85, 84, 88, 140), (608, 1, 89, 85, 92, 141), (631, 0, 93, 86, 96, 142), (644, 0, 97, 87, 100, 143), (657, 1, 101, 88, 104, 144), (680, 1, 105, 89, 108, 145), (703, 1, 109, 90, 112, 146)]
def lw_ck : List Nat → Nat → Bool
  | [], _ => true
  | j :: r, pc => decide (decode code pc = .ok (.aload_n 0, 1)) && decide (decode code (pc + 1) = .ok (.iload_n 3, 1)) && decide (decode code (pc + 2) = .ok (.iconst (j : Int), 1)) && decide (decode code (pc + 3) = .ok (.iadd, 1)) && decide (decode code (pc + 4) = .ok (.iaload, 1)) && lw_ck r (pc + 5)
def lw_js (n : Nat) : List Nat := [1, 2, 3].take n
def lw_cs (q : Nat × Nat × Nat × Nat × Nat × Nat) : Bool := decide (decode code q.1 = .ok (.aload_n 1, 1)) && lw_ck (lw_js q.2.1) (q.1 + 1) && decide (decode code (q.1 + 1 + 5 * q.2.1) = .ok (.invokevirtual q.2.2.1, 3)) && decide (decode code (q.1 + 4 + 5 * q.2.1) = .ok (.aload_n 2, 1)) && lw_ck (lw_js q.2.1) (q.1 + 5 + 5 * q.2.1) && decide (decode code (q.1 + 5 + 10 * q.2.1) = .ok (.invokevirtual q.2.2.2.2.1, 3)) && decide (decode code (q.1 + 8 + 10 * q.2.1) = .ok (.if_icmp .eq (726 - (q.1 + 8 + 10 * q.2.1 : Int)), 3)) && decide (q.2.1 ≤ 3) &&
  x_LL.any (fun z => z.1 == q.2.2.1 && z.2.1 == q.2.2.2.1) && x_LL.any (fun z => z.1 == q.2.2.2.2.1 && z.2.1 == q.2.2.2.2.2) && (x_inf[q.2.2.2.1]?).any (fun z => z.2.2.2.2.1 == 1 && z.2.2.2.2.2.1 == 6 && z.2.2.2.2.2.2.1 == q.2.1) && (x_inf[q.2.2.2.2.2]?).any (fun z => z.2.2.2.2.1 == 1 && z.2.2.2.2.2.1 == 7 && z.2.2.2.2.2.2.1 == q.2.1)
theorem x_lc_ok : x_lc.all lw_cs = true := by decide +kernel
def lw_offs : Array Int := #[112, 135, 148, 161, 194, 217, 250, 293, 336, 369, 392, 405, 438, 461, 494, 517, 540, 553, 576, 599, 612, 625, 648, 671]
theorem d_law_32 : decode code 32 = .ok (.tableswitch 694 0 23 lw_offs, 112) := by decide +kernel
theorem lw_offs_ok : ∀ k, k < 24 → ∃ q, x_lc[k]? = some q ∧ lw_offs[k]? = some ((q.1 : Int) - 32) := by
  have h : (List.range 24).all (fun k => match x_lc[k]? with
    | some q => decide (lw_offs[k]? = some ((q.1 : Int) - 32))
    | none => false) = true := by decide +kernel
  intro k hk
  have h1 := List.all_eq_true.mp h k (List.mem_range.mpr hk)
  cases hq : x_lc[k]? with
  | none => rw [hq] at h1; cases h1
  | some q =>
    rw [hq] at h1
    exact ⟨q, rfl, by simpa using h1⟩
theorem d_law_0 : decode code 0 = .ok (.new 7, 3) := by decide +kernel
theorem d_law_3 : decode code 3 = .ok (.dup, 1) := by decide +kernel
theorem d_law_4 : decode code 4 = .ok (.invokespecial 9, 3) := by decide +kernel
theorem d_law_7 : decode code 7 = .ok (.astore_n 1, 1) := by decide +kernel
theorem d_law_8 : decode code 8 = .ok (.new 10, 3) := by decide +kernel
theorem d_law_11 : decode code 11 = .ok (.dup, 1) := by decide +kernel
theorem d_law_12 : decode code 12 = .ok (.invokespecial 12, 3) := by decide +kernel
theorem d_law_15 : decode code 15 = .ok (.astore_n 2, 1) := by decide +kernel
theorem d_law_16 : decode code 16 = .ok (.iconst 0, 1) := by decide +kernel
theorem d_law_17 : decode code 17 = .ok (.istore_n 3, 1) := by decide +kernel
theorem d_law_18 : decode code 18 = .ok (.iload_n 3, 1) := by decide +kernel
theorem d_law_19 : decode code 19 = .ok (.aload_n 0, 1) := by decide +kernel
theorem d_law_20 : decode code 20 = .ok (.arraylength, 1) := by decide +kernel
theorem d_law_21 : decode code 21 = .ok (.iconst 4, 1) := by decide +kernel
theorem d_law_22 : decode code 22 = .ok (.isub, 1) := by decide +kernel
theorem d_law_23 : decode code 23 = .ok (.if_icmp .gt 709, 3) := by decide +kernel
theorem d_law_26 : decode code 26 = .ok (.aload_n 0, 1) := by decide +kernel
theorem d_law_27 : decode code 27 = .ok (.iload_n 3, 1) := by decide +kernel
theorem d_law_28 : decode code 28 = .ok (.iaload, 1) := by decide +kernel
theorem d_law_29 : decode code 29 = .ok (.bipush 31, 2) := by decide +kernel
theorem d_law_31 : decode code 31 = .ok (.iand, 1) := by decide +kernel
theorem d_law_726 : decode code 726 = .ok (.iinc 3 4, 3) := by decide +kernel
theorem d_law_729 : decode code 729 = .ok (.goto (-711), 3) := by decide +kernel
theorem d_law_732 : decode code 732 = .ok (.iconst 1, 1) := by decide +kernel
theorem d_law_733 : decode code 733 = .ok (.ireturn, 1) := by decide +kernel
theorem lw_and31 (x : Int32) : ∃ k, k < 32 ∧ x &&& 31 = nI k := by
  refine ⟨x.toBitVec.toNat % 32, Nat.mod_lt _ (by decide), ?_⟩
  apply Int32.toBitVec_inj.mp
  show x.toBitVec &&& 31#32 = BitVec.ofNat 32 (x.toBitVec.toNat % 32)
  apply BitVec.eq_of_toNat_eq
  have h1 : x.toBitVec.toNat &&& 31 = x.toBitVec.toNat % 32 := Nat.and_two_pow_sub_one_eq_mod _ 5
  have h2 : x.toBitVec.toNat % 32 < 32 := Nat.mod_lt _ (by decide)
  have h3 : (31#32).toNat = 31 := rfl
  rw [BitVec.toNat_and, h3, h1, BitVec.toNat_ofNat]
  omega
section LawLoop
variable {p : Program} {l : Launch} {e : Env} {s : State} {m : MethodId} {b L : Nat} {xs : Nat → Int32} {below : List Frame} {meth : Method} {c : Code} {Q : State → Prop} {D : va_G} {cI cZ cO : ClassId} {H : Heap} {locs : List Loc} {cells slots : Nat} {ad : Nat → Nat} {lsR : Array Slot} {pc t : Nat} {rest : List Value}
theorem lw_args (hx : p.tables.exec = Jvm.exec) (hb : c.code = code) (hXs : va_X b L xs s s.heap) (hbl : b < s.heap.size) (hS : va_S (fun q => s.heap.size ≤ q) s.heap H locs) (hl : lv_has lsR 4 [(0, .ref b), (1, .ref (ad 0)), (2, .ref (ad 96)), (3, .int (nI (4 * t)))]) (hL : L ≤ 2048) (ht : 4 * t + 4 ≤ L) : ∀ (js : List Nat) (pc : Nat) (rest : List Value), lw_ck js pc = true → (∀ j ∈ js, j < 4) →
    W p l e room_1 s m #[Value.ref b] below meth c H locs cells slots Q (F0 m (pc + 5 * js.length) lsR ((js.map (fun j => Value.int (xs (4 * t + j)))).reverse ++ rest)) → W p l e room_1 s m #[Value.ref b] below meth c H locs cells slots Q (F0 m pc lsR rest) := by
  intro js
  induction js with
  | nil => intro pc rest _ _ k; exact k
  | cons j r ih =>
    intro pc rest hck hj k
    simp only [lw_ck, Bool.and_eq_true, decide_eq_true_eq] at hck
    obtain ⟨⟨⟨⟨⟨h0, h1⟩, h2⟩, h3⟩, h4⟩, h5⟩ := hck
    have hj4 := hj j List.mem_cons_self
    refine lv_aload_n hx hb h0 rfl (lv_at hl 0 rfl) ?_
    refine lv_iload_n hx hb h1 rfl (lv_at hl 3 rfl) ?_
    refine lv_iconst hx hb h2 rfl ?_
    refine lv_iadd hx hb h3 ?_
    have e1 : nI (4 * t) + Int32.ofInt (j : Int) = nI (4 * t + j) := by
      rw [show Int32.ofInt (j : Int) = nI j from rfl, nI_add]
    rw [e1]
    refine va_sld hx hb hXs hbl (by simpa using hbl) hS (vp_in_nI (by omega) (by omega)) h4 ?_
    rw [nI_clamp (by omega)]
    refine ih (pc + 5) _ h5 (fun a ha => hj a (List.mem_cons_of_mem _ ha)) ?_
    have e2 : pc + 5 + 5 * r.length = pc + 5 * (j :: r).length := by rw [List.length_cons]; omega
    rw [e2]
    have e3 : (r.map (fun j => Value.int (xs (4 * t + j)))).reverse ++ Value.int (xs (4 * t + j)) :: rest = ((j :: r).map (fun j => Value.int (xs (4 * t + j)))).reverse ++ rest := by simp
    rw [e3]
    exact k
set_option maxHeartbeats 4000000 in
set_option maxRecDepth 100000 in
theorem lw_case (hX : x_LX p s m b c (fun q => s.heap.size ≤ q)) (hXs : va_X b L xs s s.heap) (hbl : b < s.heap.size) (hL : L ≤ 2048) (ht : 4 * t + 4 ≤ L) {k : Nat} {q : Nat × Nat × Nat × Nat × Nat × Nat} (hq : x_lc[k]? = some q) (hc : cells ≤ 600000) (hs : slots ≤ 7302250) {V V1 V2 : xV} {r : Int32} (hr1 : x_Rn 100 q.2.2.2.1 (.ref 0 :: (lw_js q.2.1).map (fun j => Value.int (xs (4 * t + j)))) V (some r) V1) (hr2 : x_Rn 100 q.2.2.2.2.2 (.ref 96 :: (lw_js q.2.1).map (fun j => Value.int (xs (4 * t + j)))) V1 (some r) V2)
    (hI : x_I D cI cZ cO (fun q => s.heap.size ≤ q) s H locs ad (x_S0, V)) (hl : lv_has lsR 4 [(0, .ref b), (1, .ref (ad 0)), (2, .ref (ad 96)), (3, .int (nI (4 * t)))])
    (kk : ∀ (H1 : Heap) (locs1 : List Loc), x_I D cI cZ cO (fun q => s.heap.size ≤ q) s H1 locs1 ad (x_S0, V2) → W p l e room_1 s m #[Value.ref b] below meth c H1 locs1 cells slots Q (F0 m 726 lsR [])) : W p l e room_1 s m #[Value.ref b] below meth c H locs cells slots Q (F0 m q.1 lsR []) := by
  obtain ⟨pc0, na, ix, iX, im, iM⟩ := q
  have hok := List.all_eq_true.mp x_lc_ok _ (List.mem_of_getElem? hq)
  simp only [lw_cs, Bool.and_eq_true, decide_eq_true_eq] at hok
  obtain ⟨⟨⟨⟨⟨⟨⟨⟨⟨⟨⟨c0, c1⟩, c2⟩, c3⟩, c4⟩, c5⟩, c6⟩, c7⟩, c8⟩, c9⟩, c10⟩, c11⟩ := hok
  have hX' := hX
  obtain ⟨hx, hb, hml, hown, hts, hN, hA⟩ := hX'
  obtain ⟨nl1, code1, hm1, n1, hn1⟩ := hr1
  obtain ⟨nl2, code2, hm2, n2, hn2⟩ := hr2
  obtain ⟨q1, hq1, rfl, rfl⟩ := x_mt_at hm1
  obtain ⟨q2, hq2, rfl, rfl⟩ := x_mt_at hm2
  dsimp only at hq1 hq2 hn1 hn2 ⊢
  rw [hq1] at c10
  rw [hq2] at c11
  simp only [Option.any_some, Bool.and_eq_true, beq_iff_eq] at c10 c11
  have hjs : (lw_js na).length = na := by
    unfold lw_js
    rw [List.length_take]
    exact Nat.min_eq_left c7
  have hj4 : ∀ j ∈ lw_js na, j < 4 := by
    intro j hj
    have := List.mem_of_mem_take hj
    simp at this
    omega
  have hmm : ∀ f : Nat → Int32, (lw_js na).map (fun j => Value.int (f j)) = ((lw_js na).map f).map Value.int := fun f => by simp
  rw [hmm (fun j => xs (4 * t + j)), List.length_cons, List.length_map] at hn1 hn2
  have eS : ∀ V V' : xV, x_sl (x_S0, V) - x_sl (x_S0, V') = 0 := fun V V' => Nat.sub_self (x_sl (x_S0, V))
  have eL : ∀ V V' : xV, ((x_S0, V) : xH).1.length - ((x_S0, V') : xH).1.length = 0 := fun V V' => Nat.sub_self x_S0.length
  refine lv_aload_n hx hb c0 rfl (lv_at hl 1 rfl) ?_
  refine lw_args (t := t) hx hb hXs hbl hI.2.2.2 hl hL ht (lw_js na) _ _ c1 hj4 ?_
  rw [hmm (fun j => xs (4 * t + j)), hjs]
  refine law_call (h' := (x_S0, V1)) (i := iX) (q2 := q1) (rf := [some 1, none, some 2, some 5, some 10, some 19, some 71, none, some 72, none, some 73]) hX hI hq1 c8 (by rw [c10.1.2]; rfl) (by rw [c10.1.2]; decide) (by rw [List.length_map, hjs, c10.2]) (Or.inl ⟨c10.1.1, c2⟩) (Nat.le_refl 100) (n := n1) (r := some r) hn1 hl.1 (by decide) ⟨by rw [eL]; exact hc, by rw [eS]; exact hs⟩ (fun H1 locs1 ad' ha hI1 => ?_)
  have e0 := ha.2.2 rfl
  subst e0
  rw [eL, eS, Nat.add_zero, Nat.add_zero]
  rw [show pc0 + 1 + 5 * na + 3 = pc0 + 4 + 5 * na by omega]
  refine lv_aload_n hx hb c3 rfl (lv_at hl 2 rfl) ?_
  rw [show pc0 + 4 + 5 * na + 1 = pc0 + 5 + 5 * na by omega]
  refine lw_args (t := t) hx hb hXs hbl hI1.2.2.2 hl hL ht (lw_js na) _ _ c4 hj4 ?_
  rw [hmm (fun j => xs (4 * t + j)), hjs, show pc0 + 5 + 5 * na + 5 * na = pc0 + 5 + 10 * na by omega]
  refine law_call (h' := (x_S0, V2)) (i := iM) (q2 := q2) (rf := (x_S0.getD 96 (0, 0, [])).2.2) hX hI1 hq2 c9 (by rw [c11.1.2]; rfl) (by rw [c11.1.2]; decide) (by rw [List.length_map, hjs, c11.2]) (Or.inl ⟨c11.1.1, c5⟩) (Nat.le_refl 100) (n := n2) (r := some r) hn2 hl.1 (show (1 : Nat) + 0 ≤ 8 by decide) ⟨by rw [eL]; exact hc, by rw [eS]; exact hs⟩ (fun H2 locs2 ad' ha hI2 => ?_)
  have e0 := ha.2.2 rfl
  subst e0
  rw [eL, eS, Nat.add_zero, Nat.add_zero]
  rw [show pc0 + 5 + 10 * na + 3 = pc0 + 8 + 10 * na by omega]
  exact lv_icmp_eq hx hb c6 (by omega) (fun _ => kk H2 locs2 hI2) (fun z => absurd rfl z)
end LawLoop
end
section
/-- what the pure side owes: the constructors' runs, and each call's -/
def x_Init (Sim : xV → Prop) : Prop := ∃ (n1 n2 : Nat) (h1 : xH) (V0 : xV), x_ex x_nf x_sws x_mt n1 100 kX6_init 0 [.ref 0, .long 0] [] (x_push [] (fun _ _ => 0) (0, 6, List.replicate 11 none)) = some (none, h1) ∧ h1.1.length = 96 ∧ h1.1.all (fun q => q.2.2.all (x_ro h1.1.length)) = true ∧ x_ex x_nf x_sws x_mt n2 100 kX7_init 0 [.ref 96] [] (x_push h1.1 h1.2 (0, 7, List.replicate 34 none)) = some (none, (x_S0, V0)) ∧ Sim V0
def x_Steps (Sim : xV → Prop) : Prop := ∀ (k : Nat) (q : Nat × Nat × Nat × Nat × Nat × Nat), x_lc[k]? = some q → ∀ (f : Nat → Int32) (V : xV), Sim V → ∃ (r : Int32) (V1 V2 : xV), x_Rn 100 q.2.2.2.1 (.ref 0 :: (lw_js q.2.1).map (fun j => Value.int (f j))) V (some r) V1 ∧ x_Rn 100 q.2.2.2.2.2 (.ref 96 :: (lw_js q.2.1).map (fun j => Value.int (f j))) V1 (some r) V2 ∧ Sim V2
section LawLoop2
variable {p : Program} {l : Launch} {e : Env} {s : State} {m : MethodId} {b L : Nat} {xs : Nat → Int32} {below : List Frame} {meth : Method} {c : Code} {D : va_G} {cI cZ cO : ClassId} {ad : Nat → Nat} {cells slots : Nat}
set_option maxHeartbeats 4000000 in
theorem lw_loop {Sim : xV → Prop} (hstep : x_Steps Sim) (hX : x_LX p s m b c (fun q => s.heap.size ≤ q)) (hr : meth.sig.returnType = ret) (hlocks : meth.locks = false) (hXs : va_X b L xs s s.heap) (hbl : b < s.heap.size) (hL : L ≤ 2048) (hc : cells ≤ 600000) (hs : slots ≤ 7302250) : ∀ (n t : Nat) (V : xV) (H : Heap) (locs : List Loc) (lsR : Array Slot), 4 * t < 4 * n + L → L < 4 * (t + n) → 4 * t ≤ L + 3 → Sim V → x_I D cI cZ cO (fun q => s.heap.size ≤ q) s H locs ad (x_S0, V) → lv_has lsR 4 [(0, .ref b), (1, .ref (ad 0)), (2, .ref (ad 96)), (3, .int (nI (4 * t)))] → W p l e room_1 s m #[Value.ref b] below meth c H locs cells slots (lw_Z below #[Value.ref b] s) (F0 m 18 lsR []) := by
  intro n
  induction n with
  | zero => intro t V H locs lsR h1 h2; omega
  | succ n ih =>
    intro t V H locs lsR h1 h2 h3 hV hI hl
    obtain ⟨hx, hb, hml, hown, hts, hN, hA⟩ := id hX
    refine lv_iload_n hx hb d_law_18 rfl (lv_at hl 3 rfl) ?_
    refine lv_aload_n hx hb d_law_19 rfl (lv_at hl 0 rfl) ?_
    refine va_slen hx hb hXs hbl (by simpa using hbl) hI.2.2.2 d_law_20 ?_
    refine lv_iconst hx hb d_law_21 rfl ?_
    refine lv_isub hx hb d_law_22 ?_
    have e4 : (Int32.ofNat L - Int32.ofInt 4).toInt = (L : Int) - 4 := pk_sub_toInt (a := L) (b := 4) (by omega) (by omega)
    have e5 : (nI (4 * t)).toInt = ((4 * t : Nat) : Int) := nI_toInt (by omega)
    refine lv_icmp_gt (tgt := 732) hx hb d_law_23 (by decide) (fun z => ?_) (fun z => ?_)
    · refine lv_iconst (v := 1) hx hb d_law_732 rfl ?_
      refine va_forget (fun q hq => hI.2.2.2.2.2 q hq) ?_
      refine W.widen hc hs ?_
      exact lw_ret hx hb hr hlocks d_law_733
    · have ht : 4 * t + 4 ≤ L := by
        rw [Int32.lt_iff_toInt_lt, e4, e5] at z
        omega
      refine lv_aload_n hx hb d_law_26 rfl (lv_at hl 0 rfl) ?_
      refine lv_iload_n hx hb d_law_27 rfl (lv_at hl 3 rfl) ?_
      refine va_sld hx hb hXs hbl (by simpa using hbl) hI.2.2.2 (vp_in_nI (by omega) (by omega)) d_law_28 ?_
      rw [nI_clamp (by omega)]
      refine lv_bipush (v := 31) hx hb d_law_29 rfl ?_
      refine lv_iand hx hb d_law_31 ?_
      obtain ⟨k, hk, ek⟩ := lw_and31 (xs (4 * t))
      rw [ek]
      have ekI : (nI k).toInt = (k : Int) := nI_toInt (by omega)
      have back : ∀ (V' : xV), Sim V' → ∀ (H1 : Heap) (locs1 : List Loc), x_I D cI cZ cO (fun q => s.heap.size ≤ q) s H1 locs1 ad (x_S0, V') → W p l e room_1 s m #[Value.ref b] below meth c H1 locs1 cells slots (lw_Z below #[Value.ref b] s) (F0 m 726 lsR []) := by
        intro V' hV' H1 locs1 hI1
        refine lv_iinc (v := nI (4 * (t + 1))) (lv' := [(3, .int (nI (4 * (t + 1)))), (0, .ref b), (1, .ref (ad 0)), (2, .ref (ad 96))]) hx hb d_law_726 hl (k := 3) rfl (by rw [show Int32.ofInt 4 = nI 4 from rfl, nI_add]; rfl) (by decide) rfl (fun ls hl => ?_)
        refine lv_goto (tgt := 18) hx hb d_law_729 (by decide) ?_
        exact ih (t + 1) V' H1 locs1 ls (by omega) (by omega) (by omega) hV' hI1 (lv_sub hl [1, 2, 3, 0] rfl)
      by_cases hk2 : k < 24
      · obtain ⟨q, hq, hoff⟩ := lw_offs_ok k hk2
        obtain ⟨r, V1, V2, g1, g2, g3⟩ := hstep k q hq (fun j => xs (4 * t + j)) V hV
        refine lv_tableIn (off := (q.1 : Int) - 32) (tgt := q.1) hx hb d_law_32 (by rw [ekI]; omega) (by rw [ekI]; omega) (by rw [ekI]; simpa using hoff) (by omega) ?_
        exact lw_case hX hXs hbl hL ht hq hc hs g1 g2 hI hl (fun H1 locs1 hI1 => back V2 g3 H1 locs1 hI1)
      · refine lv_tableOut (tgt := 726) hx hb d_law_32 (Or.inr (by rw [ekI]; omega)) (by decide) ?_
        exact back V hV H locs hI
end LawLoop2
end
section
section WholeOf
variable {p : Program} {e : Env} {s : State} {m : MethodId} {below : List Frame} {meth : Method} {c : Code}
theorem x_S0_len : x_S0.length = 112 := by decide +kernel
theorem x_S0_sl (V : xV) : x_sl (x_S0, V) ≤ 3000 := by
  have h : (x_S0.map x_slots).sum ≤ 3000 := by decide +kernel
  exact h
theorem x_K_start {args : Array Value} (htb : ∀ w ∈ x_tb, w.before args s = true) (hao : va_AO RX4 s) : ∃ (D : va_G) (cI cZ cO : ClassId), va_K D x_cl [(cI, .int), (cZ, .boolean), (cO, .object RX4)] s := by
  have h1 : ∀ ci, ∃ q : ClassId × (Nat → Nat), ci < 8 → u_Kn s (x_C ci).1 (x_C ci).2.1 (x_C ci).2.2 q.1 q.2 := by
    intro ci
    by_cases h8 : ci < 8
    · have hn := List.all_eq_true.mp x_new_ok ci (List.mem_range.mpr h8)
      simp only [Bool.and_eq_true, decide_eq_true_eq] at hn
      obtain ⟨cC, iS, h⟩ := u_known (C := (x_C ci).1) (T := (x_C ci).2.1) (N := (x_C ci).2.2) htb (x_in_ok ci h8) (htb _ (x_ok1_in hn.1.1))
      exact ⟨(cC, iS), fun _ => h⟩
    · exact ⟨(0, fun _ => 0), fun z => absurd z h8⟩
  obtain ⟨f, hf⟩ := Classical.axiomOfChoice h1
  have hA : ∀ ty, (Cond.arrayClass ty).before args s = true → (∀ C, ty ≠ .object C) → ∃ cA, ArrOfT s cA ty ∧ va_RA s cA ty := by
    intro ty h hno
    obtain ⟨cA, kA, comp, hfind, hk, hkind⟩ := Cond.arrayClass_spec h
    refine ⟨cA, fun n z => ⟨fun k h => (by cases h), kA, hk, comp, hkind⟩, ?_⟩
    cases ty with
    | object C => exact absurd rfl (hno C)
    | _ => exact hfind
  obtain ⟨cI, i1, i2⟩ := hA .int (htb _ (x_ok1_in x_arr_ok.1)) (fun C q => by cases q)
  obtain ⟨cZ, z1, z2⟩ := hA .boolean (htb _ (x_ok1_in x_arr_ok.2)) (fun C q => by cases q)
  obtain ⟨comp, cO, kO, o1, -, o2, o3, o4⟩ := Cond.arrayOver_spec hao
  refine ⟨(fun ci => (f ci).1, fun ci => (f ci).2), cI, cZ, cO, fun ci q hq => ?_, fun k q hq => ?_⟩
  · have h8 : ci < 8 := (List.getElem?_eq_some_iff.mp hq).1
    rw [x_cl_at ci h8] at hq
    cases hq
    exact hf ci h8
  · match k, hq with
    | 0, hq => cases hq; exact ⟨i1, i2⟩
    | 1, hq => cases hq; exact ⟨z1, z2⟩
    | 2, hq =>
      cases hq
      exact ⟨fun n z => ⟨fun k h => (by cases h), kO, o2, comp, o3⟩, kO, comp, o2, o3, o1, o4⟩
    | k + 3, hq => simp at hq
set_option maxHeartbeats 4000000 in
set_option maxRecDepth 100000 in
theorem whole_of {Sim : xV → Prop} (hinit : x_Init Sim) (hstep : x_Steps Sim) (l : Launch) {b L : Nat} {xs : Nat → Int32} (hL : L ≤ 2048) (C0 : lw_At p s m meth c b L xs) : W p l e room_1 s m #[Value.ref b] below meth c s.heap [] 0 0 (lw_Z below #[Value.ref b] s) (entryFrame m ([Value.ref b] : List Value).toArray 4) := by
  obtain ⟨hx, hb, hr, hml, hown, hts, hXs, hbl, hlocks, hgv⟩ := C0
  obtain ⟨n1, n2, h1, V0, hi1, hi2, hi3, hi4, hSim⟩ := hinit
  have htb : ∀ w ∈ x_tb, w.before #[Value.ref b] s = true := fun w hw => hts w (List.mem_filter.mp hw).1
  have hN : x_Nst s := by
    refine ⟨va_AO.of (hts _ (List.mem_of_getElem? x_nest_ok.2.2)), fun q hq => ?_⟩
    simp only [x_NL, List.mem_cons, List.not_mem_nil, or_false] at hq
    rcases hq with rfl | rfl
    · exact va_Nw.of rfl (hts _ (List.mem_of_getElem? x_nest_ok.1))
    · exact va_Nw.of rfl (hts _ (List.mem_of_getElem? x_nest_ok.2.1))
  have hX : x_LX p s m b c (fun q => s.heap.size ≤ q) := ⟨hx, hb, hml, hown, htb, hN, fun _ h => h⟩
  obtain ⟨D, cI, cZ, cO, hK⟩ := x_K_start htb hN.1
  have hI0 : x_I D cI cZ cO (fun q => s.heap.size ≤ q) s s.heap [] (fun _ => 0) ([], fun _ _ => 0) := ⟨hK, fun k q h => by simp [x_W] at h, ⟨fun i j p q h => by simp [x_W] at h, fun k q h => by simp [x_W] at h⟩, va_S.rf⟩
  have m1 := x_ex_mono _ _ _ _ _ _ _ _ _ hi1
  have m2 := x_ex_mono _ _ _ _ _ _ _ _ _ hi4
  have s1 : x_sl (x_push [] (fun _ _ => 0) (0, 6, List.replicate 11 none)) = 11 := rfl
  have s2 : x_sl (x_push h1.1 h1.2 (0, 7, List.replicate 34 none)) = x_sl h1 + 34 := by rw [x_sl_push]; rfl
  have s3 := x_S0_sl V0
  have l1 : (x_push [] (fun _ _ => 0) (0, 6, List.replicate 11 none)).1.length = 1 := rfl
  have l2 : (x_push h1.1 h1.2 (0, 7, List.replicate 34 none)).1.length = 97 := by simp [x_push, hi2]
  have l3 : ((x_S0, V0) : xH).1.length = 112 := x_S0_len
  rw [s1] at m1
  rw [s2] at m2
  have hl := lv_entry ([.ref b]) (n := 4) (Nat.le_of_ble_eq_true rfl)
  rw [lg_entry_eq]
  generalize (lg_sl ([.ref b]) ++ List.replicate (4 - (lg_sl ([.ref b])).length) Slot.unset).toArray = ls at hl ⊢
  have hl : lv_has ls 4 [(0, .ref b)] := hl
  refine law_new (a := 6) hX hI0 (by decide) (by decide) (by decide) rfl (x_ok1_in x_LK_ok.1) d_law_0 (fun z H1 hI1 => ?_)
  obtain ⟨ad1, had1⟩ : ∃ ad1, ad1 = x_adp (fun _ => 0) (([], fun _ _ => 0) : xH).1.length z := ⟨_, rfl⟩
  rw [← had1] at hI1
  have hz : ad1 0 = z := by rw [had1]; rfl
  clear had1
  subst hz
  refine lv_dup hx hb d_law_3 rfl ?_
  refine law_call (i := 66) (q2 := nX6_init) (idx := 9) (x := 0) (as2 := []) (n := n1) (rf := List.replicate 11 none) (h' := h1) hX hI1 rfl (by decide) rfl (by decide) rfl (Or.inr ⟨rfl, d_law_4⟩) (Nat.le_refl 100) (r := none) hi1 hl.1 (show (1 : Nat) + 0 ≤ 8 by decide) ⟨by rw [hi2]; decide, by show 0 + 11 + (x_sl h1 - 11) ≤ _; omega⟩ (fun H2 locs2 ad2 ha2 hI2 => ?_)
  have e2 : ad2 0 = ad1 0 := ha2.2.1 0 (by decide)
  rw [← e2]
  refine lv_astore_n (lv' := [(1, .ref (ad2 0)), (0, .ref b)]) hx hb d_law_7 rfl hl (by decide) rfl (fun ls hl => ?_)
  refine law_new (a := 7) hX hI2 (by decide) (by rw [hi2]; decide) (by show 0 + 11 + (x_sl h1 - 11) + 34 ≤ _; omega) hi3 (x_ok1_in x_LK_ok.2) d_law_8 (fun z H3 hI3 => ?_)
  obtain ⟨ad3, had3⟩ : ∃ ad3, ad3 = x_adp ad2 h1.1.length z := ⟨_, rfl⟩
  rw [← had3] at hI3
  have hz : ad3 96 = z := by rw [had3, hi2]; rfl
  have hz0 : ad3 0 = ad2 0 := by rw [had3, hi2]; rfl
  clear had3
  subst hz
  rw [← hz0] at hl
  refine lv_dup hx hb d_law_11 rfl ?_
  refine law_call (i := 96) (q2 := nX7_init) (idx := 12) (x := 96) (as2 := []) (n := n2) (rf := List.replicate 34 none) (h' := (x_S0, V0)) hX hI3 rfl (by decide) (by show (h1.1 ++ [_])[96]? = _; rw [← hi2, List.getElem?_append_right (Nat.le_refl _), Nat.sub_self]; rfl) (by decide) rfl (Or.inr ⟨rfl, d_law_12⟩) (Nat.le_refl 100) (r := none) hi4 hl.1 (show (1 : Nat) + 0 ≤ 8 by decide) ⟨by rw [hi2, l3]; show 0 + 1 + (96 - 1) + 1 + (112 - _) ≤ _; omega, by show 0 + 11 + (x_sl h1 - 11) + 34 + (x_sl (x_S0, V0) - x_sl (x_push h1.1 h1.2 (0, 7, List.replicate 34 none))) ≤ _; omega⟩ (fun H4 locs4 ad4 ha4 hI4 => ?_)
  have e4 : ad4 96 = ad3 96 := ha4.2.1 96 (by show 96 < (x_push h1.1 h1.2 (0, 7, List.replicate 34 none)).1.length; omega)
  have e40 : ad4 0 = ad3 0 := ha4.2.1 0 (by show 0 < (x_push h1.1 h1.2 (0, 7, List.replicate 34 none)).1.length; omega)
  rw [← e4]
  rw [← e40] at hl
  refine lv_astore_n (lv' := [(2, .ref (ad4 96)), (1, .ref (ad4 0)), (0, .ref b)]) hx hb d_law_15 rfl hl (by decide) rfl (fun ls hl => ?_)
  refine lv_iconst (v := 0) hx hb d_law_16 rfl ?_
  refine lv_istore_n (lv' := [(3, .int 0), (2, .ref (ad4 96)), (1, .ref (ad4 0)), (0, .ref b)]) hx hb d_law_17 rfl hl (by decide) rfl (fun ls hl => ?_)
  refine lw_loop hstep hX hr hlocks hXs hbl hL ?_ ?_ (L + 1) 0 V0 H4 locs4 ls (by omega) (by omega) (by omega) hSim hI4 (lv_sub hl [3, 2, 1, 0] rfl)
  · rw [hi2, l3]; show 0 + 1 + (96 - 1) + 1 + (112 - _) ≤ _; omega
  · show 0 + 11 + (x_sl h1 - 11) + 34 + (x_sl (x_S0, V0) - x_sl (x_push h1.1 h1.2 (0, 7, List.replicate 34 none))) ≤ _
    omega
end WholeOf
end
section
/-! the constructors, run by the kernel -/
def x_V0 : List (Nat × List (Nat × Int32)) := [(0, [(1, 0), (7, 0), (9, 0)]), (1, [(0, 0), (1, 0), (2, 0), (3, 0), (4, 0), (5, 0), (6, 0), (7, 0), (8, 0), (9, 0), (10, 0), (11, 0), (12, 0), (13, 0), (14, 0), (15, 0), (16, 0), (17, 0), (18, 0), (19, 0), (20, 0), (21, 0), (22, 0), (23, 0), (24, 0), (25, 0), (26, 0), (27, 0), (28, 0), (29, 0), (30, 0), (31, 0), (32, 0), (33, 0), (34, 0), (35, 0), (36, 0), (37, 0), (38, 0), (39, 0), (40, 0), (41, 0), (42, 0), (43, 0), (44, 0), (45, 0), (46, 0), (47, 0), (48, 0), (49, 0), (50, 0), (51, 0), (52, 0), (53, 0), (54, 0), (55, 0), (56, 0), (57, 0), (58, 0), (59, 0), (60, 0), (61, 0), (62, 0), (63, 0), (64, 0), (65, 0), (66, 0), (67, 0), (68, 0), (69, 0), (70, 0), (71, 0), (72, 0), (73, 0), (74, 0), (75, 0), (76, 0), (77, 0), (78, 0), (79, 0), (80, 0), (81, 0), (82, 0), (83, 0), (84, 0), (85, 0), (86, 0), (87, 0), (88, 0), (89, 0), (90, 0), (91, 0), (92, 0), (93, 0), (94, 0), (95, 0), (96, 0), (97, 0), (98, 0), (99, 0)]), (2, [(0, 0), (1, 4), (2, 2)]), (3, [(0, 0), (1, 0), (2, 0), (3, 0), (4, 0), (5, 0)]), (4, [(0, 5), (1, 5), (2, 5), (3, 5)]), (5, [(4, 15)]), (6, [(0, -9), (1, -9), (2, -9), (3, -9), (4, -9), (5, -9), (6, -9), (7, -9)]), (7, [(0, -9), (1, -9), (2, -9), (3, -9), (4, -9), (5, -9)]), (8, [(0, -9), (1, -9), (2, -9), (3, -9), (4, -9), (5, -9)]), (9, [(0, 0), (1, 0), (2, 0), (3, 0), (4, 0), (5, 0)]), (10, [(3, 0), (4, 0), (5, 0), (6, 0), (7, 0), (8, 0), (9, 0)]), (11, [(0, 0), (1, 4), (2, 2)]), (12, [(0, 0), (1, 0), (2, 0), (3, 0), (4, 0), (5, 0)]), (13, [(0, 5), (1, 5), (2, 5), (3, 5)]), (14, [(4, 15)]), (15, [(0, -9), (1, -9), (2, -9), (3, -9), (4, -9), (5, -9), (6, -9), (7, -9)]), (16, [(0, -9), (1, -9), (2, -9), (3, -9), (4, -9), (5, -9)]), (17, [(0, -9), (1, -9), (2, -9), (3, -9), (4, -9), (5, -9)]), (18, [(0, 0), (1, 0), (2, 0), (3, 0), (4, 0), (5, 0)]), (19, [(1, 0), (2, 0)]), (21, [(4, 15)]), (22, [(0, -9), (1, -9), (2, -9), (3, -9), (4, -9), (5, -9), (6, -9), (7, -9)]), (23, [(0, -9), (1, -9), (2, -9), (3, -9), (4, -9), (5, -9)]), (24, [(0, -9), (1, -9), (2, -9), (3, -9), (4, -9), (5, -9)]), (25, [(0, 0), (1, 0), (2, 0), (3, 0), (4, 0), (5, 0)]), (26, [(4, 15)]), (27, [(0, -9), (1, -9), (2, -9), (3, -9), (4, -9), (5, -9), (6, -9), (7, -9)]), (28, [(0, -9), (1, -9), (2, -9), (3, -9), (4, -9), (5, -9)]), (29, [(0, -9), (1, -9), (2, -9), (3, -9), (4, -9), (5, -9)]), (30, [(0, 0), (1, 0), (2, 0), (3, 0), (4, 0), (5, 0)]), (31, [(4, 15)]), (32, [(0, -9), (1, -9), (2, -9), (3, -9), (4, -9), (5, -9), (6, -9), (7, -9)]), (33, [(0, -9), (1, -9), (2, -9), (3, -9), (4, -9), (5, -9)]), (34, [(0, -9), (1, -9), (2, -9), (3, -9), (4, -9), (5, -9)]), (35, [(0, 0), (1, 0), (2, 0), (3, 0), (4, 0), (5, 0)]), (36, [(4, 15)]), (37, [(0, -9), (1, -9), (2, -9), (3, -9), (4, -9), (5, -9), (6, -9), (7, -9)]), (38, [(0, -9), (1, -9), (2, -9), (3, -9), (4, -9), (5, -9)]), (39, [(0, -9), (1, -9), (2, -9), (3, -9), (4, -9), (5, -9)]), (40, [(0, 0), (1, 0), (2, 0), (3, 0), (4, 0), (5, 0)]), (41, [(4, 15)]), (42, [(0, -9), (1, -9), (2, -9), (3, -9), (4, -9), (5, -9), (6, -9), (7, -9)]), (43, [(0, -9), (1, -9), (2, -9), (3, -9), (4, -9), (5, -9)]), (44, [(0, -9), (1, -9), (2, -9), (3, -9), (4, -9), (5, -9)]), (45, [(0, 0), (1, 0), (2, 0), (3, 0), (4, 0), (5, 0)]), (46, [(4, 15)]), (47, [(0, -9), (1, -9), (2, -9), (3, -9), (4, -9), (5, -9), (6, -9), (7, -9)]), (48, [(0, -9), (1, -9), (2, -9), (3, -9), (4, -9), (5, -9)]), (49, [(0, -9), (1, -9), (2, -9), (3, -9), (4, -9), (5, -9)]), (50, [(0, 0), (1, 0), (2, 0), (3, 0), (4, 0), (5, 0)]), (51, [(4, 15)]), (52, [(0, -9), (1, -9), (2, -9), (3, -9), (4, -9), (5, -9), (6, -9), (7, -9)]), (53, [(0, -9), (1, -9), (2, -9), (3, -9), (4, -9), (5, -9)]), (54, [(0, -9), (1, -9), (2, -9), (3, -9), (4, -9), (5, -9)]), (55, [(0, 0), (1, 0), (2, 0), (3, 0), (4, 0), (5, 0)]), (56, [(4, 15)]), (57, [(0, -9), (1, -9), (2, -9), (3, -9), (4, -9), (5, -9), (6, -9), (7, -9)]), (58, [(0, -9), (1, -9), (2, -9), (3, -9), (4, -9), (5, -9)]), (59, [(0, -9), (1, -9), (2, -9), (3, -9), (4, -9), (5, -9)]), (60, [(0, 0), (1, 0), (2, 0), (3, 0), (4, 0), (5, 0)]), (61, [(4, 15)]), (62, [(0, -9), (1, -9), (2, -9), (3, -9), (4, -9), (5, -9), (6, -9), (7, -9)]), (63, [(0, -9), (1, -9), (2, -9), (3, -9), (4, -9), (5, -9)]), (64, [(0, -9), (1, -9), (2, -9), (3, -9), (4, -9), (5, -9)]), (65, [(0, 0), (1, 0), (2, 0), (3, 0), (4, 0), (5, 0)]), (66, [(4, 15)]), (67, [(0, -9), (1, -9), (2, -9), (3, -9), (4, -9), (5, -9), (6, -9), (7, -9)]), (68, [(0, -9), (1, -9), (2, -9), (3, -9), (4, -9), (5, -9)]), (69, [(0, -9), (1, -9), (2, -9), (3, -9), (4, -9), (5, -9)]), (70, [(0, 0), (1, 0), (2, 0), (3, 0), (4, 0), (5, 0)]), (72, [(0, 0), (1, 0), (2, 0), (3, 0)]), (73, [(5, -5), (6, 0)]), (74, [(0, 0), (1, 0), (2, 0), (3, 0), (4, 0), (5, 0), (6, 0), (7, 0)]), (75, [(0, 0), (1, 0), (2, 0), (3, 0), (4, 0), (5, 0)]), (76, [(11, 0), (12, 0), (13, 0), (14, 0), (15, 0), (16, 0)]), (77, [(0, 0), (1, 0), (2, 0), (3, 0), (4, 0), (5, 0), (6, 0), (7, 0)]), (78, [(0, 0), (1, 0), (2, 0), (3, 0), (4, 0), (5, 0), (6, 0), (7, 0)]), (79, [(0, 0), (1, 0), (2, 0), (3, 0), (4, 0), (5, 0)]), (80, [(0, 0), (1, 0), (2, 0), (3, 0), (4, 0), (5, 0)]), (81, [(0, 0), (1, 0), (2, 0), (3, 0), (4, 0), (5, 0)]), (82, [(0, 0), (1, 0), (2, 0), (3, 0), (4, 0), (5, 0), (6, 0), (7, 0)]), (83, [(0, 0), (1, 0), (2, 0), (3, 0), (4, 0), (5, 0), (6, 0), (7, 0)]), (84, [(0, 0), (1, 0), (2, 0), (3, 0), (4, 0), (5, 0), (6, 0), (7, 0), (8, 0), (9, 0)]), (85, [(0, 0), (1, 0), (2, 0), (3, 0), (4, 0), (5, 0), (6, 0), (7, 0)]), (86, [(4, 15)]), (87, [(0, -9), (1, -9), (2, -9), (3, -9), (4, -9), (5, -9), (6, -9), (7, -9)]), (88, [(0, -9), (1, -9), (2, -9), (3, -9), (4, -9), (5, -9)]), (89, [(0, -9), (1, -9), (2, -9), (3, -9), (4, -9), (5, -9)]), (90, [(0, 0), (1, 0), (2, 0), (3, 0), (4, 0), (5, 0)]), (91, [(4, 15)]), (92, [(0, -9), (1, -9), (2, -9), (3, -9), (4, -9), (5, -9), (6, -9), (7, -9)]), (93, [(0, -9), (1, -9), (2, -9), (3, -9), (4, -9), (5, -9)]), (94, [(0, -9), (1, -9), (2, -9), (3, -9), (4, -9), (5, -9)]), (95, [(0, 0), (1, 0), (2, 0), (3, 0), (4, 0), (5, 0)]), (96, [(0, 0), (2, 0), (3, 0), (4, 0), (5, 0), (6, 0), (7, 0), (8, 0), (9, 4), (10, 2), (13, 0), (14, 4), (15, 2), (16, 0), (17, 0), (23, 0), (27, 0), (32, 0), (33, 0)]), (97, [(0, 0), (1, 0), (2, 0), (3, 0), (4, 0), (5, 0), (6, 0), (7, 0), (8, 0), (9, 0), (10, 0), (11, 0), (12, 0), (13, 0), (14, 0), (15, 0), (16, 0), (17, 0), (18, 0), (19, 0), (20, 0), (21, 0), (22, 0), (23, 0), (24, 0), (25, 0), (26, 0), (27, 0), (28, 0), (29, 0), (30, 0), (31, 0), (32, 0), (33, 0), (34, 0), (35, 0), (36, 0), (37, 0), (38, 0), (39, 0), (40, 0), (41, 0), (42, 0), (43, 0), (44, 0), (45, 0), (46, 0), (47, 0), (48, 0), (49, 0), (50, 0), (51, 0), (52, 0), (53, 0), (54, 0), (55, 0), (56, 0), (57, 0), (58, 0), (59, 0), (60, 0), (61, 0), (62, 0), (63, 0), (64, 0), (65, 0), (66, 0), (67, 0), (68, 0), (69, 0), (70, 0), (71, 0), (72, 0), (73, 0), (74, 0), (75, 0), (76, 0), (77, 0), (78, 0), (79, 0), (80, 0), (81, 0), (82, 0), (83, 0), (84, 0), (85, 0), (86, 0), (87, 0), (88, 0), (89, 0), (90, 0), (91, 0), (92, 0), (93, 0), (94, 0), (95, 0), (96, 0), (97, 0), (98, 0), (99, 0)]), (98, [(0, 5), (1, 5), (2, 5), (3, 5)]), (99, [(0, 0), (1, 0), (2, 0), (3, 0), (4, 0), (5, 0)]), (100, [(0, 5), (1, 5), (2, 5), (3, 5)]), (101, [(0, 0), (1, 0), (2, 0), (3, 0), (4, 0), (5, 0)]), (102, [(0, -9), (1, -9), (2, -9), (3, -9), (4, -9), (5, -9), (6, -9), (7, -9), (8, -9), (9, -9), (10, -9), (11, -9), (12, -9), (13, -9), (14, -9), (15, -9), (16, -9), (17, -9), (18, -9), (19, -9), (20, 0), (21, 0), (22, 0), (23, 0), (24, 0), (25, 0), (26, 15)]), (103, [(0, -9), (1, -9), (2, -9), (3, -9), (4, -9), (5, -9), (6, -9), (7, -9), (8, -9), (9, -9), (10, -9), (11, -9), (12, -9), (13, -9), (14, -9), (15, -9), (16, -9), (17, -9), (18, -9), (19, -9), (20, 0), (21, 0), (22, 0), (23, 0), (24, 0), (25, 0), (26, 15)]), (104, [(0, 0), (1, 0), (2, 0), (3, 0), (4, 0), (5, 0), (6, 0), (7, 0), (8, 0), (9, 0), (10, 0), (11, 0), (12, 0), (13, 0), (14, 0), (15, 0), (16, 0), (17, 0), (18, 0), (19, 0), (20, 0), (21, 0), (22, 0), (23, 0), (24, 0), (25, 0), (26, 0), (27, 0), (28, 0), (29, 0), (30, 0), (31, 0), (32, 0), (33, 0), (34, 0), (35, 0), (36, 0), (37, 0), (38, 0), (39, 0), (40, 0), (41, 0), (42, 0), (43, 0), (44, 0), (45, 0), (46, 0), (47, 0), (48, 0), (49, 0), (50, 0), (51, 0), (52, 0), (53, 0), (54, 0), (55, 0), (56, 0), (57, 0), (58, 0), (59, 0), (60, 0), (61, 0), (62, 0), (63, 0), (64, 0), (65, 0), (66, 0), (67, 0), (68, 0), (69, 0), (70, 0), (71, 0), (72, 0), (73, 0), (74, 0), (75, 0), (76, 0), (77, 0), (78, 0), (79, 0), (80, 0), (81, 0), (82, 0), (83, 0), (84, 0), (85, 0), (86, 0), (87, 0), (88, 0), (89, 0), (90, 0), (91, 0), (92, 0), (93, 0), (94, 0), (95, 0), (96, 0), (97, 0), (98, 0), (99, 0), (100, 0), (101, 0), (102, 0), (103, 0), (104, 0), (105, 0), (106, 0), (107, 0), (108, 0), (109, 0), (110, 0), (111, 0), (112, 0), (113, 0), (114, 0), (115, 0), (116, 0), (117, 0), (118, 0), (119, 0), (120, 0), (121, 0), (122, 0), (123, 0), (124, 0), (125, 0), (126, 0), (127, 0), (128, 0), (129, 0), (130, 0), (131, 0), (132, 0), (133, 0), (134, 0), (135, 0), (136, 0), (137, 0), (138, 0), (139, 0), (140, 0), (141, 0), (142, 0), (143, 0), (144, 0), (145, 0), (146, 0), (147, 0), (148, 0), (149, 0), (150, 0), (151, 0), (152, 0), (153, 0), (154, 0), (155, 0), (156, 0), (157, 0), (158, 0), (159, 0), (160, 0), (161, 0), (162, 0), (163, 0), (164, 0), (165, 0), (166, 0), (167, 0), (168, 0), (169, 0), (170, 0), (171, 0), (172, 0), (173, 0), (174, 0), (175, 0), (176, 0), (177, 0), (178, 0), (179, 0), (180, 0), (181, 0), (182, 0), (183, 0), (184, 0), (185, 0), (186, 0), (187, 0), (188, 0), (189, 0), (190, 0), (191, 0), (192, 0), (193, 0), (194, 0), (195, 0), (196, 0), (197, 0), (198, 0), (199, 0), (200, 0), (201, 0), (202, 0), (203, 0), (204, 0), (205, 0), (206, 0), (207, 0), (208, 0), (209, 0), (210, 0), (211, 0), (212, 0), (213, 0), (214, 0), (215, 0), (216, 0), (217, 0), (218, 0), (219, 0), (220, 0), (221, 0), (222, 0), (223, 0), (224, 0), (225, 0), (226, 0), (227, 0), (228, 0), (229, 0), (230, 0), (231, 0), (232, 0), (233, 0), (234, 0), (235, 0), (236, 0), (237, 0), (238, 0), (239, 0), (240, 0), (241, 0), (242, 0), (243, 0), (244, 0), (245, 0), (246, 0), (247, 0), (248, 0), (249, 0), (250, 0), (251, 0), (252, 0), (253, 0), (254, 0), (255, 0), (256, 0), (257, 0), (258, 0), (259, 0), (260, 0), (261, 0), (262, 0), (263, 0), (264, 0), (265, 0), (266, 0), (267, 0), (268, 0), (269, 0)]), (105, [(0, 0), (1, 0), (2, 0), (3, 0), (4, 0), (5, 0), (6, 0), (7, 0), (8, 0), (9, 0), (10, 0), (11, 0), (12, 0), (13, 0), (14, 0), (15, 0), (16, 0), (17, 0), (18, 0), (19, 0), (20, 0), (21, 0), (22, 0), (23, 0), (24, 0), (25, 0), (26, 0), (27, 0), (28, 0), (29, 0), (30, 0), (31, 0), (32, 0), (33, 0), (34, 0), (35, 0), (36, 0), (37, 0), (38, 0), (39, 0), (40, 0), (41, 0), (42, 0), (43, 0), (44, 0), (45, 0), (46, 0), (47, 0), (48, 0), (49, 0), (50, 0), (51, 0), (52, 0), (53, 0)]), (106, [(0, 0), (1, 0)]), (107, [(0, 0), (1, 0), (2, 0), (3, 0)]), (108, [(0, 0), (1, 0), (2, 0), (3, 0), (4, 0), (5, 0), (6, 0), (7, 0)]), (109, [(0, 0), (1, 0), (2, 0), (3, 0), (4, 0), (5, 0), (6, 0), (7, 0), (8, 0)]), (110, [(0, 0), (1, 0), (2, 0), (3, 0), (4, 0), (5, 0)]), (111, [(0, 0), (1, 0), (2, 0), (3, 0), (4, 0), (5, 0), (6, 0), (7, 0)])]
def x_ini1 : Option (Option Int32 × xH) := x_ex x_nf x_sws x_mt 8000 100 kX6_init 0 [.ref 0, .long 0] [] (x_push [] (fun _ _ => 0) (0, 6, List.replicate 11 none))
def x_ini2 (h1 : xH) : Option (Option Int32 × xH) := x_ex x_nf x_sws x_mt 8000 100 kX7_init 0 [.ref 96] [] (x_push h1.1 h1.2 (0, 7, List.replicate 34 none))
def x_iniC : Bool := match x_ini1 with
  | some (none, h1) => decide (h1.1.length = 96) && h1.1.all (fun q => q.2.2.all (x_ro h1.1.length)) && (match x_ini2 h1 with
    | some (none, h2) => decide (h2.1 = x_S0) && x_V0.all (fun q => q.2.all (fun z => decide (h2.2 q.1 z.1 = z.2)))
    | _ => false)
  | _ => false
set_option maxRecDepth 1000000 in
theorem x_iniC_ok : x_iniC = true := by decide +kernel
end
section
/-! pure runs, row by row -/
theorem x_ex_up : ∀ (n d d2 : Nat) (code : List xE) (pc : Nat) (ls st : List Value) (h : xH) (a : Option Int32 × xH), d ≤ d2 → x_ex x_nf x_sws x_mt n d code pc ls st h = some a → ∀ n2, n ≤ n2 → x_ex x_nf x_sws x_mt n2 d2 code pc ls st h = some a := by
  intro n
  induction n with
  | zero => intro d d2 code pc ls st h a _ hs; cases hs
  | succ n ih =>
    intro d d2 code pc ls st h a hd hs n2 hn
    obtain ⟨n2, rfl⟩ : ∃ k, n2 = k + 1 := ⟨n2 - 1, by omega⟩
    have hn : n ≤ n2 := by omega
    simp only [x_ex] at hs ⊢
    split at hs
    · cases hs
    · rename_i en hat
      split at hs
      · cases hs
      · rename_i hst
        exact ih _ _ _ _ _ _ _ _ hd hs n2 hn
      · exact hs
      · rename_i hst
        split at hs
        · rename_i d' nl code' hmt
          obtain ⟨d2, rfl⟩ : ∃ k, d2 = k + 1 := ⟨d2 - 1, by omega⟩
          have hd' : d' ≤ d2 := by omega
          split at hs
          · cases hs
          · rename_i r1 h1 hrun
            have e1 := ih _ _ _ _ _ _ _ _ hd' hrun n2 hn
            simp only [hmt, e1]
            split at hs
            · rename_i hok
              rw [if_pos hok]
              exact ih _ _ _ _ _ _ _ _ hd hs n2 hn
            · cases hs
        · cases hs
theorem x_Ex.up {d d2 : Nat} {code : List xE} {pc : Nat} {ls st : List Value} {V V' : xV} {r : Option Int32} (h : x_Ex d code pc ls st V r V') (hd : d ≤ d2) : x_Ex d2 code pc ls st V r V' := by
  obtain ⟨n, hn⟩ := h
  exact ⟨n, x_ex_up n d d2 _ _ _ _ _ _ hd hn n (Nat.le_refl _)⟩
theorem x_Rn.up {d d2 i : Nat} {as : List Value} {V V' : xV} {r : Option Int32} (h : x_Rn d i as V r V') (hd : d ≤ d2) : x_Rn d2 i as V r V' := by
  obtain ⟨nl, code, h1, h2⟩ := h
  exact ⟨nl, code, h1, h2.up hd⟩
/-- m steps that are neither calls nor returns -/
def x_go (code : List xE) : Nat → Nat → List Value → List Value → xH → Option xC
  | 0, pc, ls, st, h => some (pc, ls, st, h)
  | m + 1, pc, ls, st, h => match x_at code pc with
    | none => none
    | some e => match x_step x_nf x_sws e ls st h with
      | some (.inl (pc', ls', st', h')) => x_go code m pc' ls' st' h'
      | _ => none
theorem x_go_ex {d n : Nat} {code : List xE} {a : Option Int32 × xH} : ∀ (m : Nat) {pc : Nat} {ls st : List Value} {h : xH} {pc' : Nat} {ls' st' : List Value} {h' : xH}, x_go code m pc ls st h = some (pc', ls', st', h') → x_ex x_nf x_sws x_mt n d code pc' ls' st' h' = some a → x_ex x_nf x_sws x_mt (n + m) d code pc ls st h = some a := by
  intro m
  induction m with
  | zero =>
    intro pc ls st h pc' ls' st' h' hg k
    cases hg
    exact k
  | succ m ih =>
    intro pc ls st h pc' ls' st' h' hg k
    unfold x_go at hg
    split at hg
    · cases hg
    · rename_i e hat
      split at hg
      · rename_i pc1 ls1 st1 h1 hst
        show x_ex x_nf x_sws x_mt (n + m + 1) d code pc ls st h = some a
        simp only [x_ex, hat, hst]
        exact ih hg k
      · cases hg
section Q
variable {d : Nat} {code : List xE} {pc pc' : Nat} {ls st ls' st' : List Value} {V V' V2 : xV} {r : Option Int32}
theorem q_step {e : xE} (ha : x_at code pc = some e) (hs : x_step x_nf x_sws e ls st (x_S0, V) = some (.inl (pc', ls', st', (x_S0, V')))) (k : x_Ex d code pc' ls' st' V' r V2) : x_Ex d code pc ls st V r V2 := by
  obtain ⟨n, hn⟩ := k
  exact ⟨n + 1, by simp only [x_ex, ha, hs]; exact hn⟩
theorem q_ret {e : xE} (ha : x_at code pc = some e) (hs : x_step x_nf x_sws e ls st (x_S0, V) = some (.inr (.inl r))) : x_Ex d code pc ls st V r V := ⟨1, by simp only [x_ex, ha, hs]⟩
theorem q_call {e : xE} {i : Nat} {as : List Value} {r1 : Option Int32} {V1 : xV} (ha : x_at code pc = some e) (hs : x_step x_nf x_sws e ls st (x_S0, V) = some (.inr (.inr (i, as, pc', ls', st')))) (hc : x_Rn d i as V r1 V1) (k : x_Ex (d + 1) code pc' ls' (r1.toList.map Value.int ++ st') V1 r V2) : x_Ex (d + 1) code pc ls st V r V2 := by
  obtain ⟨nl, code', hm, n1, hn1⟩ := hc
  obtain ⟨n2, hn2⟩ := k
  refine ⟨max n1 n2 + 1, ?_⟩
  have e1 := x_ex_up _ _ _ _ _ _ _ _ _ (Nat.le_refl _) hn1 (max n1 n2) (Nat.le_max_left _ _)
  have e2 := x_ex_up _ _ _ _ _ _ _ _ _ (Nat.le_refl _) hn2 (max n1 n2) (Nat.le_max_right _ _)
  simp only [x_ex, ha, hs, hm, e1, true_or, if_true]
  exact e2
theorem q_go (m : Nat) (h : x_go code m pc ls st (x_S0, V) = some (pc', ls', st', (x_S0, V'))) (k : x_Ex d code pc' ls' st' V' r V2) : x_Ex d code pc ls st V r V2 := by
  obtain ⟨n, hn⟩ := k
  exact ⟨n + m, x_go_ex m h hn⟩
/-- branches -/
theorem q_icmp {x y : Int32} {b a nx : Nat} {cs v p0 : _} (ha : x_at code pc = some (p0, 7, nx, a, b, cs, v)) (kt : x_cmp b x y = true → x_Ex d code a ls st V r V2) (kf : x_cmp b x y = false → x_Ex d code nx ls st V r V2) : x_Ex d code pc ls (.int y :: .int x :: st) V r V2 := by
  by_cases h : x_cmp b x y = true
  · exact q_step (pc' := if x_cmp b x y then a else nx) ha rfl (by rw [if_pos h]; exact kt h)
  · exact q_step (pc' := if x_cmp b x y then a else nx) ha rfl (by rw [if_neg h]; exact kf (by simpa using h))
theorem q_if {x : Int32} {b a nx : Nat} {cs v p0 : _} (ha : x_at code pc = some (p0, 8, nx, a, b, cs, v)) (kt : x_cmp b x 0 = true → x_Ex d code a ls st V r V2) (kf : x_cmp b x 0 = false → x_Ex d code nx ls st V r V2) : x_Ex d code pc ls (.int x :: st) V r V2 := by
  by_cases h : x_cmp b x 0 = true
  · exact q_step (pc' := if x_cmp b x 0 then a else nx) ha rfl (by rw [if_pos h]; exact kt h)
  · exact q_step (pc' := if x_cmp b x 0 then a else nx) ha rfl (by rw [if_neg h]; exact kf (by simpa using h))
/-- arrays -/
theorem q_ald {x n : Nat} {i : Int32} {rf : List (Option Nat)} {nx a b cs p0 : Nat} {v : Int32} {op : Nat} (hop : op = 18 ∧ x_S0[x]? = some (1, n, rf) ∨ op = 20 ∧ x_S0[x]? = some (2, n, rf)) (ha : x_at code pc = some (p0, op, nx, a, b, cs, v)) (hi : x_in i n = true) (k : x_Ex d code nx ls (.int (V x i.toNatClampNeg) :: st) V r V2) : x_Ex d code pc ls (.int i :: .ref x :: st) V r V2 := by
  rcases hop with ⟨rfl, hx⟩ | ⟨rfl, hx⟩
  · exact q_step ha (by simp only [x_step, x_mem, hx, hi]; rfl) k
  · exact q_step ha (by simp only [x_step, x_mem, hx, hi]; rfl) k
theorem q_ast {x n : Nat} {i y : Int32} {rf : List (Option Nat)} {nx a b cs p0 : Nat} {v : Int32} (hx : x_S0[x]? = some (1, n, rf)) (ha : x_at code pc = some (p0, 19, nx, a, b, cs, v)) (hi : x_in i n = true) (k : x_Ex d code nx ls st (x_up V x i.toNatClampNeg y) r V2) : x_Ex d code pc ls (.int y :: .int i :: .ref x :: st) V r V2 :=
  q_step ha (by simp only [x_step, x_mem, hx, hi]; rfl) k
theorem q_zst {x n : Nat} {i y : Int32} {rf : List (Option Nat)} {nx a b cs p0 : Nat} {v : Int32} (hx : x_S0[x]? = some (2, n, rf)) (ha : x_at code pc = some (p0, 21, nx, a, b, cs, v)) (hi : x_in i n = true) (hy : y = 0 ∨ y = 1) (k : x_Ex d code nx ls st (x_up V x i.toNatClampNeg y) r V2) : x_Ex d code pc ls (.int y :: .int i :: .ref x :: st) V r V2 :=
  q_step ha (by simp only [x_step, x_mem, hx]; rw [if_pos ⟨hi, hy⟩]) k
theorem q_aald {x n y : Nat} {i : Int32} {rf : List (Option Nat)} {nx a b cs p0 : Nat} {v : Int32} (hx : x_S0[x]? = some (3, n, rf)) (ha : x_at code pc = some (p0, 22, nx, a, b, cs, v)) (hi : x_in i n = true) (hy : rf[i.toNatClampNeg]? = some (some y)) (k : x_Ex d code nx ls (.ref y :: st) V r V2) : x_Ex d code pc ls (.int i :: .ref x :: st) V r V2 :=
  q_step ha (by simp only [x_step, x_mem, hx, hi, hy]; rfl) k
theorem q_div {x y : Int32} {nx a cs p0 : Nat} {v : Int32} (ha : x_at code pc = some (p0, 6, nx, a, 9, cs, v)) (hy : ¬ y = 0) (hl : st.length ≤ 50) (k : x_Ex d code nx ls (.int (x / y) :: st) V r V2) : x_Ex d code pc ls (.int y :: .int x :: st) V r V2 :=
  q_step ha (by simp only [x_step, x_bin, hy, if_false, hl, if_true]) k
theorem q_rem {x y : Int32} {nx a cs p0 : Nat} {v : Int32} (ha : x_at code pc = some (p0, 6, nx, a, 10, cs, v)) (hy : ¬ y = 0) (hl : st.length ≤ 50) (k : x_Ex d code nx ls (.int (x - x / y * y) :: st) V r V2) : x_Ex d code pc ls (.int y :: .int x :: st) V r V2 :=
  q_step ha (by simp only [x_step, x_bin, hy, if_false, hl, if_true]) k
end Q
end
section
/-! helpers of the printed functions -/
def x_b2 {α : Type} (o : Option (Int32 × xV)) (k : Int32 → xV → Option α) : Option α := match o with
  | some q => k q.1 q.2
  | none => none
def x_b1 {α : Type} (o : Option xV) (k : xV → Option α) : Option α := match o with
  | some q => k q
  | none => none
theorem x_b2_eq {α : Type} {o : Option (Int32 × xV)} {k : Int32 → xV → Option α} {z : α} (h : x_b2 o k = some z) : ∃ x V, o = some (x, V) ∧ k x V = some z := by
  cases o with
  | none => cases h
  | some q => exact ⟨q.1, q.2, rfl, h⟩
theorem x_b1_eq {α : Type} {o : Option xV} {k : xV → Option α} {z : α} (h : x_b1 o k = some z) : ∃ V, o = some V ∧ k V = some z := by
  cases o with
  | none => cases h
  | some q => exact ⟨q, rfl, h⟩
theorem x_b2_some {α : Type} {k : Int32 → xV → Option α} {x : Int32} {V : xV} : x_b2 (some (x, V)) k = k x V := rfl
theorem x_b1_some {α : Type} {k : xV → Option α} {V : xV} : x_b1 (some V) k = k V := rfl
def x_cpV (V : xV) (x y n : Nat) : xV := fun q => if q = y then va_cpy (V x) (V y) 0 0 n else V q
theorem x_sw_ne {q : Int32 × Nat} {r : List (Int32 × Nat)} {x : Int32} {d : Nat} (h : ¬ q.1 = x) : x_sw (q :: r) x d = x_sw r x d := by simp [x_sw, h]
theorem x_sw_eq {q : Int32 × Nat} {r : List (Int32 × Nat)} {x : Int32} {d : Nat} (h : q.1 = x) : x_sw (q :: r) x d = q.2 := by simp [x_sw, h]
theorem x_sw_nil {x : Int32} {d : Nat} : x_sw [] x d = d := rfl
section Q2
variable {d : Nat} {code : List xE} {pc pc' : Nat} {ls st ls' st' : List Value} {V V' V2 : xV} {r : Option Int32}
theorem q_putz {x : Nat} {y : Int32} {ci b nx cs p0 : Nat} {v : Int32} {rf : List (Option Nat)} (ha : x_at code pc = some (p0, 16, nx, ci, b, cs, v)) (hx : x_S0[x]? = some (0, ci, rf)) (hy : y = 0 ∨ y = 1) (k : x_Ex d code nx ls st (x_up V x b y) r V2) : x_Ex d code pc ls (.int y :: .ref x :: st) V r V2 :=
  q_step ha (by simp only [x_step, x_mem, hx]; rw [if_pos ⟨trivial, hy⟩]) k
theorem q_retz {y : Int32} {nx a b cs p0 : Nat} {v : Int32} (ha : x_at code pc = some (p0, 27, nx, a, b, cs, v)) (hb : b = b) (hy : y = 0 ∨ y = 1) : x_Ex d code pc ls [.int y] V (some y) V :=
  q_ret ha (by simp only [x_step, x_mem]; rw [if_pos (Or.inr hy)])
theorem q_cpy {x y n0 n1 : Nat} {n : Int32} {nx a b cs p0 : Nat} {v : Int32} {rf rf2 : List (Option Nat)} (ha : x_at code pc = some (p0, 33, nx, a, b, cs, v)) (hx : x_S0[x]? = some (1, n0, rf)) (hy : x_S0[y]? = some (1, n1, rf2)) (h0 : ¬ n < 0) (h1 : n.toNatClampNeg ≤ n0) (h2 : n.toNatClampNeg ≤ n1) (hl : st.length ≤ 4) (k : x_Ex d code nx ls st (x_cpV V x y n.toNatClampNeg) r V2) : x_Ex d code pc ls (.int n :: .int 0 :: .ref y :: .int 0 :: .ref x :: st) V r V2 := by
  have z : (0 : Int32).toNatClampNeg = 0 := rfl
  refine q_step (V' := x_cpV V x y n.toNatClampNeg) ha ?_ k
  simp only [x_step, x_mem, x_new, hx, hy]
  rw [if_pos ⟨by decide, by decide, h0, by rw [z]; omega, by rw [z]; omega, hl⟩, z]
  rfl
end Q2
/-- the addresses of Wishes -/
def x_wl : List Nat := [5, 14, 21, 26, 31, 36, 41, 46, 51, 56, 61, 66, 86, 91]
def x_isW (w : Nat) : Prop := w ∈ x_wl
theorem x_wl_ok : ∀ w ∈ x_wl, x_S0[w]? = some (0, 4, [some (w + 1), some (w + 2), some (w + 3), some (w + 4), none]) ∧ x_S0[w + 1]? = some (1, 8, []) ∧ x_S0[w + 2]? = some (1, 6, []) ∧ x_S0[w + 3]? = some (1, 6, []) ∧ x_S0[w + 4]? = some (1, 6, []) := by
  have h : x_wl.all (fun w => decide (x_S0[w]? = some (0, 4, [some (w + 1), some (w + 2), some (w + 3), some (w + 4), none])) && decide (x_S0[w + 1]? = some (1, 8, [])) && decide (x_S0[w + 2]? = some (1, 6, [])) && decide (x_S0[w + 3]? = some (1, 6, [])) && decide (x_S0[w + 4]? = some (1, 6, []))) = true := by decide +kernel
  intro w hw
  have h1 := List.all_eq_true.mp h w hw
  simp only [Bool.and_eq_true, decide_eq_true_eq] at h1
  exact ⟨h1.1.1.1.1, h1.1.1.1.2, h1.1.1.2, h1.1.2, h1.2⟩
theorem x_c26 {w o p0 nx a : Nat} {v : Int32} {ls rest : List Value} {V : xV} (hw : x_isW w) (hr : rest.length ≤ 4) : x_step x_nf x_sws (p0, 26, nx, a, 2, 4, v) ls (.ref o :: .ref w :: rest) (x_S0, V) = some (.inr (.inr (a, [.ref w, .ref o], nx, ls, rest))) := by
  have h := (x_wl_ok w hw).1
  simp only [x_step, x_mem]
  rw [if_pos ⟨by simp, by simpa using hr, by rfl⟩]
  simp only [List.take, List.reverse_cons, List.reverse_nil, List.nil_append, List.cons_append, List.drop, h, if_true]
theorem x_in_lt {i : Int32} {n : Nat} (h : x_in i n = true) : i.toNatClampNeg < n := by
  have h1 := h
  simp only [x_in, decide_eq_true_eq] at h1
  omega
theorem x_aref20 {i : Int32} (h : x_in i 10 = true) : ([some 21, some 26, some 31, some 36, some 41, some 46, some 51, some 56, some 61, some 66] : List (Option Nat))[i.toNatClampNeg]? = some (some (21 + 5 * i.toNatClampNeg)) := by
  have h1 := x_in_lt h
  generalize i.toNatClampNeg = j at h1
  have : ∀ j, j < 10 → ([some 21, some 26, some 31, some 36, some 41, some 46, some 51, some 56, some 61, some 66] : List (Option Nat))[j]? = some (some (21 + 5 * j)) := by decide
  exact this j h1
theorem x_aref71 {i : Int32} (h : x_in i 2 = true) : ([some 86, some 91] : List (Option Nat))[i.toNatClampNeg]? = some (some (86 + 5 * i.toNatClampNeg)) := by
  have h1 := x_in_lt h
  generalize i.toNatClampNeg = j at h1
  have : ∀ j, j < 2 → ([some 86, some 91] : List (Option Nat))[j]? = some (some (86 + 5 * j)) := by decide
  exact this j h1
theorem x_isW20 {i : Int32} (h : x_in i 10 = true) : x_isW (21 + 5 * i.toNatClampNeg) := by
  have h1 := x_in_lt h
  generalize i.toNatClampNeg = j at h1
  have : ∀ j, j < 10 → (21 + 5 * j) ∈ x_wl := by decide
  exact this j h1
theorem x_isW71 {i : Int32} (h : x_in i 2 = true) : x_isW (86 + 5 * i.toNatClampNeg) := by
  have h1 := x_in_lt h
  generalize i.toNatClampNeg = j at h1
  have : ∀ j, j < 2 → (86 + 5 * j) ∈ x_wl := by decide
  exact this j h1
theorem x_em {p q : Prop} (hn : ¬ p → q) (hp : p → q) : q := (Classical.em p).elim hp hn
end
section
/-! takeFrom of any two Wishes, Arrays.fill of any array -/
section Q3
variable {d : Nat} {code : List xE} {pc : Nat} {ls st : List Value} {V V2 : xV} {r : Option Int32} {x ci b nx cs p0 : Nat} {v : Int32} {rf : List (Option Nat)}
theorem q_getR {y : Nat} (ha : x_at code pc = some (p0, 14, nx, ci, b, cs, v)) (hx : x_S0[x]? = some (0, ci, rf)) (hy : rf[b]? = some (some y)) (k : x_Ex d code nx ls (.ref y :: st) V r V2) : x_Ex d code pc ls (.ref x :: st) V r V2 :=
  q_step (V' := V) ha (by simp only [x_step, x_mem, hx, hy, if_true]) k
theorem q_getI (ha : x_at code pc = some (p0, 13, nx, ci, b, cs, v)) (hx : x_S0[x]? = some (0, ci, rf)) (k : x_Ex d code nx ls (.int (V x b) :: st) V r V2) : x_Ex d code pc ls (.ref x :: st) V r V2 :=
  q_step (V' := V) ha (by simp only [x_step, x_mem, hx, if_true]) k
theorem q_putI {y : Int32} (ha : x_at code pc = some (p0, 15, nx, ci, b, cs, v)) (hx : x_S0[x]? = some (0, ci, rf)) (k : x_Ex d code nx ls st (x_up V x b y) r V2) : x_Ex d code pc ls (.int y :: .ref x :: st) V r V2 :=
  q_step (V' := x_up V x b y) ha (by simp only [x_step, x_mem, hx, if_true]) k
theorem q_alen {n : Nat} (ha : x_at code pc = some (p0, 24, nx, ci, b, cs, v)) (hx : x_S0[x]? = some (1, n, rf)) (k : x_Ex d code nx ls (.int (Int32.ofNat n) :: st) V r V2) : x_Ex d code pc ls (.ref x :: st) V r V2 :=
  q_step (V' := V) ha (by simp only [x_step, x_mem, hx]; rfl) k
end Q3
def x_cW4 (V : xV) (w o : Nat) : xV := x_cpV (x_cpV (x_cpV (x_cpV V (o + 1) (w + 1) 8) (o + 2) (w + 2) 6) (o + 3) (w + 3) 6) (o + 4) (w + 4) 6
def x_cW (V : xV) (w o : Nat) : xV := x_up (x_cW4 V w o) w 4 (x_cW4 V w o o 4)
def x_tkW (w o : Nat) (V : xV) : Option xV := some (x_cW V w o)
theorem x_tkW_ok {w o : Nat} (hw : x_isW w) (ho : x_isW o) {V W : xV} (h : x_tkW w o V = some W) : x_Rn 0 45 [.ref w, .ref o] V none W := by
  refine ⟨2, kX4_takeFrom, rfl, ?_⟩
  show x_Ex 0 kX4_takeFrom 0 [.ref w, .ref o] [] V none W
  cases h
  obtain ⟨w0, w1, w2, w3, w4⟩ := x_wl_ok w hw
  obtain ⟨o0, o1, o2, o3, o4⟩ := x_wl_ok o ho
  refine q_go 1 (pc' := 1) (ls' := [.ref w, .ref o]) (st' := [.ref o]) (V' := V) rfl ?_
  refine q_getR (y := o + 1) rfl o0 rfl ?_
  refine q_go 2 (pc' := 6) (ls' := [.ref w, .ref o]) (st' := [.ref w, .int 0, .ref (o + 1)]) (V' := V) rfl ?_
  refine q_getR (y := w + 1) rfl w0 rfl ?_
  refine q_go 2 (pc' := 12) (ls' := [.ref w, .ref o]) (st' := [.int 8, .int 0, .ref (w + 1), .int 0, .ref (o + 1)]) (V' := V) rfl ?_
  refine q_cpy (n := 8) rfl o1 w1 (by decide) (by decide) (by decide) (by decide) ?_
  generalize hV1 : x_cpV V (o + 1) (w + 1) (8 : Int32).toNatClampNeg = V1
  refine q_go 1 (pc' := 16) (ls' := [.ref w, .ref o]) (st' := [.ref o]) (V' := V1) rfl ?_
  refine q_getR (y := o + 2) rfl o0 rfl ?_
  refine q_go 2 (pc' := 21) (ls' := [.ref w, .ref o]) (st' := [.ref w, .int 0, .ref (o + 2)]) (V' := V1) rfl ?_
  refine q_getR (y := w + 2) rfl w0 rfl ?_
  refine q_go 2 (pc' := 27) (ls' := [.ref w, .ref o]) (st' := [.int 6, .int 0, .ref (w + 2), .int 0, .ref (o + 2)]) (V' := V1) rfl ?_
  refine q_cpy (n := 6) rfl o2 w2 (by decide) (by decide) (by decide) (by decide) ?_
  generalize hV2 : x_cpV V1 (o + 2) (w + 2) (6 : Int32).toNatClampNeg = V2
  refine q_go 1 (pc' := 31) (ls' := [.ref w, .ref o]) (st' := [.ref o]) (V' := V2) rfl ?_
  refine q_getR (y := o + 3) rfl o0 rfl ?_
  refine q_go 2 (pc' := 36) (ls' := [.ref w, .ref o]) (st' := [.ref w, .int 0, .ref (o + 3)]) (V' := V2) rfl ?_
  refine q_getR (y := w + 3) rfl w0 rfl ?_
  refine q_go 2 (pc' := 42) (ls' := [.ref w, .ref o]) (st' := [.int 6, .int 0, .ref (w + 3), .int 0, .ref (o + 3)]) (V' := V2) rfl ?_
  refine q_cpy (n := 6) rfl o3 w3 (by decide) (by decide) (by decide) (by decide) ?_
  generalize hV3 : x_cpV V2 (o + 3) (w + 3) (6 : Int32).toNatClampNeg = V3
  refine q_go 1 (pc' := 46) (ls' := [.ref w, .ref o]) (st' := [.ref o]) (V' := V3) rfl ?_
  refine q_getR (y := o + 4) rfl o0 rfl ?_
  refine q_go 2 (pc' := 51) (ls' := [.ref w, .ref o]) (st' := [.ref w, .int 0, .ref (o + 4)]) (V' := V3) rfl ?_
  refine q_getR (y := w + 4) rfl w0 rfl ?_
  refine q_go 2 (pc' := 57) (ls' := [.ref w, .ref o]) (st' := [.int 6, .int 0, .ref (w + 4), .int 0, .ref (o + 4)]) (V' := V3) rfl ?_
  refine q_cpy (n := 6) rfl o4 w4 (by decide) (by decide) (by decide) (by decide) ?_
  have e4 : x_cpV V3 (o + 4) (w + 4) (6 : Int32).toNatClampNeg = x_cW4 V w o := by
    rw [← hV3, ← hV2, ← hV1]
    rfl
  rw [e4]
  refine q_go 2 (pc' := 62) (ls' := [.ref w, .ref o]) (st' := [.ref o, .ref w]) (V' := x_cW4 V w o) rfl ?_
  refine q_getI rfl o0 ?_
  refine q_putI rfl w0 ?_
  exact q_ret rfl rfl
def x_flV (V : xV) (a n : Nat) (v : Int32) : xV := fun b => if b = a then (fun k => if k < n then v else V b k) else V b
def x_filA (a n : Nat) (v : Int32) (V : xV) : Option xV := some (x_flV V a n v)
theorem x_in_nI {j n : Nat} (h : j < n) (hn : n < 2 ^ 31) : x_in (nI j) n = true := by
  simp only [x_in, decide_eq_true_eq]
  exact nI_in h hn
theorem x_filA_ok {a n : Nat} (ha : x_S0[a]? = some (1, n, [])) (hn : n ≤ 200) {v : Int32} {V W : xV} (h : x_filA a n v V = some W) : x_Rn 0 148 [.ref a, .int v] V none W := by
  refine ⟨4, kJ7_fill, rfl, ?_⟩
  show x_Ex 0 kJ7_fill 0 [.ref a, .int v, .long 0, .long 0] [] V none W
  cases h
  have key : ∀ m j, m + j = n → x_Ex 0 kJ7_fill 5 [.ref a, .int v, .int (nI j), .int (nI n)] [] (x_flV V a j v) none (x_flV V a n v) := by
    intro m
    induction m with
    | zero =>
      intro j hj
      obtain rfl : j = n := by omega
      refine q_go 2 (pc' := 7) (ls' := [.ref a, .int v, .int (nI j), .int (nI j)]) (st' := [.int (nI j), .int (nI j)]) (V' := x_flV V a j v) rfl ?_
      exact q_icmp rfl (fun _ => q_ret rfl rfl) (fun c => absurd c (by simp [x_cmp]))
    | succ m ih =>
      intro j hj
      refine q_go 2 (pc' := 7) (ls' := [.ref a, .int v, .int (nI j), .int (nI n)]) (st' := [.int (nI n), .int (nI j)]) (V' := x_flV V a j v) rfl ?_
      refine q_icmp rfl (fun c => absurd c (by simp [x_cmp]; exact Int32.not_le.mp (nI_ge (by omega) (by omega)))) (fun _ => ?_)
      refine q_go 3 (pc' := 13) (ls' := [.ref a, .int v, .int (nI j), .int (nI n)]) (st' := [.int v, .int (nI j), .ref a]) (V' := x_flV V a j v) rfl ?_
      refine q_ast ha rfl (x_in_nI (by omega) (by omega)) ?_
      have e1 : x_up (x_flV V a j v) a (nI j).toNatClampNeg v = x_flV V a (j + 1) v := by
        rw [nI_clamp (by omega)]
        funext b k
        by_cases hb : b = a
        · subst hb
          by_cases hk : k = j
          · subst hk; simp [x_up, x_flV, upd]
          · have : k < j ↔ k < j + 1 := by omega
            simp [x_up, x_flV, upd, hk, this]
        · simp [x_up, x_flV, hb]
      rw [e1]
      refine q_go 2 (pc' := 5) (ls' := [.ref a, .int v, .int (nI j + 1), .int (nI n)]) (st' := []) (V' := x_flV V a (j + 1) v) rfl ?_
      rw [nI_1]
      exact ih (j + 1) (by omega)
  have e0 : x_flV V a 0 v = V := by
    funext b k
    by_cases hb : b = a
    · subst hb; simp [x_flV]
    · simp [x_flV, hb]
  have k0 := key n 0 (by omega)
  rw [e0] at k0
  refine q_go 3 (pc' := 3) (ls' := [.ref a, .int v, .int 0, .long 0]) (st' := [.ref a]) (V' := V) rfl ?_
  refine q_alen rfl ha ?_
  refine q_go 1 (pc' := 5) (ls' := [.ref a, .int v, .int 0, .int (Int32.ofNat n)]) (st' := []) (V' := V) rfl ?_
  exact k0
end
