section
-- ===== PART A: goes FIRST, ahead of the names: the tables' words, and 'selects' of the private methods out of them =====
/-- a private method of a class that the tables say can be made, by its rows of tables_1 -/
def lw_okq (q : MethodName × Nat) : Prop := (q.1.cls ≠ "java/lang/invoke/MethodHandle" ∧ q.1.cls ≠ "java/lang/invoke/VarHandle") ∧ Cond.instantiable q.1.cls q.2 ∈ tables_1 ∧ Cond.privateMethod q.1 ∈ tables_1 ∧ Cond.instanceMethod q.1 ∈ tables_1
theorem lw_p0 : lw_okq (⟨"RankWheels$Telling", "beginWith", "([II)V"⟩, 13) := ⟨⟨by decide +kernel, by decide +kernel⟩, List.mem_of_getElem? (i := 21) (by decide +kernel), List.mem_of_getElem? (i := 285) (by decide +kernel), List.mem_of_getElem? (i := 286) (by decide +kernel)⟩
theorem lw_p1 : lw_okq (⟨"RankWheels$Telling", "readToken", "()V"⟩, 13) := ⟨⟨by decide +kernel, by decide +kernel⟩, List.mem_of_getElem? (i := 21) (by decide +kernel), List.mem_of_getElem? (i := 292) (by decide +kernel), List.mem_of_getElem? (i := 293) (by decide +kernel)⟩
theorem lw_p2 : lw_okq (⟨"RankWheels$Telling", "readLetters", "()V"⟩, 13) := ⟨⟨by decide +kernel, by decide +kernel⟩, List.mem_of_getElem? (i := 21) (by decide +kernel), List.mem_of_getElem? (i := 300) (by decide +kernel), List.mem_of_getElem? (i := 301) (by decide +kernel)⟩
theorem lw_p3 : lw_okq (⟨"RankWheels$Telling", "readDigits", "()V"⟩, 13) := ⟨⟨by decide +kernel, by decide +kernel⟩, List.mem_of_getElem? (i := 21) (by decide +kernel), List.mem_of_getElem? (i := 307) (by decide +kernel), List.mem_of_getElem? (i := 308) (by decide +kernel)⟩
theorem lw_p4 : lw_okq (⟨"RankWheels$Telling", "tokenStands", "()Z"⟩, 13) := ⟨⟨by decide +kernel, by decide +kernel⟩, List.mem_of_getElem? (i := 21) (by decide +kernel), List.mem_of_getElem? (i := 311) (by decide +kernel), List.mem_of_getElem? (i := 312) (by decide +kernel)⟩
theorem lw_p5 : lw_okq (⟨"RankWheels$Telling", "beginsItem", "()Z"⟩, 13) := ⟨⟨by decide +kernel, by decide +kernel⟩, List.mem_of_getElem? (i := 21) (by decide +kernel), List.mem_of_getElem? (i := 315) (by decide +kernel), List.mem_of_getElem? (i := 316) (by decide +kernel)⟩
theorem lw_p6 : lw_okq (⟨"RankWheels$Telling", "numberWithin", "(II)I"⟩, 13) := ⟨⟨by decide +kernel, by decide +kernel⟩, List.mem_of_getElem? (i := 21) (by decide +kernel), List.mem_of_getElem? (i := 319) (by decide +kernel), List.mem_of_getElem? (i := 320) (by decide +kernel)⟩
theorem lw_p7 : lw_okq (⟨"RankWheels$Telling", "endsMan", "(I)Z"⟩, 13) := ⟨⟨by decide +kernel, by decide +kernel⟩, List.mem_of_getElem? (i := 21) (by decide +kernel), List.mem_of_getElem? (i := 323) (by decide +kernel), List.mem_of_getElem? (i := 324) (by decide +kernel)⟩
theorem lw_p8 : lw_okq (⟨"RankWheels$Telling", "endsItem", "()Z"⟩, 13) := ⟨⟨by decide +kernel, by decide +kernel⟩, List.mem_of_getElem? (i := 21) (by decide +kernel), List.mem_of_getElem? (i := 331) (by decide +kernel), List.mem_of_getElem? (i := 332) (by decide +kernel)⟩
theorem lw_p9 : lw_okq (⟨"RankWheels", "isPlace", "(I)Z"⟩, 11) := ⟨⟨by decide +kernel, by decide +kernel⟩, List.mem_of_getElem? (i := 13) (by decide +kernel), List.mem_of_getElem? (i := 358) (by decide +kernel), List.mem_of_getElem? (i := 359) (by decide +kernel)⟩
theorem lw_p10 : lw_okq (⟨"RankWheels$Past", "loseOldest", "()V"⟩, 2) := ⟨⟨by decide +kernel, by decide +kernel⟩, List.mem_of_getElem? (i := 140) (by decide +kernel), List.mem_of_getElem? (i := 377) (by decide +kernel), List.mem_of_getElem? (i := 378) (by decide +kernel)⟩
theorem lw_p11 : lw_okq (⟨"RankWheels$Line", "moveAll", "(I)Z"⟩, 8) := ⟨⟨by decide +kernel, by decide +kernel⟩, List.mem_of_getElem? (i := 101) (by decide +kernel), List.mem_of_getElem? (i := 390) (by decide +kernel), List.mem_of_getElem? (i := 391) (by decide +kernel)⟩
theorem lw_p12 : lw_okq (⟨"RankWheels$Line", "stepOf", "(IIII)I"⟩, 8) := ⟨⟨by decide +kernel, by decide +kernel⟩, List.mem_of_getElem? (i := 101) (by decide +kernel), List.mem_of_getElem? (i := 395) (by decide +kernel), List.mem_of_getElem? (i := 396) (by decide +kernel)⟩
theorem lw_p13 : lw_okq (⟨"RankWheels$Line", "changeFeet", "()V"⟩, 8) := ⟨⟨by decide +kernel, by decide +kernel⟩, List.mem_of_getElem? (i := 101) (by decide +kernel), List.mem_of_getElem? (i := 407) (by decide +kernel), List.mem_of_getElem? (i := 408) (by decide +kernel)⟩
theorem lw_p14 : lw_okq (⟨"RankWheels$Line", "gapAt", "(I)I"⟩, 8) := ⟨⟨by decide +kernel, by decide +kernel⟩, List.mem_of_getElem? (i := 101) (by decide +kernel), List.mem_of_getElem? (i := 415) (by decide +kernel), List.mem_of_getElem? (i := 416) (by decide +kernel)⟩
theorem lw_p15 : lw_okq (⟨"RankWheels", "pacesTillDressed", "(III)I"⟩, 11) := ⟨⟨by decide +kernel, by decide +kernel⟩, List.mem_of_getElem? (i := 13) (by decide +kernel), List.mem_of_getElem? (i := 478) (by decide +kernel), List.mem_of_getElem? (i := 479) (by decide +kernel)⟩
def lw_privs_1 : List (MethodName × Nat) := [(⟨"RankWheels$Telling", "beginWith", "([II)V"⟩, 13), (⟨"RankWheels$Telling", "readToken", "()V"⟩, 13), (⟨"RankWheels$Telling", "readLetters", "()V"⟩, 13), (⟨"RankWheels$Telling", "readDigits", "()V"⟩, 13), (⟨"RankWheels$Telling", "tokenStands", "()Z"⟩, 13), (⟨"RankWheels$Telling", "beginsItem", "()Z"⟩, 13), (⟨"RankWheels$Telling", "numberWithin", "(II)I"⟩, 13), (⟨"RankWheels$Telling", "endsMan", "(I)Z"⟩, 13), (⟨"RankWheels$Telling", "endsItem", "()Z"⟩, 13), (⟨"RankWheels", "isPlace", "(I)Z"⟩, 11), (⟨"RankWheels$Past", "loseOldest", "()V"⟩, 2), (⟨"RankWheels$Line", "moveAll", "(I)Z"⟩, 8), (⟨"RankWheels$Line", "stepOf", "(IIII)I"⟩, 8), (⟨"RankWheels$Line", "changeFeet", "()V"⟩, 8), (⟨"RankWheels$Line", "gapAt", "(I)I"⟩, 8), (⟨"RankWheels", "pacesTillDressed", "(III)I"⟩, 11)]
theorem lw_r1 : ∀ q ∈ lw_privs_1, lw_okq q := List.forall_mem_cons.mpr ⟨lw_p0, List.forall_mem_cons.mpr ⟨lw_p1, List.forall_mem_cons.mpr ⟨lw_p2, List.forall_mem_cons.mpr ⟨lw_p3, List.forall_mem_cons.mpr ⟨lw_p4, List.forall_mem_cons.mpr ⟨lw_p5, List.forall_mem_cons.mpr ⟨lw_p6, List.forall_mem_cons.mpr ⟨lw_p7, List.forall_mem_cons.mpr ⟨lw_p8, List.forall_mem_cons.mpr ⟨lw_p9, List.forall_mem_cons.mpr ⟨lw_p10, List.forall_mem_cons.mpr ⟨lw_p11, List.forall_mem_cons.mpr ⟨lw_p12, List.forall_mem_cons.mpr ⟨lw_p13, List.forall_mem_cons.mpr ⟨lw_p14, List.forall_mem_cons.mpr ⟨lw_p15, fun _ h => absurd h List.not_mem_nil⟩⟩⟩⟩⟩⟩⟩⟩⟩⟩⟩⟩⟩⟩⟩⟩
theorem lw_p16 : lw_okq (⟨"RankWheels", "lookAhead", "(II)V"⟩, 11) := ⟨⟨by decide +kernel, by decide +kernel⟩, List.mem_of_getElem? (i := 13) (by decide +kernel), List.mem_of_getElem? (i := 487) (by decide +kernel), List.mem_of_getElem? (i := 488) (by decide +kernel)⟩
theorem lw_p17 : lw_okq (⟨"RankWheels", "allCanStride", "(I)Z"⟩, 11) := ⟨⟨by decide +kernel, by decide +kernel⟩, List.mem_of_getElem? (i := 13) (by decide +kernel), List.mem_of_getElem? (i := 499) (by decide +kernel), List.mem_of_getElem? (i := 500) (by decide +kernel)⟩
theorem lw_p18 : lw_okq (⟨"RankWheels$Ordering", "isBetter", "(II)Z"⟩, 6) := ⟨⟨by decide +kernel, by decide +kernel⟩, List.mem_of_getElem? (i := 179) (by decide +kernel), List.mem_of_getElem? (i := 517) (by decide +kernel), List.mem_of_getElem? (i := 518) (by decide +kernel)⟩
theorem lw_p19 : lw_okq (⟨"RankWheels$Ordering", "becomeBest", "(II)V"⟩, 6) := ⟨⟨by decide +kernel, by decide +kernel⟩, List.mem_of_getElem? (i := 179) (by decide +kernel), List.mem_of_getElem? (i := 521) (by decide +kernel), List.mem_of_getElem? (i := 522) (by decide +kernel)⟩
theorem lw_p20 : lw_okq (⟨"RankWheels$Ordering", "aboveLegAt", "(I)I"⟩, 6) := ⟨⟨by decide +kernel, by decide +kernel⟩, List.mem_of_getElem? (i := 179) (by decide +kernel), List.mem_of_getElem? (i := 526) (by decide +kernel), List.mem_of_getElem? (i := 527) (by decide +kernel)⟩
theorem lw_p21 : lw_okq (⟨"RankWheels$Ordering", "apartInwardOf", "(I)I"⟩, 6) := ⟨⟨by decide +kernel, by decide +kernel⟩, List.mem_of_getElem? (i := 179) (by decide +kernel), List.mem_of_getElem? (i := 532) (by decide +kernel), List.mem_of_getElem? (i := 533) (by decide +kernel)⟩
theorem lw_p22 : lw_okq (⟨"RankWheels", "tellsAllSeen", "(II)Z"⟩, 11) := ⟨⟨by decide +kernel, by decide +kernel⟩, List.mem_of_getElem? (i := 13) (by decide +kernel), List.mem_of_getElem? (i := 587) (by decide +kernel), List.mem_of_getElem? (i := 588) (by decide +kernel)⟩
theorem lw_p23 : lw_okq (⟨"RankWheels", "rateOfStep", "(I)I"⟩, 11) := ⟨⟨by decide +kernel, by decide +kernel⟩, List.mem_of_getElem? (i := 13) (by decide +kernel), List.mem_of_getElem? (i := 605) (by decide +kernel), List.mem_of_getElem? (i := 606) (by decide +kernel)⟩
theorem lw_p24 : lw_okq (⟨"RankWheels", "rateOfShort", "(I)I"⟩, 11) := ⟨⟨by decide +kernel, by decide +kernel⟩, List.mem_of_getElem? (i := 13) (by decide +kernel), List.mem_of_getElem? (i := 609) (by decide +kernel), List.mem_of_getElem? (i := 610) (by decide +kernel)⟩
theorem lw_p25 : lw_okq (⟨"RankWheels", "rateOfSeen", "(I)I"⟩, 11) := ⟨⟨by decide +kernel, by decide +kernel⟩, List.mem_of_getElem? (i := 13) (by decide +kernel), List.mem_of_getElem? (i := 614) (by decide +kernel), List.mem_of_getElem? (i := 615) (by decide +kernel)⟩
theorem lw_p26 : lw_okq (⟨"RankWheels", "rateOfMarked", "(I)I"⟩, 11) := ⟨⟨by decide +kernel, by decide +kernel⟩, List.mem_of_getElem? (i := 13) (by decide +kernel), List.mem_of_getElem? (i := 619) (by decide +kernel), List.mem_of_getElem? (i := 620) (by decide +kernel)⟩
theorem lw_p27 : lw_okq (⟨"RankWheels", "rateOfBulging", "(I)I"⟩, 11) := ⟨⟨by decide +kernel, by decide +kernel⟩, List.mem_of_getElem? (i := 13) (by decide +kernel), List.mem_of_getElem? (i := 624) (by decide +kernel), List.mem_of_getElem? (i := 625) (by decide +kernel)⟩
theorem lw_p28 : lw_okq (⟨"RankWheels", "rateOfHopped", "(I)I"⟩, 11) := ⟨⟨by decide +kernel, by decide +kernel⟩, List.mem_of_getElem? (i := 13) (by decide +kernel), List.mem_of_getElem? (i := 629) (by decide +kernel), List.mem_of_getElem? (i := 630) (by decide +kernel)⟩
theorem lw_p29 : lw_okq (⟨"RankWheelsModel", "plain", "()V"⟩, 24) := ⟨⟨by decide +kernel, by decide +kernel⟩, List.mem_of_getElem? (i := 654) (by decide +kernel), List.mem_of_getElem? (i := 660) (by decide +kernel), List.mem_of_getElem? (i := 661) (by decide +kernel)⟩
theorem lw_p30 : lw_okq (⟨"RankWheelsModel", "takeDraft", "()V"⟩, 24) := ⟨⟨by decide +kernel, by decide +kernel⟩, List.mem_of_getElem? (i := 654) (by decide +kernel), List.mem_of_getElem? (i := 664) (by decide +kernel), List.mem_of_getElem? (i := 665) (by decide +kernel)⟩
theorem lw_p31 : lw_okq (⟨"RankWheelsModel", "step", "()V"⟩, 24) := ⟨⟨by decide +kernel, by decide +kernel⟩, List.mem_of_getElem? (i := 654) (by decide +kernel), List.mem_of_getElem? (i := 758) (by decide +kernel), List.mem_of_getElem? (i := 759) (by decide +kernel)⟩
def lw_privs_2 : List (MethodName × Nat) := [(⟨"RankWheels", "lookAhead", "(II)V"⟩, 11), (⟨"RankWheels", "allCanStride", "(I)Z"⟩, 11), (⟨"RankWheels$Ordering", "isBetter", "(II)Z"⟩, 6), (⟨"RankWheels$Ordering", "becomeBest", "(II)V"⟩, 6), (⟨"RankWheels$Ordering", "aboveLegAt", "(I)I"⟩, 6), (⟨"RankWheels$Ordering", "apartInwardOf", "(I)I"⟩, 6), (⟨"RankWheels", "tellsAllSeen", "(II)Z"⟩, 11), (⟨"RankWheels", "rateOfStep", "(I)I"⟩, 11), (⟨"RankWheels", "rateOfShort", "(I)I"⟩, 11), (⟨"RankWheels", "rateOfSeen", "(I)I"⟩, 11), (⟨"RankWheels", "rateOfMarked", "(I)I"⟩, 11), (⟨"RankWheels", "rateOfBulging", "(I)I"⟩, 11), (⟨"RankWheels", "rateOfHopped", "(I)I"⟩, 11), (⟨"RankWheelsModel", "plain", "()V"⟩, 24), (⟨"RankWheelsModel", "takeDraft", "()V"⟩, 24), (⟨"RankWheelsModel", "step", "()V"⟩, 24)]
theorem lw_r2 : ∀ q ∈ lw_privs_2, lw_okq q := List.forall_mem_cons.mpr ⟨lw_p16, List.forall_mem_cons.mpr ⟨lw_p17, List.forall_mem_cons.mpr ⟨lw_p18, List.forall_mem_cons.mpr ⟨lw_p19, List.forall_mem_cons.mpr ⟨lw_p20, List.forall_mem_cons.mpr ⟨lw_p21, List.forall_mem_cons.mpr ⟨lw_p22, List.forall_mem_cons.mpr ⟨lw_p23, List.forall_mem_cons.mpr ⟨lw_p24, List.forall_mem_cons.mpr ⟨lw_p25, List.forall_mem_cons.mpr ⟨lw_p26, List.forall_mem_cons.mpr ⟨lw_p27, List.forall_mem_cons.mpr ⟨lw_p28, List.forall_mem_cons.mpr ⟨lw_p29, List.forall_mem_cons.mpr ⟨lw_p30, List.forall_mem_cons.mpr ⟨lw_p31, fun _ h => absurd h List.not_mem_nil⟩⟩⟩⟩⟩⟩⟩⟩⟩⟩⟩⟩⟩⟩⟩⟩
theorem lw_p32 : lw_okq (⟨"RankWheelsModel", "here", "()I"⟩, 24) := ⟨⟨by decide +kernel, by decide +kernel⟩, List.mem_of_getElem? (i := 654) (by decide +kernel), List.mem_of_getElem? (i := 762) (by decide +kernel), List.mem_of_getElem? (i := 763) (by decide +kernel)⟩
theorem lw_p33 : lw_okq (⟨"RankWheelsModel", "mayBe", "(I)Z"⟩, 24) := ⟨⟨by decide +kernel, by decide +kernel⟩, List.mem_of_getElem? (i := 654) (by decide +kernel), List.mem_of_getElem? (i := 766) (by decide +kernel), List.mem_of_getElem? (i := 767) (by decide +kernel)⟩
theorem lw_p34 : lw_okq (⟨"RankWheelsModel", "due", "(Z)I"⟩, 24) := ⟨⟨by decide +kernel, by decide +kernel⟩, List.mem_of_getElem? (i := 654) (by decide +kernel), List.mem_of_getElem? (i := 773) (by decide +kernel), List.mem_of_getElem? (i := 774) (by decide +kernel)⟩
theorem lw_p35 : lw_okq (⟨"RankWheelsModel", "readRow", "(I)V"⟩, 24) := ⟨⟨by decide +kernel, by decide +kernel⟩, List.mem_of_getElem? (i := 654) (by decide +kernel), List.mem_of_getElem? (i := 777) (by decide +kernel), List.mem_of_getElem? (i := 778) (by decide +kernel)⟩
theorem lw_p36 : lw_okq (⟨"RankWheelsModel", "number", "(II)I"⟩, 24) := ⟨⟨by decide +kernel, by decide +kernel⟩, List.mem_of_getElem? (i := 654) (by decide +kernel), List.mem_of_getElem? (i := 781) (by decide +kernel), List.mem_of_getElem? (i := 782) (by decide +kernel)⟩
theorem lw_p37 : lw_okq (⟨"RankWheelsModel", "isPlace", "(I)Z"⟩, 24) := ⟨⟨by decide +kernel, by decide +kernel⟩, List.mem_of_getElem? (i := 654) (by decide +kernel), List.mem_of_getElem? (i := 789) (by decide +kernel), List.mem_of_getElem? (i := 790) (by decide +kernel)⟩
theorem lw_p38 : lw_okq (⟨"RankWheelsModel", "know", "()V"⟩, 24) := ⟨⟨by decide +kernel, by decide +kernel⟩, List.mem_of_getElem? (i := 654) (by decide +kernel), List.mem_of_getElem? (i := 804) (by decide +kernel), List.mem_of_getElem? (i := 805) (by decide +kernel)⟩
theorem lw_p39 : lw_okq (⟨"RankWheelsModel", "pace", "([II)V"⟩, 24) := ⟨⟨by decide +kernel, by decide +kernel⟩, List.mem_of_getElem? (i := 654) (by decide +kernel), List.mem_of_getElem? (i := 808) (by decide +kernel), List.mem_of_getElem? (i := 809) (by decide +kernel)⟩
theorem lw_p40 : lw_okq (⟨"RankWheelsModel", "hopAll", "([I)V"⟩, 24) := ⟨⟨by decide +kernel, by decide +kernel⟩, List.mem_of_getElem? (i := 654) (by decide +kernel), List.mem_of_getElem? (i := 815) (by decide +kernel), List.mem_of_getElem? (i := 816) (by decide +kernel)⟩
theorem lw_p41 : lw_okq (⟨"RankWheelsModel", "bulge", "([I)I"⟩, 24) := ⟨⟨by decide +kernel, by decide +kernel⟩, List.mem_of_getElem? (i := 654) (by decide +kernel), List.mem_of_getElem? (i := 819) (by decide +kernel), List.mem_of_getElem? (i := 820) (by decide +kernel)⟩
theorem lw_p42 : lw_okq (⟨"RankWheelsModel", "bulgeAt", "([I)I"⟩, 24) := ⟨⟨by decide +kernel, by decide +kernel⟩, List.mem_of_getElem? (i := 654) (by decide +kernel), List.mem_of_getElem? (i := 854) (by decide +kernel), List.mem_of_getElem? (i := 855) (by decide +kernel)⟩
theorem lw_p43 : lw_okq (⟨"RankWheelsModel", "dressedBy", "(II)I"⟩, 24) := ⟨⟨by decide +kernel, by decide +kernel⟩, List.mem_of_getElem? (i := 654) (by decide +kernel), List.mem_of_getElem? (i := 862) (by decide +kernel), List.mem_of_getElem? (i := 863) (by decide +kernel)⟩
theorem lw_p44 : lw_okq (⟨"RankWheelsModel", "take", "()V"⟩, 24) := ⟨⟨by decide +kernel, by decide +kernel⟩, List.mem_of_getElem? (i := 654) (by decide +kernel), List.mem_of_getElem? (i := 866) (by decide +kernel), List.mem_of_getElem? (i := 867) (by decide +kernel)⟩
theorem lw_p45 : lw_okq (⟨"RankWheelsModel", "isDressed", "()Z"⟩, 24) := ⟨⟨by decide +kernel, by decide +kernel⟩, List.mem_of_getElem? (i := 654) (by decide +kernel), List.mem_of_getElem? (i := 870) (by decide +kernel), List.mem_of_getElem? (i := 871) (by decide +kernel)⟩
theorem lw_p46 : lw_okq (⟨"RankWheelsModel", "look", "(I)V"⟩, 24) := ⟨⟨by decide +kernel, by decide +kernel⟩, List.mem_of_getElem? (i := 654) (by decide +kernel), List.mem_of_getElem? (i := 890) (by decide +kernel), List.mem_of_getElem? (i := 891) (by decide +kernel)⟩
theorem lw_p47 : lw_okq (⟨"RankWheelsModel", "isSo", "(II)Z"⟩, 24) := ⟨⟨by decide +kernel, by decide +kernel⟩, List.mem_of_getElem? (i := 654) (by decide +kernel), List.mem_of_getElem? (i := 922) (by decide +kernel), List.mem_of_getElem? (i := 923) (by decide +kernel)⟩
def lw_privs_3 : List (MethodName × Nat) := [(⟨"RankWheelsModel", "here", "()I"⟩, 24), (⟨"RankWheelsModel", "mayBe", "(I)Z"⟩, 24), (⟨"RankWheelsModel", "due", "(Z)I"⟩, 24), (⟨"RankWheelsModel", "readRow", "(I)V"⟩, 24), (⟨"RankWheelsModel", "number", "(II)I"⟩, 24), (⟨"RankWheelsModel", "isPlace", "(I)Z"⟩, 24), (⟨"RankWheelsModel", "know", "()V"⟩, 24), (⟨"RankWheelsModel", "pace", "([II)V"⟩, 24), (⟨"RankWheelsModel", "hopAll", "([I)V"⟩, 24), (⟨"RankWheelsModel", "bulge", "([I)I"⟩, 24), (⟨"RankWheelsModel", "bulgeAt", "([I)I"⟩, 24), (⟨"RankWheelsModel", "dressedBy", "(II)I"⟩, 24), (⟨"RankWheelsModel", "take", "()V"⟩, 24), (⟨"RankWheelsModel", "isDressed", "()Z"⟩, 24), (⟨"RankWheelsModel", "look", "(I)V"⟩, 24), (⟨"RankWheelsModel", "isSo", "(II)Z"⟩, 24)]
theorem lw_r3 : ∀ q ∈ lw_privs_3, lw_okq q := List.forall_mem_cons.mpr ⟨lw_p32, List.forall_mem_cons.mpr ⟨lw_p33, List.forall_mem_cons.mpr ⟨lw_p34, List.forall_mem_cons.mpr ⟨lw_p35, List.forall_mem_cons.mpr ⟨lw_p36, List.forall_mem_cons.mpr ⟨lw_p37, List.forall_mem_cons.mpr ⟨lw_p38, List.forall_mem_cons.mpr ⟨lw_p39, List.forall_mem_cons.mpr ⟨lw_p40, List.forall_mem_cons.mpr ⟨lw_p41, List.forall_mem_cons.mpr ⟨lw_p42, List.forall_mem_cons.mpr ⟨lw_p43, List.forall_mem_cons.mpr ⟨lw_p44, List.forall_mem_cons.mpr ⟨lw_p45, List.forall_mem_cons.mpr ⟨lw_p46, List.forall_mem_cons.mpr ⟨lw_p47, fun _ h => absurd h List.not_mem_nil⟩⟩⟩⟩⟩⟩⟩⟩⟩⟩⟩⟩⟩⟩⟩⟩
def lw_privs : List (MethodName × Nat) := lw_privs_1 ++ (lw_privs_2 ++ (lw_privs_3))
def lw_tbl : List Cond := k2_sels lw_privs ++ tables_1
theorem lw_privs_ok : ∀ q ∈ lw_privs, lw_okq q := by
  show ∀ q ∈ lw_privs_1 ++ (lw_privs_2 ++ (lw_privs_3)), lw_okq q
  exact List.forall_mem_append.mpr ⟨lw_r1, List.forall_mem_append.mpr ⟨lw_r2, lw_r3⟩⟩
end
section
def RX0 : String := "RankWheels$Image"
def TX0 : u_T := fun k => match k with
  | 0 => ("RankWheels$Image", "line", "LRankWheels$Line;", true)
  | 1 => ("RankWheels$Image", "past", "LRankWheels$Past;", true)
  | _ => ("RankWheels$Image", "kept", "Z", false)
def tyX0 : Nat → FieldType := fun k => match k with
  | 0 => .object "RankWheels$Line"
  | 1 => .object "RankWheels$Past"
  | _ => .boolean
abbrev wsX00 : List Cond := u_ws RX0 TX0 3
theorem nmX0 : ∀ a, a < 3 → ∀ b, b < 3 → a ≠ b → (TX0 a).2.1 ≠ (TX0 b).2.1 := by decide +kernel
theorem tyX0_ok : ∀ k, k < 3 → parseFieldDescriptor (TX0 k).2.2.1 = some (tyX0 k) := by decide +kernel
abbrev cX0_init : ByteArray := prog_2_method_1_code
def yX0_init : MethodName := ⟨RX0, "<init>", "(LRankWheels$Men;)V"⟩
def RX1 : String := "RankWheels$Line"
def TX1 : u_T := fun k => match k with
  | 0 => ("RankWheels$Line", "men", "LRankWheels$Men;", true)
  | 1 => ("RankWheels$Line", "who", "[I", true)
  | 2 => ("RankWheels$Line", "inches", "[I", true)
  | 3 => ("RankWheels$Line", "foot", "[I", true)
  | 4 => ("RankWheels$Line", "pace", "I", false)
  | 5 => ("RankWheels$Line", "eye", "I", false)
  | 6 => ("RankWheels$Line", "elbow", "I", false)
  | _ => ("RankWheels$Line", "paces", "I", false)
def tyX1 : Nat → FieldType := fun k => match k with
  | 0 => .object "RankWheels$Men"
  | 1 => .array .int
  | 2 => .array .int
  | 3 => .array .int
  | 4 => .int
  | 5 => .int
  | 6 => .int
  | _ => .int
abbrev wsX10 : List Cond := u_ws RX1 TX1 8
theorem nmX1 : ∀ a, a < 8 → ∀ b, b < 8 → a ≠ b → (TX1 a).2.1 ≠ (TX1 b).2.1 := by decide +kernel
theorem tyX1_ok : ∀ k, k < 8 → parseFieldDescriptor (TX1 k).2.2.1 = some (tyX1 k) := by decide +kernel
abbrev cX1_init : ByteArray := prog_3_method_1_code
def yX1_init : MethodName := ⟨RX1, "<init>", "(LRankWheels$Men;)V"⟩
abbrev cX1_formUp : ByteArray := prog_3_method_2_code
def yX1_formUp : MethodName := ⟨RX1, "formUp", "(III)V"⟩
abbrev cX1_copyFrom : ByteArray := prog_3_method_3_code
def yX1_copyFrom : MethodName := ⟨RX1, "copyFrom", "(LRankWheels$Line;)V"⟩
abbrev cX1_placeOf : ByteArray := prog_3_method_4_code
def yX1_placeOf : MethodName := ⟨RX1, "placeOf", "(I)I"⟩
abbrev cX1_legAt : ByteArray := prog_3_method_5_code
def yX1_legAt : MethodName := ⟨RX1, "legAt", "(I)I"⟩
abbrev cX1_wants : ByteArray := prog_3_method_6_code
def yX1_wants : MethodName := ⟨RX1, "wants", "(I)I"⟩
abbrev cX1_lose : ByteArray := prog_3_method_7_code
def yX1_lose : MethodName := ⟨RX1, "lose", "(II)V"⟩
abbrev cX1_wheelOnce : ByteArray := prog_3_method_8_code
def yX1_wheelOnce : MethodName := ⟨RX1, "wheelOnce", "(I)Z"⟩
abbrev cX1_moveAll : ByteArray := prog_3_method_9_code
def yX1_moveAll : MethodName := ⟨RX1, "moveAll", "(I)Z"⟩
abbrev cX1_stepOf : ByteArray := prog_3_method_10_code
def yX1_stepOf : MethodName := ⟨RX1, "stepOf", "(IIII)I"⟩
abbrev cX1_changeFeet : ByteArray := prog_3_method_11_code
def yX1_changeFeet : MethodName := ⟨RX1, "changeFeet", "()V"⟩
abbrev cX1_bulge : ByteArray := prog_3_method_12_code
def yX1_bulge : MethodName := ⟨RX1, "bulge", "()I"⟩
abbrev cX1_bulgePlace : ByteArray := prog_3_method_13_code
def yX1_bulgePlace : MethodName := ⟨RX1, "bulgePlace", "()I"⟩
abbrev cX1_gapAt : ByteArray := prog_3_method_14_code
def yX1_gapAt : MethodName := ⟨RX1, "gapAt", "(I)I"⟩
abbrev cX1_feet : ByteArray := prog_3_method_15_code
def yX1_feet : MethodName := ⟨RX1, "feet", "()I"⟩
abbrev cX1_feetAlike : ByteArray := prog_3_method_16_code
def yX1_feetAlike : MethodName := ⟨RX1, "feetAlike", "()Z"⟩
abbrev cX1_placesInLine : ByteArray := prog_3_method_17_code
def yX1_placesInLine : MethodName := ⟨RX1, "placesInLine", "()I"⟩
abbrev cX1_pacesBehind : ByteArray := prog_3_method_18_code
def yX1_pacesBehind : MethodName := ⟨RX1, "pacesBehind", "(I)I"⟩
def RX2 : String := "RankWheels$Men"
def TX2 : u_T := fun k => match k with
  | 0 => ("RankWheels$Men", "number", "I", false)
  | 1 => ("RankWheels$Men", "leg", "[I", true)
  | _ => ("RankWheels$Men", "height", "[I", true)
def tyX2 : Nat → FieldType := fun k => match k with
  | 0 => .int
  | 1 => .array .int
  | _ => .array .int
abbrev wsX20 : List Cond := u_ws RX2 TX2 3
theorem nmX2 : ∀ a, a < 3 → ∀ b, b < 3 → a ≠ b → (TX2 a).2.1 ≠ (TX2 b).2.1 := by decide +kernel
theorem tyX2_ok : ∀ k, k < 3 → parseFieldDescriptor (TX2 k).2.2.1 = some (tyX2 k) := by decide +kernel
abbrev cX2_init : ByteArray := prog_4_method_1_code
def yX2_init : MethodName := ⟨RX2, "<init>", "()V"⟩
abbrev cX2_join : ByteArray := prog_4_method_2_code
def yX2_join : MethodName := ⟨RX2, "join", "(II)V"⟩
abbrev cX2_copyFrom : ByteArray := prog_4_method_3_code
def yX2_copyFrom : MethodName := ⟨RX2, "copyFrom", "(LRankWheels$Men;)V"⟩
def RX3 : String := "RankWheels$Ordering"
def TX3 : u_T := fun k => match k with
  | 0 => ("RankWheels$Ordering", "men", "LRankWheels$Men;", true)
  | 1 => ("RankWheels$Ordering", "standing", "[I", true)
  | 2 => ("RankWheels$Ordering", "pace", "I", false)
  | 3 => ("RankWheels$Ordering", "best", "[I", true)
  | 4 => ("RankWheels$Ordering", "leastAbove", "I", false)
  | _ => ("RankWheels$Ordering", "leastApart", "I", false)
def tyX3 : Nat → FieldType := fun k => match k with
  | 0 => .object "RankWheels$Men"
  | 1 => .array .int
  | 2 => .int
  | 3 => .array .int
  | 4 => .int
  | _ => .int
abbrev wsX30 : List Cond := u_ws RX3 TX3 6
theorem nmX3 : ∀ a, a < 6 → ∀ b, b < 6 → a ≠ b → (TX3 a).2.1 ≠ (TX3 b).2.1 := by decide +kernel
theorem tyX3_ok : ∀ k, k < 6 → parseFieldDescriptor (TX3 k).2.2.1 = some (tyX3 k) := by decide +kernel
abbrev cX3_init : ByteArray := prog_5_method_1_code
def yX3_init : MethodName := ⟨RX3, "<init>", "(LRankWheels$Men;)V"⟩
abbrev cX3_arrange : ByteArray := prog_5_method_2_code
def yX3_arrange : MethodName := ⟨RX3, "arrange", "(I)V"⟩
abbrev cX3_fillFrom : ByteArray := prog_5_method_3_code
def yX3_fillFrom : MethodName := ⟨RX3, "fillFrom", "(LRankWheels$Ordering;IIII)V"⟩
abbrev cX3_aboveLegAt : ByteArray := prog_5_method_4_code
def yX3_aboveLegAt : MethodName := ⟨RX3, "aboveLegAt", "(I)I"⟩
abbrev cX3_apartInwardOf : ByteArray := prog_5_method_5_code
def yX3_apartInwardOf : MethodName := ⟨RX3, "apartInwardOf", "(I)I"⟩
abbrev cX3_isBetter : ByteArray := prog_5_method_6_code
def yX3_isBetter : MethodName := ⟨RX3, "isBetter", "(II)Z"⟩
abbrev cX3_becomeBest : ByteArray := prog_5_method_7_code
def yX3_becomeBest : MethodName := ⟨RX3, "becomeBest", "(II)V"⟩
def RX4 : String := "RankWheels$Past"
def TX4 : u_T := fun k => match k with
  | 0 => ("RankWheels$Past", "known", "[LRankWheels$Line;", true)
  | _ => ("RankWheels$Past", "size", "I", false)
def tyX4 : Nat → FieldType := fun k => match k with
  | 0 => .array (.object "RankWheels$Line")
  | _ => .int
abbrev wsX40 : List Cond := u_ws RX4 TX4 2
theorem nmX4 : ∀ a, a < 2 → ∀ b, b < 2 → a ≠ b → (TX4 a).2.1 ≠ (TX4 b).2.1 := by decide +kernel
theorem tyX4_ok : ∀ k, k < 2 → parseFieldDescriptor (TX4 k).2.2.1 = some (tyX4 k) := by decide +kernel
abbrev cX4_init : ByteArray := prog_6_method_1_code
def yX4_init : MethodName := ⟨RX4, "<init>", "(LRankWheels$Men;)V"⟩
abbrev cX4_remember : ByteArray := prog_6_method_2_code
def yX4_remember : MethodName := ⟨RX4, "remember", "(LRankWheels$Line;)V"⟩
abbrev cX4_loseOldest : ByteArray := prog_6_method_3_code
def yX4_loseOldest : MethodName := ⟨RX4, "loseOldest", "()V"⟩
abbrev cX4_takeBack : ByteArray := prog_6_method_4_code
def yX4_takeBack : MethodName := ⟨RX4, "takeBack", "(LRankWheels$Line;)V"⟩
abbrev cX4_copyFrom : ByteArray := prog_6_method_5_code
def yX4_copyFrom : MethodName := ⟨RX4, "copyFrom", "(LRankWheels$Past;)V"⟩
def RX5 : String := "RankWheels$Sightings"
def TX5 : u_T := fun k => match k with
  | 0 => ("RankWheels$Sightings", "size", "I", false)
  | 1 => ("RankWheels$Sightings", "place", "[I", true)
  | 2 => ("RankWheels$Sightings", "pace", "[I", true)
  | _ => ("RankWheels$Sightings", "inches", "[I", true)
def tyX5 : Nat → FieldType := fun k => match k with
  | 0 => .int
  | 1 => .array .int
  | 2 => .array .int
  | _ => .array .int
abbrev wsX50 : List Cond := u_ws RX5 TX5 4
theorem nmX5 : ∀ a, a < 4 → ∀ b, b < 4 → a ≠ b → (TX5 a).2.1 ≠ (TX5 b).2.1 := by decide +kernel
theorem tyX5_ok : ∀ k, k < 4 → parseFieldDescriptor (TX5 k).2.2.1 = some (tyX5 k) := by decide +kernel
abbrev cX5_init : ByteArray := prog_7_method_1_code
def yX5_init : MethodName := ⟨RX5, "<init>", "()V"⟩
abbrev cX5_note : ByteArray := prog_7_method_2_code
def yX5_note : MethodName := ⟨RX5, "note", "(III)V"⟩
abbrev cX5_lastPace : ByteArray := prog_7_method_3_code
def yX5_lastPace : MethodName := ⟨RX5, "lastPace", "()I"⟩
abbrev cX5_fit : ByteArray := prog_7_method_4_code
def yX5_fit : MethodName := ⟨RX5, "fit", "(LRankWheels$Line;I)Z"⟩
def RX6 : String := "RankWheels$Telling"
def TX6 : u_T := fun k => match k with
  | 0 => ("RankWheels$Telling", "men", "LRankWheels$Men;", true)
  | 1 => ("RankWheels$Telling", "pace", "I", false)
  | 2 => ("RankWheels$Telling", "eye", "I", false)
  | 3 => ("RankWheels$Telling", "elbow", "I", false)
  | 4 => ("RankWheels$Telling", "items", "I", false)
  | 5 => ("RankWheels$Telling", "start", "I", false)
  | 6 => ("RankWheels$Telling", "text", "[I", false)
  | 7 => ("RankWheels$Telling", "length", "I", false)
  | 8 => ("RankWheels$Telling", "at", "I", false)
  | 9 => ("RankWheels$Telling", "token", "I", false)
  | 10 => ("RankWheels$Telling", "value", "I", false)
  | 11 => ("RankWheels$Telling", "due", "I", false)
  | _ => ("RankWheels$Telling", "leg", "I", false)
def tyX6 : Nat → FieldType := fun k => match k with
  | 0 => .object "RankWheels$Men"
  | 1 => .int
  | 2 => .int
  | 3 => .int
  | 4 => .int
  | 5 => .int
  | 6 => .array .int
  | 7 => .int
  | 8 => .int
  | 9 => .int
  | 10 => .int
  | 11 => .int
  | _ => .int
abbrev wsX60 : List Cond := u_ws RX6 TX6 13
theorem nmX6 : ∀ a, a < 13 → ∀ b, b < 13 → a ≠ b → (TX6 a).2.1 ≠ (TX6 b).2.1 := by decide +kernel
theorem tyX6_ok : ∀ k, k < 13 → parseFieldDescriptor (TX6 k).2.2.1 = some (tyX6 k) := by decide +kernel
abbrev cX6_init : ByteArray := prog_8_method_1_code
def yX6_init : MethodName := ⟨RX6, "<init>", "()V"⟩
abbrev cX6_understands : ByteArray := prog_8_method_2_code
def yX6_understands : MethodName := ⟨RX6, "understands", "([II)Z"⟩
abbrev cX6_toldOr : ByteArray := prog_8_method_3_code
def yX6_toldOr : MethodName := ⟨RX6, "toldOr", "(II)I"⟩
abbrev cX6_beginWith : ByteArray := prog_8_method_4_code
def yX6_beginWith : MethodName := ⟨RX6, "beginWith", "([II)V"⟩
abbrev cX6_tokenStands : ByteArray := prog_8_method_5_code
def yX6_tokenStands : MethodName := ⟨RX6, "tokenStands", "()Z"⟩
abbrev cX6_beginsItem : ByteArray := prog_8_method_6_code
def yX6_beginsItem : MethodName := ⟨RX6, "beginsItem", "()Z"⟩
abbrev cX6_endsMan : ByteArray := prog_8_method_7_code
def yX6_endsMan : MethodName := ⟨RX6, "endsMan", "(I)Z"⟩
abbrev cX6_endsItem : ByteArray := prog_8_method_8_code
def yX6_endsItem : MethodName := ⟨RX6, "endsItem", "()Z"⟩
abbrev cX6_numberWithin : ByteArray := prog_8_method_9_code
def yX6_numberWithin : MethodName := ⟨RX6, "numberWithin", "(II)I"⟩
abbrev cX6_readToken : ByteArray := prog_8_method_10_code
def yX6_readToken : MethodName := ⟨RX6, "readToken", "()V"⟩
abbrev cX6_readLetters : ByteArray := prog_8_method_11_code
def yX6_readLetters : MethodName := ⟨RX6, "readLetters", "()V"⟩
abbrev cX6_readDigits : ByteArray := prog_8_method_12_code
def yX6_readDigits : MethodName := ⟨RX6, "readDigits", "()V"⟩
abbrev cX6_isLetter : ByteArray := prog_8_method_13_code
def yX6_isLetter : MethodName := ⟨RX6, "isLetter", "(I)Z"⟩
abbrev cX6_isDigit : ByteArray := prog_8_method_14_code
def yX6_isDigit : MethodName := ⟨RX6, "isDigit", "(I)Z"⟩
def RX7 : String := "RankWheels"
def TX7 : u_T := fun k => match k with
  | 0 => ("RankWheels", "text", "[I", true)
  | 1 => ("RankWheels", "bytes", "I", false)
  | 2 => ("RankWheels", "telling", "LRankWheels$Telling;", true)
  | 3 => ("RankWheels", "men", "LRankWheels$Men;", true)
  | 4 => ("RankWheels", "line", "LRankWheels$Line;", true)
  | 5 => ("RankWheels", "ahead", "LRankWheels$Line;", true)
  | 6 => ("RankWheels", "past", "LRankWheels$Past;", true)
  | 7 => ("RankWheels", "images", "[LRankWheels$Image;", true)
  | 8 => ("RankWheels", "sightings", "LRankWheels$Sightings;", true)
  | 9 => ("RankWheels", "ordering", "LRankWheels$Ordering;", true)
  | _ => ("RankWheels", "traced", "J", false)
def tyX7 : Nat → FieldType := fun k => match k with
  | 0 => .array .int
  | 1 => .int
  | 2 => .object "RankWheels$Telling"
  | 3 => .object "RankWheels$Men"
  | 4 => .object "RankWheels$Line"
  | 5 => .object "RankWheels$Line"
  | 6 => .object "RankWheels$Past"
  | 7 => .array (.object "RankWheels$Image")
  | 8 => .object "RankWheels$Sightings"
  | 9 => .object "RankWheels$Ordering"
  | _ => .long
abbrev wsX70 : List Cond := u_ws RX7 TX7 11
theorem nmX7 : ∀ a, a < 11 → ∀ b, b < 11 → a ≠ b → (TX7 a).2.1 ≠ (TX7 b).2.1 := by decide +kernel
theorem tyX7_ok : ∀ k, k < 11 → parseFieldDescriptor (TX7 k).2.2.1 = some (tyX7 k) := by decide +kernel
abbrev cX7_init : ByteArray := prog_1_method_1_code
def yX7_init : MethodName := ⟨RX7, "<init>", "()V"⟩
abbrev cX7_type : ByteArray := prog_1_method_2_code
def yX7_type : MethodName := ⟨RX7, "type", "(I)I"⟩
abbrev cX7_clear : ByteArray := prog_1_method_3_code
def yX7_clear : MethodName := ⟨RX7, "clear", "()I"⟩
abbrev cX7_rank : ByteArray := prog_1_method_4_code
def yX7_rank : MethodName := ⟨RX7, "rank", "()I"⟩
abbrev cX7_man : ByteArray := prog_1_method_5_code
def yX7_man : MethodName := ⟨RX7, "man", "(II)I"⟩
abbrev cX7_place : ByteArray := prog_1_method_6_code
def yX7_place : MethodName := ⟨RX7, "place", "(II)I"⟩
abbrev cX7_wheels : ByteArray := prog_1_method_7_code
def yX7_wheels : MethodName := ⟨RX7, "wheels", "()I"⟩
abbrev cX7_slips : ByteArray := prog_1_method_8_code
def yX7_slips : MethodName := ⟨RX7, "slips", "(II)I"⟩
abbrev cX7_hops : ByteArray := prog_1_method_9_code
def yX7_hops : MethodName := ⟨RX7, "hops", "(I)I"⟩
abbrev cX7_swaps : ByteArray := prog_1_method_10_code
def yX7_swaps : MethodName := ⟨RX7, "swaps", "(II)I"⟩
abbrev cX7_minds : ByteArray := prog_1_method_11_code
def yX7_minds : MethodName := ⟨RX7, "minds", "(II)I"⟩
abbrev cX7_speeds : ByteArray := prog_1_method_12_code
def yX7_speeds : MethodName := ⟨RX7, "speeds", "(I)I"⟩
abbrev cX7_undo : ByteArray := prog_1_method_13_code
def yX7_undo : MethodName := ⟨RX7, "undo", "()I"⟩
abbrev cX7_now : ByteArray := prog_1_method_14_code
def yX7_now : MethodName := ⟨RX7, "now", "(I)I"⟩
abbrev cX7_dressed : ByteArray := prog_1_method_15_code
def yX7_dressed : MethodName := ⟨RX7, "dressed", "()I"⟩
abbrev cX7_looks : ByteArray := prog_1_method_16_code
def yX7_looks : MethodName := ⟨RX7, "looks", "(II)I"⟩
abbrev cX7_mix : ByteArray := prog_1_method_17_code
def yX7_mix : MethodName := ⟨RX7, "mix", "(I)I"⟩
abbrev cX7_fastest : ByteArray := prog_1_method_18_code
def yX7_fastest : MethodName := ⟨RX7, "fastest", "()I"⟩
abbrev cX7_order : ByteArray := prog_1_method_19_code
def yX7_order : MethodName := ⟨RX7, "order", "(I)I"⟩
abbrev cX7_inStep : ByteArray := prog_1_method_20_code
def yX7_inStep : MethodName := ⟨RX7, "inStep", "()I"⟩
abbrev cX7_behind : ByteArray := prog_1_method_21_code
def yX7_behind : MethodName := ⟨RX7, "behind", "(I)I"⟩
abbrev cX7_post : ByteArray := prog_1_method_22_code
def yX7_post : MethodName := ⟨RX7, "post", "(II)I"⟩
abbrev cX7_odds : ByteArray := prog_1_method_23_code
def yX7_odds : MethodName := ⟨RX7, "odds", "(III)I"⟩
abbrev cX7_saw : ByteArray := prog_1_method_24_code
def yX7_saw : MethodName := ⟨RX7, "saw", "(III)I"⟩
abbrev cX7_forget : ByteArray := prog_1_method_25_code
def yX7_forget : MethodName := ⟨RX7, "forget", "()I"⟩
abbrev cX7_whose : ByteArray := prog_1_method_26_code
def yX7_whose : MethodName := ⟨RX7, "whose", "(I)I"⟩
abbrev cX7_rate : ByteArray := prog_1_method_27_code
def yX7_rate : MethodName := ⟨RX7, "rate", "(II)I"⟩
abbrev cX7_keep : ByteArray := prog_1_method_28_code
def yX7_keep : MethodName := ⟨RX7, "keep", "(I)I"⟩
abbrev cX7_back : ByteArray := prog_1_method_29_code
def yX7_back : MethodName := ⟨RX7, "back", "(I)I"⟩
abbrev cX7_count : ByteArray := prog_1_method_30_code
def yX7_count : MethodName := ⟨RX7, "count", "(I)I"⟩
abbrev cX7_trace : ByteArray := prog_1_method_31_code
def yX7_trace : MethodName := ⟨RX7, "trace", "()J"⟩
abbrev cX7_within : ByteArray := prog_1_method_32_code
def yX7_within : MethodName := ⟨RX7, "within", "(III)Z"⟩
abbrev cX7_isPlace : ByteArray := prog_1_method_33_code
def yX7_isPlace : MethodName := ⟨RX7, "isPlace", "(I)Z"⟩
abbrev cX7_bothMinds : ByteArray := prog_1_method_34_code
def yX7_bothMinds : MethodName := ⟨RX7, "bothMinds", "(II)I"⟩
abbrev cX7_wanted : ByteArray := prog_1_method_35_code
def yX7_wanted : MethodName := ⟨RX7, "wanted", "(III)I"⟩
abbrev cX7_lookAhead : ByteArray := prog_1_method_36_code
def yX7_lookAhead : MethodName := ⟨RX7, "lookAhead", "(II)V"⟩
abbrev cX7_pacesTillDressed : ByteArray := prog_1_method_37_code
def yX7_pacesTillDressed : MethodName := ⟨RX7, "pacesTillDressed", "(III)I"⟩
abbrev cX7_allCanStride : ByteArray := prog_1_method_38_code
def yX7_allCanStride : MethodName := ⟨RX7, "allCanStride", "(I)Z"⟩
abbrev cX7_waysInTenths : ByteArray := prog_1_method_39_code
def yX7_waysInTenths : MethodName := ⟨RX7, "waysInTenths", "(III)I"⟩
abbrev cX7_power : ByteArray := prog_1_method_40_code
def yX7_power : MethodName := ⟨RX7, "power", "(II)I"⟩
abbrev cX7_greatestDivisor : ByteArray := prog_1_method_41_code
def yX7_greatestDivisor : MethodName := ⟨RX7, "greatestDivisor", "(II)I"⟩
abbrev cX7_tellsAllSeen : ByteArray := prog_1_method_42_code
def yX7_tellsAllSeen : MethodName := ⟨RX7, "tellsAllSeen", "(II)Z"⟩
abbrev cX7_rateOfStep : ByteArray := prog_1_method_43_code
def yX7_rateOfStep : MethodName := ⟨RX7, "rateOfStep", "(I)I"⟩
abbrev cX7_rateOfShort : ByteArray := prog_1_method_44_code
def yX7_rateOfShort : MethodName := ⟨RX7, "rateOfShort", "(I)I"⟩
abbrev cX7_rateOfSeen : ByteArray := prog_1_method_45_code
def yX7_rateOfSeen : MethodName := ⟨RX7, "rateOfSeen", "(I)I"⟩
abbrev cX7_rateOfMarked : ByteArray := prog_1_method_46_code
def yX7_rateOfMarked : MethodName := ⟨RX7, "rateOfMarked", "(I)I"⟩
abbrev cX7_rateOfBulging : ByteArray := prog_1_method_47_code
def yX7_rateOfBulging : MethodName := ⟨RX7, "rateOfBulging", "(I)I"⟩
abbrev cX7_rateOfHopped : ByteArray := prog_1_method_48_code
def yX7_rateOfHopped : MethodName := ⟨RX7, "rateOfHopped", "(I)I"⟩
def RX8 : String := "RankWheelsModel"
def TX8 : u_T := fun k => match k with
  | 0 => ("RankWheelsModel", "trace", "J", false)
  | 1 => ("RankWheelsModel", "text", "[B", true)
  | 2 => ("RankWheelsModel", "typed", "I", false)
  | 3 => ("RankWheelsModel", "men", "[I", true)
  | 4 => ("RankWheelsModel", "leg", "[I", true)
  | 5 => ("RankWheelsModel", "height", "[I", true)
  | 6 => ("RankWheelsModel", "law", "[I", true)
  | 7 => ("RankWheelsModel", "at", "I", false)
  | 8 => ("RankWheelsModel", "start", "I", false)
  | 9 => ("RankWheelsModel", "sort", "I", false)
  | 10 => ("RankWheelsModel", "value", "I", false)
  | 11 => ("RankWheelsModel", "fault", "I", false)
  | 12 => ("RankWheelsModel", "toldLaws", "I", false)
  | 13 => ("RankWheelsModel", "now", "[I", true)
  | 14 => ("RankWheelsModel", "isKept", "[Z", true)
  | 15 => ("RankWheelsModel", "tried", "[I", true)
  | 16 => ("RankWheelsModel", "then", "[I", true)
  | 17 => ("RankWheelsModel", "bestAbove", "I", false)
  | 18 => ("RankWheelsModel", "bestApart", "I", false)
  | 19 => ("RankWheelsModel", "bestRow", "I", false)
  | 20 => ("RankWheelsModel", "seenAt", "[I", true)
  | 21 => ("RankWheelsModel", "seenBehind", "[I", true)
  | 22 => ("RankWheelsModel", "seenInches", "[I", true)
  | _ => ("RankWheelsModel", "seen", "I", false)
def tyX8 : Nat → FieldType := fun k => match k with
  | 0 => .long
  | 1 => .array .byte
  | 2 => .int
  | 3 => .array .int
  | 4 => .array .int
  | 5 => .array .int
  | 6 => .array .int
  | 7 => .int
  | 8 => .int
  | 9 => .int
  | 10 => .int
  | 11 => .int
  | 12 => .int
  | 13 => .array .int
  | 14 => .array .boolean
  | 15 => .array .int
  | 16 => .array .int
  | 17 => .int
  | 18 => .int
  | 19 => .int
  | 20 => .array .int
  | 21 => .array .int
  | 22 => .array .int
  | _ => .int
abbrev wsX80 : List Cond := u_ws RX8 TX8 24
theorem nmX8 : ∀ a, a < 24 → ∀ b, b < 24 → a ≠ b → (TX8 a).2.1 ≠ (TX8 b).2.1 := by decide +kernel
theorem tyX8_ok : ∀ k, k < 24 → parseFieldDescriptor (TX8 k).2.2.1 = some (tyX8 k) := by decide +kernel
abbrev cX8_init : ByteArray := prog_10_method_1_code
def yX8_init : MethodName := ⟨RX8, "<init>", "()V"⟩
abbrev cX8_in : ByteArray := prog_10_method_3_code
def yX8_in : MethodName := ⟨RX8, "in", "(III)Z"⟩
abbrev cX8_type : ByteArray := prog_10_method_4_code
def yX8_type : MethodName := ⟨RX8, "type", "(I)I"⟩
abbrev cX8_clear : ByteArray := prog_10_method_5_code
def yX8_clear : MethodName := ⟨RX8, "clear", "()I"⟩
abbrev cX8_here : ByteArray := prog_10_method_6_code
def yX8_here : MethodName := ⟨RX8, "here", "()I"⟩
abbrev cX8_step : ByteArray := prog_10_method_7_code
def yX8_step : MethodName := ⟨RX8, "step", "()V"⟩
abbrev cX8_due : ByteArray := prog_10_method_8_code
def yX8_due : MethodName := ⟨RX8, "due", "(Z)I"⟩
abbrev cX8_number : ByteArray := prog_10_method_9_code
def yX8_number : MethodName := ⟨RX8, "number", "(II)I"⟩
abbrev cX8_lawOf : ByteArray := prog_10_method_10_code
def yX8_lawOf : MethodName := ⟨RX8, "lawOf", "(I)I"⟩
abbrev cX8_mayBe : ByteArray := prog_10_method_11_code
def yX8_mayBe : MethodName := ⟨RX8, "mayBe", "(I)Z"⟩
abbrev cX8_readRow : ByteArray := prog_10_method_12_code
def yX8_readRow : MethodName := ⟨RX8, "readRow", "(I)V"⟩
abbrev cX8_plain : ByteArray := prog_10_method_13_code
def yX8_plain : MethodName := ⟨RX8, "plain", "()V"⟩
abbrev cX8_takeDraft : ByteArray := prog_10_method_14_code
def yX8_takeDraft : MethodName := ⟨RX8, "takeDraft", "()V"⟩
abbrev cX8_rank : ByteArray := prog_10_method_15_code
def yX8_rank : MethodName := ⟨RX8, "rank", "()I"⟩
abbrev cX8_isPlace : ByteArray := prog_10_method_16_code
def yX8_isPlace : MethodName := ⟨RX8, "isPlace", "(I)Z"⟩
abbrev cX8_wants : ByteArray := prog_10_method_17_code
def yX8_wants : MethodName := ⟨RX8, "wants", "([III)I"⟩
abbrev cX8_man : ByteArray := prog_10_method_18_code
def yX8_man : MethodName := ⟨RX8, "man", "(II)I"⟩
abbrev cX8_place : ByteArray := prog_10_method_19_code
def yX8_place : MethodName := ⟨RX8, "place", "(II)I"⟩
abbrev cX8_take : ByteArray := prog_10_method_20_code
def yX8_take : MethodName := ⟨RX8, "take", "()V"⟩
abbrev cX8_held : ByteArray := prog_10_method_21_code
def yX8_held : MethodName := ⟨RX8, "held", "(I)I"⟩
abbrev cX8_pace : ByteArray := prog_10_method_22_code
def yX8_pace : MethodName := ⟨RX8, "pace", "([II)V"⟩
abbrev cX8_hopAll : ByteArray := prog_10_method_23_code
def yX8_hopAll : MethodName := ⟨RX8, "hopAll", "([I)V"⟩
abbrev cX8_apart : ByteArray := prog_10_method_24_code
def yX8_apart : MethodName := ⟨RX8, "apart", "([II)I"⟩
abbrev cX8_bulge : ByteArray := prog_10_method_25_code
def yX8_bulge : MethodName := ⟨RX8, "bulge", "([I)I"⟩
abbrev cX8_bulgeAt : ByteArray := prog_10_method_26_code
def yX8_bulgeAt : MethodName := ⟨RX8, "bulgeAt", "([I)I"⟩
abbrev cX8_know : ByteArray := prog_10_method_27_code
def yX8_know : MethodName := ⟨RX8, "know", "()V"⟩
abbrev cX8_wheels : ByteArray := prog_10_method_28_code
def yX8_wheels : MethodName := ⟨RX8, "wheels", "()I"⟩
abbrev cX8_slips : ByteArray := prog_10_method_29_code
def yX8_slips : MethodName := ⟨RX8, "slips", "(II)I"⟩
abbrev cX8_hops : ByteArray := prog_10_method_30_code
def yX8_hops : MethodName := ⟨RX8, "hops", "(I)I"⟩
abbrev cX8_swaps : ByteArray := prog_10_method_31_code
def yX8_swaps : MethodName := ⟨RX8, "swaps", "(II)I"⟩
abbrev cX8_minds : ByteArray := prog_10_method_32_code
def yX8_minds : MethodName := ⟨RX8, "minds", "(II)I"⟩
abbrev cX8_speeds : ByteArray := prog_10_method_33_code
def yX8_speeds : MethodName := ⟨RX8, "speeds", "(I)I"⟩
abbrev cX8_undo : ByteArray := prog_10_method_34_code
def yX8_undo : MethodName := ⟨RX8, "undo", "()I"⟩
abbrev cX8_now : ByteArray := prog_10_method_35_code
def yX8_now : MethodName := ⟨RX8, "now", "(I)I"⟩
abbrev cX8_isDressed : ByteArray := prog_10_method_36_code
def yX8_isDressed : MethodName := ⟨RX8, "isDressed", "()Z"⟩
abbrev cX8_dressedBy : ByteArray := prog_10_method_37_code
def yX8_dressedBy : MethodName := ⟨RX8, "dressedBy", "(II)I"⟩
abbrev cX8_dressed : ByteArray := prog_10_method_38_code
def yX8_dressed : MethodName := ⟨RX8, "dressed", "()I"⟩
abbrev cX8_looks : ByteArray := prog_10_method_39_code
def yX8_looks : MethodName := ⟨RX8, "looks", "(II)I"⟩
abbrev cX8_mix : ByteArray := prog_10_method_40_code
def yX8_mix : MethodName := ⟨RX8, "mix", "(I)I"⟩
abbrev cX8_fastest : ByteArray := prog_10_method_41_code
def yX8_fastest : MethodName := ⟨RX8, "fastest", "()I"⟩
abbrev cX8_look : ByteArray := prog_10_method_42_code
def yX8_look : MethodName := ⟨RX8, "look", "(I)V"⟩
abbrev cX8_order : ByteArray := prog_10_method_43_code
def yX8_order : MethodName := ⟨RX8, "order", "(I)I"⟩
abbrev cX8_inStep : ByteArray := prog_10_method_44_code
def yX8_inStep : MethodName := ⟨RX8, "inStep", "()I"⟩
abbrev cX8_behind : ByteArray := prog_10_method_45_code
def yX8_behind : MethodName := ⟨RX8, "behind", "(I)I"⟩
abbrev cX8_post : ByteArray := prog_10_method_46_code
def yX8_post : MethodName := ⟨RX8, "post", "(II)I"⟩
abbrev cX8_odds : ByteArray := prog_10_method_47_code
def yX8_odds : MethodName := ⟨RX8, "odds", "(III)I"⟩
abbrev cX8_saw : ByteArray := prog_10_method_48_code
def yX8_saw : MethodName := ⟨RX8, "saw", "(III)I"⟩
abbrev cX8_forget : ByteArray := prog_10_method_49_code
def yX8_forget : MethodName := ⟨RX8, "forget", "()I"⟩
abbrev cX8_isSo : ByteArray := prog_10_method_50_code
def yX8_isSo : MethodName := ⟨RX8, "isSo", "(II)Z"⟩
abbrev cX8_whose : ByteArray := prog_10_method_51_code
def yX8_whose : MethodName := ⟨RX8, "whose", "(I)I"⟩
abbrev cX8_rate : ByteArray := prog_10_method_52_code
def yX8_rate : MethodName := ⟨RX8, "rate", "(II)I"⟩
abbrev cX8_keep : ByteArray := prog_10_method_53_code
def yX8_keep : MethodName := ⟨RX8, "keep", "(I)I"⟩
abbrev cX8_back : ByteArray := prog_10_method_54_code
def yX8_back : MethodName := ⟨RX8, "back", "(I)I"⟩
abbrev cX8_count : ByteArray := prog_10_method_55_code
def yX8_count : MethodName := ⟨RX8, "count", "(I)I"⟩
abbrev cX8_trace : ByteArray := prog_10_method_56_code
def yX8_trace : MethodName := ⟨RX8, "trace", "()J"⟩
def RL : String := "RankWheelsLaw"
abbrev cL_law : ByteArray := code
abbrev vwCl : List vw_C := [(RX0, TX0, 3), (RX1, TX1, 8), (RX2, TX2, 3), (RX3, TX3, 6), (RX4, TX4, 2), (RX5, TX5, 4), (RX6, TX6, 13), (RX7, TX7, 11), (RX8, TX8, 24)]
/-- the words that may go down to a callee, the same for all methods -/
def zTs : List Cond := lw_tbl.filter goodWord
theorem zTs_in {w : Cond} (n : Nat) (h : lw_tbl[n]? = some w) (hg : goodWord w = true) : w ∈ zTs := List.mem_filter.mpr ⟨List.mem_of_getElem? h, hg⟩
theorem zTs_good {big : List Cond} (h : ∀ w ∈ zTs, w ∈ big) : GoodIn big zTs := fun w hw => ⟨h w hw, good_of_word (List.mem_filter.mp hw).2⟩
set_option maxRecDepth 20000 in
theorem zX0 : ∀ w ∈ wsX00, w ∈ zTs := fun w h => List.mem_filter.mpr ((by decide +kernel : ∀ w ∈ wsX00, w ∈ lw_tbl ∧ goodWord w = true) w h)
set_option maxRecDepth 20000 in
theorem zX1 : ∀ w ∈ wsX10, w ∈ zTs := fun w h => List.mem_filter.mpr ((by decide +kernel : ∀ w ∈ wsX10, w ∈ lw_tbl ∧ goodWord w = true) w h)
set_option maxRecDepth 20000 in
theorem zX2 : ∀ w ∈ wsX20, w ∈ zTs := fun w h => List.mem_filter.mpr ((by decide +kernel : ∀ w ∈ wsX20, w ∈ lw_tbl ∧ goodWord w = true) w h)
set_option maxRecDepth 20000 in
theorem zX3 : ∀ w ∈ wsX30, w ∈ zTs := fun w h => List.mem_filter.mpr ((by decide +kernel : ∀ w ∈ wsX30, w ∈ lw_tbl ∧ goodWord w = true) w h)
set_option maxRecDepth 20000 in
theorem zX4 : ∀ w ∈ wsX40, w ∈ zTs := fun w h => List.mem_filter.mpr ((by decide +kernel : ∀ w ∈ wsX40, w ∈ lw_tbl ∧ goodWord w = true) w h)
set_option maxRecDepth 20000 in
theorem zX5 : ∀ w ∈ wsX50, w ∈ zTs := fun w h => List.mem_filter.mpr ((by decide +kernel : ∀ w ∈ wsX50, w ∈ lw_tbl ∧ goodWord w = true) w h)
set_option maxRecDepth 20000 in
theorem zX6 : ∀ w ∈ wsX60, w ∈ zTs := fun w h => List.mem_filter.mpr ((by decide +kernel : ∀ w ∈ wsX60, w ∈ lw_tbl ∧ goodWord w = true) w h)
set_option maxRecDepth 20000 in
theorem zX7 : ∀ w ∈ wsX70, w ∈ zTs := fun w h => List.mem_filter.mpr ((by decide +kernel : ∀ w ∈ wsX70, w ∈ lw_tbl ∧ goodWord w = true) w h)
set_option maxRecDepth 20000 in
theorem zX8 : ∀ w ∈ wsX80, w ∈ zTs := fun w h => List.mem_filter.mpr ((by decide +kernel : ∀ w ∈ wsX80, w ∈ lw_tbl ∧ goodWord w = true) w h)
end
section
/-! ===== the small machine: values, cells, worlds; a reference is a place of the world, 'ad' its address ===== -/
abbrev zCell : Type := (Nat × Nat × (Nat → Int32)) ⊕ ((Nat × List (Option Nat)) ⊕ (Nat × List Value))
abbrev zW : Type := List zCell
abbrev zI : Type := Instr × Int32 × Nat × List Nat
abbrev zP : Type := Option Value → zW → Prop
abbrev zK : Type := Nat → List (Option Value) → List Value → zW → Prop
abbrev zG : Type := List Value → zW → zP → Prop
abbrev zM : Type := List (Option zI) × List (Nat × Nat × Nat × FieldType) × List (Nat × Nat × Nat × FieldType) × List (Nat × Int32) × List (Nat × Int64) × List (Nat × Nat) × List (Nat × Nat × zG) × List (Nat × Nat × zG)
def zv (ad : Nat → Nat) (v : Value) : Value := match v with
  | .int x => .int x
  | .long x => .long x
  | .float x => .float x
  | .double x => .double x
  | .null => .null
  | .ref k => .ref (ad k)
  | .retAddr x => .retAddr x
theorem zv_cat (ad : Nat → Nat) (v : Value) : (zv ad v).category = v.category := by cases v <;> rfl
def zc (cy : Nat → ClassId) (ad : Nat → Nat) (c : zCell) : va_E := match c with
  | .inl a => .inl (cy a.1, a.2.1, .inl a.2.2)
  | .inr (.inl a) => .inl (cy a.1, a.2.length, .inr (.inr (.inr (.inr (fun i => ((a.2[i]?).getD none).map ad)))))
  | .inr (.inr o) => .inr (o.1, o.2.map (zv ad))
def zws (cy : Nat → ClassId) (ad : Nat → Nat) (ws : zW) : va_W := ws.mapIdx (fun k c => (ad k, zc cy ad c))
theorem zws_get {cy : Nat → ClassId} {ad : Nat → Nat} {ws : zW} {k : Nat} {c : zCell} (h : ws[k]? = some c) : (zws cy ad ws)[k]? = some (ad k, zc cy ad c) := by
  simp [zws, List.getElem?_mapIdx, h]
theorem zws_inv {cy : Nat → ClassId} {ad : Nat → Nat} {ws : zW} {k : Nat} {q : Nat × va_E} (h : (zws cy ad ws)[k]? = some q) : ∃ c, ws[k]? = some c ∧ q = (ad k, zc cy ad c) := by
  rw [zws, List.getElem?_mapIdx] at h
  cases hw : ws[k]? with
  | none => rw [hw] at h; cases h
  | some c => rw [hw] at h; exact ⟨c, rfl, (Option.some.inj h).symm⟩
theorem zws_set (cy : Nat → ClassId) (ad : Nat → Nat) (ws : zW) (k : Nat) (c : zCell) : zws cy ad (ws.set k c) = (zws cy ad ws).set k (ad k, zc cy ad c) := by
  apply List.ext_getElem?
  intro i
  simp only [zws, List.getElem?_mapIdx, List.getElem?_set, List.length_mapIdx]
  by_cases h : k = i
  · subst h
    by_cases h2 : k < ws.length
    · simp [h2]
    · simp [h2]
  · simp [h]
def zT (cy : Nat → ClassId) : List (ClassId × FieldType) := [(cy 0, .int), (cy 1, .byte), (cy 2, .boolean), (cy 3, .object "RankWheels$Image"), (cy 4, .object "RankWheels$Line")]
/-- the links to private members of nest mates -/
def zN : List Jvm.Cond := [.methodLinkNest RX7 15 yX6_init RX7, .methodLinkNest RX7 22 yX2_init RX7, .methodLinkNest RX7 54 yX5_init RX7, .methodLinkNest RX1 52 yX7_wanted RX7, .methodLinkNest RX3 59 yX7_wanted RX7, .methodLinkNest RX6 11 yX2_init RX7, .methodLinkNest RX6 90 yX7_within RX7]
def zKK (D : va_G) (cy : Nat → ClassId) (U : State) : Prop := va_K D vwCl (zT cy) U ∧ ∀ w ∈ zN, va_Nw w U
theorem zKK.warm {D : va_G} {cy : Nat → ClassId} {s U : State} (h : zKK D cy s) (hW : s.WarmedH U.vm) : zKK D cy U := by
  refine ⟨va_K.moved hW.alike h.1, fun w hw => ?_⟩
  have h1 := h.2 w hw
  simp only [zN, List.mem_cons, List.not_mem_nil, or_false] at hw
  rcases hw with rfl | rfl | rfl | rfl | rfl | rfl | rfl <;> exact va_Nw.warmM hW h1
theorem zKK.calling {D : va_G} {cy : Nat → ClassId} {U : State} {g : JFrame} {mk : MethodId} {a : Array Value} (h : zKK D cy U) : zKK D cy (U.calling g mk a) := by
  refine ⟨va_K.moved (u := U) (U := U.calling g mk a) (Vm.Alike.refl U.vm) h.1, fun w hw => ?_⟩
  have h1 := h.2 w hw
  simp only [zN, List.mem_cons, List.not_mem_nil, or_false] at hw
  rcases hw with rfl | rfl | rfl | rfl | rfl | rfl | rfl <;> exact va_Nw.same rfl rfl h1
/-! locals -/
def zLH (lsC : Array Slot) (nL : Nat) (ad : Nat → Nat) (ls : List (Option Value)) : Prop := lsC.size = nL ∧ lv_wf lsC ∧ ls.length = nL ∧ ∀ (i : Nat) (v : Value), ls[i]? = some (some v) → v.category = 1 → lsC[i]? = some (.val (zv ad v))
def zlist (ad : Nat → Nat) (ls : List (Option Value)) : List (Nat × Value) := (List.range ls.length).filterMap (fun j => match ls[j]? with
  | some (some w) => if w.category = 1 then some (j, zv ad w) else none
  | _ => none)
theorem zlist_mem {ad : Nat → Nat} {ls : List (Option Value)} {q : Nat × Value} : q ∈ zlist ad ls ↔ ∃ (j : Nat) (w : Value), ls[j]? = some (some w) ∧ w.category = 1 ∧ q = (j, zv ad w) := by
  constructor
  · intro h
    obtain ⟨j, -, h2⟩ := List.mem_filterMap.mp h
    split at h2
    · rename_i w hw
      split at h2
      · rename_i hc
        exact ⟨j, w, hw, hc, (Option.some.inj h2).symm⟩
      · cases h2
    · cases h2
  · rintro ⟨j, w, h1, h2, rfl⟩
    refine List.mem_filterMap.mpr ⟨j, List.mem_range.mpr (List.getElem?_eq_some_iff.mp h1).1, ?_⟩
    rw [h1]
    simp [h2]
theorem zLH.has {lsC : Array Slot} {nL : Nat} {ad : Nat → Nat} {ls : List (Option Value)} (h : zLH lsC nL ad ls) : lv_has lsC nL (zlist ad ls) := by
  refine ⟨h.1, h.2.1, fun q hq => ?_⟩
  obtain ⟨j, w, h1, h2, rfl⟩ := zlist_mem.mp hq
  exact h.2.2.2 j w h1 h2
theorem zLH.at {lsC : Array Slot} {nL : Nat} {ad : Nat → Nat} {ls : List (Option Value)} (h : zLH lsC nL ad ls) {i : Nat} {v : Value} (hv : ls[i]? = some (some v)) (hc : v.category = 1) : lsC[i]? = some (.val (zv ad v)) := h.2.2.2 i v hv hc
theorem zLH.put {ls' : Array Slot} {nL : Nat} {ad : Nat → Nat} {ls : List (Option Value)} {i : Nat} {v : Value} (hn : ls.length = nL) (hi : i < nL) (h : lv_has ls' nL ((i, zv ad v) :: (zlist ad ls).filter (fun q => !(q.1 == i) && !(q.1 + 1 == i && q.2.category == 2)))) : zLH ls' nL ad (ls.set i (some v)) := by
  refine ⟨h.1, h.2.1, by rw [List.length_set]; exact hn, fun j w hw hc => ?_⟩
  rw [List.getElem?_set] at hw
  by_cases hj : i = j
  · subst hj
    rw [if_pos rfl, if_pos (by omega)] at hw
    cases hw
    exact h.2.2 (i, zv ad v) List.mem_cons_self
  · rw [if_neg hj] at hw
    refine h.2.2 (j, zv ad w) (List.mem_cons_of_mem _ (List.mem_filter.mpr ⟨zlist_mem.mpr ⟨j, w, hw, hc, rfl⟩, ?_⟩))
    have hj2 : ¬ j = i := fun q => hj q.symm
    simp [hj2, zv_cat, hc]
def zOK (p : Program) (l : Launch) (e : Env) (R : Room) (s : State) (m : MethodId) (args : Array Value) (below : List Frame) (meth : Method) (c : Code) (nL : Nat) (D : va_G) (cy : Nat → ClassId) (ad : Nat → Nat) (A : Nat → Prop) (n0 : Nat) (cells slots : Nat) (Q : State → Prop) : zK := fun pc ls st ws =>
  ∀ (H : Heap) (locs : List Loc) (lsC : Array Slot), va_P D vwCl (zws cy ad ws) H → va_D A (zws cy ad ws) → va_S A s.heap H locs → ws.length = n0 → zLH lsC nL ad ls → W p l e R s m args below meth c H locs cells slots Q (F0 m pc lsC (st.map (zv ad)))
/-! the step -/
def zlen (i : Instr) : Nat := match i with
  | .bipush _ => 2
  | .iload _ => 2
  | .aload _ => 2
  | .istore _ => 2
  | .astore _ => 2
  | .ldc _ => 2
  | .newarray _ => 2
  | .sipush _ => 3
  | .getfield _ => 3
  | .putfield _ => 3
  | .iinc _ _ => 3
  | .ifCond _ _ => 3
  | .if_icmp _ _ => 3
  | .goto _ => 3
  | .invokevirtual _ => 3
  | .invokestatic _ => 3
  | .invokespecial _ => 3
  | .ldc2_w _ => 3
  | .new _ => 3
  | .anewarray _ => 3
  | _ => 1
def ztg (pc : Nat) (off : Int) (tg : List Nat) : Bool := match tg with
  | [t] => decide ((pc : Int) + off = (t : Int))
  | _ => false
def ztgs (pc : Nat) : List Int → List Nat → Bool
  | [], [] => true
  | o :: os, t :: ts => decide ((pc : Int) + o = (t : Int)) && ztgs pc os ts
  | _, _ => false
def zchk (cc : ByteArray) (pc : Nat) (x : zI) : Bool := match x.1 with
  | .tableswitch d lo hi offs => decide (decode cc pc = .ok (x.1, x.2.2.1 - pc)) && (ztgs pc (d :: offs.toList) x.2.2.2 && decide (lo + (offs.toList.length : Int) = hi + 1))
  | .lookupswitch d ps => decide (decode cc pc = .ok (x.1, x.2.2.1 - pc)) && (ztgs pc (d :: ps.toList.map (fun q => q.2)) x.2.2.2 && (ps.toList.zip (ps.toList.drop 1)).all (fun (a, next) => a.1 < next.1))
  | i => decide (decode cc pc = .ok (i, zlen i)) && (decide (x.2.2.1 = pc + zlen i) && (match i with
    | .iconst z => decide (Int32.ofInt z = x.2.1)
    | .bipush z => decide ((Int8.ofInt z).toInt32 = x.2.1)
    | .sipush z => decide ((Int16.ofInt z).toInt32 = x.2.1)
    | .iinc _ z => decide (Int32.ofInt z = x.2.1)
    | .goto off => ztg pc off x.2.2.2
    | .ifCond _ off => ztg pc off x.2.2.2
    | .if_icmp _ off => ztg pc off x.2.2.2
    | _ => true))
def zcmp (o : Jvm.ClassFile.Cond) (x y : Int32) : Prop := match o with
  | .eq => x = y
  | .ne => ¬ x = y
  | .lt => x < y
  | .ge => y ≤ x
  | .gt => y < x
  | .le => x ≤ y
def zbr (o : Jvm.ClassFile.Cond) (x y : Int32) (P N : Prop) : Prop := match o with
  | .eq => (x = y → P) ∧ (¬ x = y → N)
  | .ne => (x = y → N) ∧ (¬ x = y → P)
  | .lt => (x < y → P) ∧ (¬ x < y → N)
  | .ge => (y ≤ x → P) ∧ (¬ y ≤ x → N)
  | .gt => (y < x → P) ∧ (¬ y < x → N)
  | .le => (x ≤ y → P) ∧ (¬ x ≤ y → N)
def zcat (l : List Value) : Nat := (l.map fun v => v.category).sum
def zfit (ty : FieldType) (v : Value) (P : Prop) : Prop := match ty with
  | .int => match v with
    | .int _ => P
    | _ => False
  | .long => match v with
    | .long _ => P
    | _ => False
  | .boolean => match v with
    | .int x => (x = 0 ∨ x = 1) ∧ P
    | _ => False
  | .array _ => match v with
    | .ref _ => P
    | _ => False
  | .object _ => match v with
    | .ref _ => P
    | _ => False
  | _ => False
def zsw (x : Int32) (P : Nat → Prop) : Int → List Nat → Prop
  | _, [] => True
  | v, t :: ts => (x.toInt = v → P t) ∧ zsw x P (v + 1) ts
def zlk (x : Int32) (P : Nat → Prop) (dt : Nat) : List (Int × Int) → List Nat → Prop
  | [], [] => P dt
  | q :: qs, t :: ts => (x.toInt = q.1 → P t) ∧ (¬ x.toInt = q.1 → zlk x P dt qs ts)
  | _, _ => False
def zbool (b : Bool) (P : Prop) : Prop := match b with
  | true => P
  | false => False
def zld (K : zK) (isI : Bool) (n nx : Nat) (ls : List (Option Value)) (st : List Value) (ws : zW) : Prop := match ls[n]? with
  | some (some (.int x)) => zbool isI (K nx ls (.int x :: st) ws)
  | some (some (.ref x)) => zbool (!isI) (K nx ls (.ref x :: st) ws)
  | _ => False
def zst (K : zK) (isI : Bool) (n nx : Nat) (ls : List (Option Value)) (st : List Value) (ws : zW) : Prop := match st with
  | .int x :: r => zbool isI (zbool (Nat.blt n ls.length) (K nx (ls.set n (some (.int x))) r ws))
  | .ref x :: r => zbool (!isI) (zbool (Nat.blt n ls.length) (K nx (ls.set n (some (.ref x))) r ws))
  | _ => False
def z2 (K : zK) (f : Int32 → Int32 → Int32) (nx : Nat) (ls : List (Option Value)) (st : List Value) (ws : zW) : Prop := match st with
  | .int y :: .int x :: r => K nx ls (.int (f x y) :: r) ws
  | _ => False
def z2d (K : zK) (f : Int32 → Int32 → Int32) (nx : Nat) (ls : List (Option Value)) (st : List Value) (ws : zW) : Prop := match st with
  | .int y :: .int x :: r => ¬ y = 0 ∧ K nx ls (.int (f x y) :: r) ws
  | _ => False
def z1 (K : zK) (f : Int32 → Int32) (nx : Nat) (ls : List (Option Value)) (st : List Value) (ws : zW) : Prop := match st with
  | .int x :: r => K nx ls (.int (f x) :: r) ws
  | _ => False
def zgf (K : zK) (fl : Option (Nat × Nat × FieldType)) (nx : Nat) (ls : List (Option Value)) (st : List Value) (ws : zW) : Prop := match fl, st with
  | some (ci, j, _), .ref k :: r => match ws[k]? with
    | some (.inr (.inr (ci', fs))) => match fs[j]? with
      | some w => zbool (Nat.beq ci' ci) (K nx ls (w :: r) ws)
      | none => False
    | _ => False
  | _, _ => False
def zpf (K : zK) (fl : Option (Nat × Nat × FieldType)) (nx : Nat) (ls : List (Option Value)) (st : List Value) (ws : zW) : Prop := match fl, st with
  | some (ci, j, ty), w :: .ref k :: r => match ws[k]? with
    | some (.inr (.inr (ci', fs))) => zbool (Nat.beq ci' ci) (zbool (Nat.blt j fs.length) (zfit ty w (K nx ls r (ws.set k (.inr (.inr (ci', fs.set j w)))))))
    | _ => False
  | _, _ => False
def zal (K : zK) (isI : Bool) (nx : Nat) (ls : List (Option Value)) (st : List Value) (ws : zW) : Prop := match st with
  | .int i :: .ref k :: r => match ws[k]? with
    | some (.inl (t, n, f)) => zbool (if isI then Nat.beq t 0 else Nat.beq t 1 || Nat.beq t 2) (vp_in i n ∧ K nx ls (.int (f i.toNatClampNeg) :: r) ws)
    | _ => False
  | _ => False
def zas (K : zK) (isI : Bool) (nx : Nat) (ls : List (Option Value)) (st : List Value) (ws : zW) : Prop := match st with
  | .int x :: .int i :: .ref k :: r => match ws[k]? with
    | some (.inl (t, n, f)) => match isI, t with
      | true, 0 => vp_in i n ∧ K nx ls r (ws.set k (.inl (0, n, upd f i.toNatClampNeg x)))
      | false, 1 => vp_in i n ∧ K nx ls r (ws.set k (.inl (1, n, upd f i.toNatClampNeg (vp_nar .byte x))))
      | false, 2 => vp_in i n ∧ K nx ls r (ws.set k (.inl (2, n, upd f i.toNatClampNeg (vp_nar .boolean x))))
      | _, _ => False
    | _ => False
  | _ => False
def zaa (K : zK) (nx : Nat) (ls : List (Option Value)) (st : List Value) (ws : zW) : Prop := match st with
  | .int i :: .ref k :: r => match ws[k]? with
    | some (.inr (.inl (t, l))) => zbool (Nat.beq t 3 || Nat.beq t 4) (vp_in i l.length ∧ ∃ a : Nat, l[i.toNatClampNeg]? = some (some a) ∧ K nx ls (.ref a :: r) ws)
    | _ => False
  | _ => False
def zax (K : zK) (nx : Nat) (ls : List (Option Value)) (st : List Value) (ws : zW) : Prop := match st with
  | .ref a :: .int i :: .ref k :: r => match ws[k]?, ws[a]? with
    | some (.inr (.inl (t, l))), some (.inr (.inr (ci, _))) => zbool ((Nat.beq t 3 && Nat.beq ci 0) || (Nat.beq t 4 && Nat.beq ci 1)) (vp_in i l.length ∧ K nx ls r (ws.set k (.inr (.inl (t, l.set i.toNatClampNeg (some a))))))
    | _, _ => False
  | _ => False
def zan (K : zK) (nx : Nat) (ls : List (Option Value)) (st : List Value) (ws : zW) : Prop := match st with
  | .ref k :: r => match ws[k]? with
    | some (.inl (t, n, _)) => zbool (Nat.blt t 3) (K nx ls (.int (Int32.ofNat n) :: r) ws)
    | _ => False
  | _ => False
def zcl (K : zK) (nx : Nat) (ls : List (Option Value)) (rest : List Value) : zP := fun rv ws' => match rv with
  | some v => K nx ls (v :: rest) ws'
  | none => K nx ls rest ws'
def zca (K : zK) (g : Option (Nat × zG)) (nx : Nat) (ls : List (Option Value)) (st : List Value) (ws : zW) : Prop := match g with
  | some (n, G) => zbool (Nat.ble n st.length) (zbool (Nat.ble (zcat (st.drop n)) 8) (G (st.take n).reverse ws (zcl K nx ls (st.drop n))))
  | none => False
def zma (K : zK) (o : Nat) (nx : Nat) (ls : List (Option Value)) (st : List Value) (ws : zW) : Prop := match o with
  | 0 => match st with
    | .int y :: .int x :: r => zbool (Nat.ble (zcat r) 8) (K nx ls (.int (if x < y then y else x) :: r) ws)
    | _ => False
  | 1 => match st with
    | .int y :: .int x :: r => zbool (Nat.ble (zcat r) 8) (K nx ls (.int (if y < x then y else x) :: r) ws)
    | _ => False
  | 2 => match st with
    | .int x :: r => zbool (Nat.ble (zcat r) 8) (K nx ls (.int (if 0 ≤ x then x else 0 - x) :: r) ws)
    | _ => False
  | 3 => match st with
    | .int n :: .int dp :: .ref a :: .int sp :: .ref a0 :: r => match ws[a0]?, ws[a]? with
      | some (.inl (t0, n0, f)), some (.inl (t1, n1, g)) => zbool (Nat.ble (zcat r) 8 && (Nat.beq t0 0 && Nat.beq t1 0)) ((¬ sp < 0 ∧ ¬ dp < 0 ∧ ¬ n < 0 ∧ sp.toNatClampNeg + n.toNatClampNeg ≤ n0 ∧ dp.toNatClampNeg + n.toNatClampNeg ≤ n1) ∧ K nx ls r (ws.set a (.inl (0, n1, va_cpy f g sp.toNatClampNeg dp.toNatClampNeg n.toNatClampNeg))))
      | _, _ => False
    | _ => False
  | _ => False
def zis (M : zM) (K : zK) (ix : Nat) (nx : Nat) (ls : List (Option Value)) (st : List Value) (ws : zW) : Prop := match M.2.2.2.2.2.1.lookup ix with
  | some o => zma K o nx ls st ws
  | none => zca K (M.2.2.2.2.2.2.2.lookup ix) nx ls st ws
def zin (M : zM) (Rt : zP) (K : zK) (ls : List (Option Value)) (st : List Value) (ws : zW) (v : Int32) (nx : Nat) (tg : List Nat) (i : Instr) : Prop := match i with
  | .iload_n k => zld K true k.val nx ls st ws
  | .iload k => zld K true k nx ls st ws
  | .aload_n k => zld K false k.val nx ls st ws
  | .aload k => zld K false k nx ls st ws
  | .istore_n k => zst K true k.val nx ls st ws
  | .istore k => zst K true k nx ls st ws
  | .astore_n k => zst K false k.val nx ls st ws
  | .astore k => zst K false k nx ls st ws
  | .iconst _ => K nx ls (.int v :: st) ws
  | .bipush _ => K nx ls (.int v :: st) ws
  | .sipush _ => K nx ls (.int v :: st) ws
  | .ldc ix => match M.2.2.2.1.lookup ix with
    | some x => K nx ls (.int x :: st) ws
    | none => False
  | .ldc2_w ix => match M.2.2.2.2.1.lookup ix with
    | some x => K nx ls (.long x :: st) ws
    | none => False
  | .lconst n => K nx ls (.long (Int64.ofNat n.val) :: st) ws
  | .iadd => z2 K HAdd.hAdd nx ls st ws
  | .isub => z2 K HSub.hSub nx ls st ws
  | .imul => z2 K HMul.hMul nx ls st ws
  | .iand => z2 K HAnd.hAnd nx ls st ws
  | .ior => z2 K HOr.hOr nx ls st ws
  | .ishl => match st with
    | .int y :: .int x :: r => K nx ls (.int (x <<< (y &&& 31)) :: r) ws
    | _ => False
  | .ishr => match st with
    | .int y :: .int x :: r => K nx ls (.int (x >>> (y &&& 31)) :: r) ws
    | _ => False
  | .idiv => z2d K HDiv.hDiv nx ls st ws
  | .irem => match st with
    | .int y :: .int x :: r => ¬ y = 0 ∧ K nx ls (.int (x - x / y * y) :: r) ws
    | _ => False
  | .ineg => z1 K Neg.neg nx ls st ws
  | .i2b => match st with
    | .int x :: r => K nx ls (.int (x.toInt8.toInt32) :: r) ws
    | _ => False
  | .ladd => match st with
    | .long y :: .long x :: r => K nx ls (.long (x + y) :: r) ws
    | _ => False
  | .lcmp => match st with
    | .long y :: .long x :: r => K nx ls (.int (lg_cmp x y) :: r) ws
    | _ => False
  | .dup => match st with
    | x :: r => zbool (Nat.beq x.category 1) (K nx ls (x :: x :: r) ws)
    | _ => False
  | .dup2 => match st with
    | x :: y :: r => zbool (Nat.beq x.category 1 && Nat.beq y.category 1) (K nx ls (x :: y :: x :: y :: r) ws)
    | _ => False
  | .pop => match st with
    | x :: r => zbool (Nat.beq x.category 1) (K nx ls r ws)
    | _ => False
  | .iinc k _ => match ls[k]? with
    | some (some (.int x)) => K nx (ls.set k (some (.int (x + v)))) st ws
    | _ => False
  | .goto _ => match tg with
    | [t] => K t ls st ws
    | _ => False
  | .ifCond o _ => match tg, st with
    | [t], .int x :: r => zbr o x 0 (K t ls r ws) (K nx ls r ws)
    | _, _ => False
  | .if_icmp o _ => match tg, st with
    | [t], .int y :: .int x :: r => zbr o x y (K t ls r ws) (K nx ls r ws)
    | _, _ => False
  | .tableswitch _ lo hi _ => match tg, st with
    | d :: ts, .int x :: r => ((x.toInt < lo ∨ hi < x.toInt) → K d ls r ws) ∧ zsw x (fun t => K t ls r ws) lo ts
    | _, _ => False
  | .lookupswitch _ ps => match tg, st with
    | d :: ts, .int x :: r => zlk x (fun t => K t ls r ws) d ps.toList ts
    | _, _ => False
  | .getfield ix => zgf K (M.2.1.lookup ix) nx ls st ws
  | .putfield ix => zpf K (M.2.2.1.lookup ix) nx ls st ws
  | .iaload => zal K true nx ls st ws
  | .baload => zal K false nx ls st ws
  | .iastore => zas K true nx ls st ws
  | .bastore => zas K false nx ls st ws
  | .aaload => zaa K nx ls st ws
  | .aastore => zax K nx ls st ws
  | .arraylength => zan K nx ls st ws
  | .invokevirtual ix => zca K (M.2.2.2.2.2.2.1.lookup ix) nx ls st ws
  | .invokestatic ix => zis M K ix nx ls st ws
  | .ireturn => match st with
    | [.int x] => Rt (some (.int x)) ws
    | _ => False
  | .lreturn => match st with
    | [.long x] => Rt (some (.long x)) ws
    | _ => False
  | .return_ => match st with
    | [] => Rt none ws
    | _ => False
  | _ => False
def zstep (M : zM) (Rt : zP) (K : zK) : zK := fun pc ls st ws => match M.1[pc]? with
  | some (some (i, v, nx, tg)) => zin M Rt K ls st ws v nx tg i
  | _ => False
end
section
theorem zbool_inv {b : Bool} {P : Prop} (h : zbool b P) : b = true ∧ P := by
  unfold zbool at h
  split at h
  · exact ⟨rfl, h⟩
  · exact h.elim
theorem zld_inv {K : zK} {isI : Bool} {n nx : Nat} {ls : List (Option Value)} {st : List Value} {ws : zW} (h : zld K isI n nx ls st ws) : (∃ x, isI = true ∧ ls[n]? = some (some (.int x)) ∧ K nx ls (.int x :: st) ws) ∨ (∃ x, isI = false ∧ ls[n]? = some (some (.ref x)) ∧ K nx ls (.ref x :: st) ws) := by
  unfold zld at h
  split at h
  · rename_i x hx
    obtain ⟨a, b⟩ := zbool_inv h
    exact Or.inl ⟨x, a, hx, b⟩
  · rename_i x hx
    obtain ⟨a, b⟩ := zbool_inv h
    exact Or.inr ⟨x, by simpa using a, hx, b⟩
  · exact h.elim
theorem zst_inv {K : zK} {isI : Bool} {n nx : Nat} {ls : List (Option Value)} {st : List Value} {ws : zW} (h : zst K isI n nx ls st ws) : (∃ x r, isI = true ∧ st = .int x :: r ∧ n < ls.length ∧ K nx (ls.set n (some (.int x))) r ws) ∨ (∃ x r, isI = false ∧ st = .ref x :: r ∧ n < ls.length ∧ K nx (ls.set n (some (.ref x))) r ws) := by
  unfold zst at h
  split at h
  · obtain ⟨a, b⟩ := zbool_inv h
    obtain ⟨b, d⟩ := zbool_inv b
    exact Or.inl ⟨_, _, a, rfl, by simpa using b, d⟩
  · obtain ⟨a, b⟩ := zbool_inv h
    obtain ⟨b, d⟩ := zbool_inv b
    exact Or.inr ⟨_, _, by simpa using a, rfl, by simpa using b, d⟩
  · exact h.elim
theorem z2_inv {K : zK} {f : Int32 → Int32 → Int32} {nx : Nat} {ls : List (Option Value)} {st : List Value} {ws : zW} (h : z2 K f nx ls st ws) : ∃ x y r, st = .int y :: .int x :: r ∧ K nx ls (.int (f x y) :: r) ws := by
  unfold z2 at h
  split at h
  · exact ⟨_, _, _, rfl, h⟩
  · exact h.elim
theorem z2d_inv {K : zK} {f : Int32 → Int32 → Int32} {nx : Nat} {ls : List (Option Value)} {st : List Value} {ws : zW} (h : z2d K f nx ls st ws) : ∃ x y r, st = .int y :: .int x :: r ∧ ¬ y = 0 ∧ K nx ls (.int (f x y) :: r) ws := by
  unfold z2d at h
  split at h
  · exact ⟨_, _, _, rfl, h.1, h.2⟩
  · exact h.elim
theorem z1_inv {K : zK} {f : Int32 → Int32} {nx : Nat} {ls : List (Option Value)} {st : List Value} {ws : zW} (h : z1 K f nx ls st ws) : ∃ x r, st = .int x :: r ∧ K nx ls (.int (f x) :: r) ws := by
  unfold z1 at h
  split at h
  · exact ⟨_, _, rfl, h⟩
  · exact h.elim
theorem zgf_inv {K : zK} {fl : Option (Nat × Nat × FieldType)} {nx : Nat} {ls : List (Option Value)} {st : List Value} {ws : zW} (h : zgf K fl nx ls st ws) : ∃ ci j ty k r fs w, fl = some (ci, j, ty) ∧ st = .ref k :: r ∧ ws[k]? = some (.inr (.inr (ci, fs))) ∧ fs[j]? = some w ∧ K nx ls (w :: r) ws := by
  unfold zgf at h
  split at h
  · split at h
    · rename_i hk
      split at h
      · rename_i w hw
        obtain ⟨a, b⟩ := zbool_inv h
        have a := Nat.eq_of_beq_eq_true a
        subst a
        exact ⟨_, _, _, _, _, _, w, rfl, rfl, hk, hw, b⟩
      · exact h.elim
    · exact h.elim
  · exact h.elim
theorem zpf_inv {K : zK} {fl : Option (Nat × Nat × FieldType)} {nx : Nat} {ls : List (Option Value)} {st : List Value} {ws : zW} (h : zpf K fl nx ls st ws) : ∃ ci j ty k r fs w, fl = some (ci, j, ty) ∧ st = w :: .ref k :: r ∧ ws[k]? = some (.inr (.inr (ci, fs))) ∧ j < fs.length ∧ zfit ty w (K nx ls r (ws.set k (.inr (.inr (ci, fs.set j w))))) := by
  unfold zpf at h
  split at h
  · split at h
    · rename_i hk
      obtain ⟨a, b⟩ := zbool_inv h
      have a := Nat.eq_of_beq_eq_true a
      subst a
      obtain ⟨a, b⟩ := zbool_inv b
      exact ⟨_, _, _, _, _, _, _, rfl, rfl, hk, by simpa using a, b⟩
    · exact h.elim
  · exact h.elim
theorem zfit_inv {ty : FieldType} {v : Value} {P : Prop} (h : zfit ty v P) (ad : Nat → Nat) : narrow ty (zv ad v) = zv ad v ∧ fits ty (zv ad v) = true ∧ P := by
  cases ty <;> cases v <;> simp only [zfit] at h <;> first | exact h.elim | exact ⟨rfl, rfl, h⟩ | (obtain ⟨h1, h2⟩ := h; rcases h1 with rfl | rfl <;> exact ⟨rfl, rfl, h2⟩)
theorem zal_inv {K : zK} {isI : Bool} {nx : Nat} {ls : List (Option Value)} {st : List Value} {ws : zW} (h : zal K isI nx ls st ws) : ∃ i k r t n f, st = .int i :: .ref k :: r ∧ ws[k]? = some (.inl (t, n, f)) ∧ (if isI then t = 0 else t = 1 ∨ t = 2) ∧ vp_in i n ∧ K nx ls (.int (f i.toNatClampNeg) :: r) ws := by
  unfold zal at h
  split at h
  · split at h
    · rename_i hk
      obtain ⟨a, b, d⟩ := zbool_inv h
      refine ⟨_, _, _, _, _, _, rfl, hk, ?_, b, d⟩
      cases isI <;> simp at a ⊢ <;> exact a
    · exact h.elim
  · exact h.elim
theorem zas_inv {K : zK} {isI : Bool} {nx : Nat} {ls : List (Option Value)} {st : List Value} {ws : zW} (h : zas K isI nx ls st ws) : ∃ x i k r t n f, st = .int x :: .int i :: .ref k :: r ∧ ws[k]? = some (.inl (t, n, f)) ∧ vp_in i n ∧ ((isI = true ∧ t = 0 ∧ K nx ls r (ws.set k (.inl (0, n, upd f i.toNatClampNeg x)))) ∨ (isI = false ∧ t = 1 ∧ K nx ls r (ws.set k (.inl (1, n, upd f i.toNatClampNeg (vp_nar .byte x))))) ∨ (isI = false ∧ t = 2 ∧ K nx ls r (ws.set k (.inl (2, n, upd f i.toNatClampNeg (vp_nar .boolean x)))))) := by
  unfold zas at h
  split at h
  · split at h
    · rename_i hk
      split at h
      · exact ⟨_, _, _, _, _, _, _, rfl, hk, h.1, Or.inl ⟨rfl, rfl, h.2⟩⟩
      · exact ⟨_, _, _, _, _, _, _, rfl, hk, h.1, Or.inr (Or.inl ⟨rfl, rfl, h.2⟩)⟩
      · exact ⟨_, _, _, _, _, _, _, rfl, hk, h.1, Or.inr (Or.inr ⟨rfl, rfl, h.2⟩)⟩
      · exact h.elim
    · exact h.elim
  · exact h.elim
theorem zaa_inv {K : zK} {nx : Nat} {ls : List (Option Value)} {st : List Value} {ws : zW} (h : zaa K nx ls st ws) : ∃ i k r t l a, st = .int i :: .ref k :: r ∧ ws[k]? = some (.inr (.inl (t, l))) ∧ (t = 3 ∨ t = 4) ∧ vp_in i l.length ∧ l[i.toNatClampNeg]? = some (some a) ∧ K nx ls (.ref a :: r) ws := by
  unfold zaa at h
  split at h
  · split at h
    · rename_i hk
      obtain ⟨a, b, y, d, f⟩ := zbool_inv h
      exact ⟨_, _, _, _, _, y, rfl, hk, by simpa using a, b, d, f⟩
    · exact h.elim
  · exact h.elim
theorem zax_inv {K : zK} {nx : Nat} {ls : List (Option Value)} {st : List Value} {ws : zW} (h : zax K nx ls st ws) : ∃ a i k r t l ci fs, st = .ref a :: .int i :: .ref k :: r ∧ ws[k]? = some (.inr (.inl (t, l))) ∧ ws[a]? = some (.inr (.inr (ci, fs))) ∧ ((t = 3 ∧ ci = 0) ∨ (t = 4 ∧ ci = 1)) ∧ vp_in i l.length ∧ K nx ls r (ws.set k (.inr (.inl (t, l.set i.toNatClampNeg (some a))))) := by
  unfold zax at h
  split at h
  · split at h
    · rename_i hk ha
      obtain ⟨b, d, f⟩ := zbool_inv h
      exact ⟨_, _, _, _, _, _, _, _, rfl, hk, ha, by simpa using b, d, f⟩
    · exact h.elim
  · exact h.elim
theorem zan_inv {K : zK} {nx : Nat} {ls : List (Option Value)} {st : List Value} {ws : zW} (h : zan K nx ls st ws) : ∃ k r t n f, st = .ref k :: r ∧ ws[k]? = some (.inl (t, n, f)) ∧ t < 3 ∧ K nx ls (.int (Int32.ofNat n) :: r) ws := by
  unfold zan at h
  split at h
  · split at h
    · rename_i hk
      obtain ⟨a, b⟩ := zbool_inv h
      exact ⟨_, _, _, _, _, rfl, hk, by simpa using a, b⟩
    · exact h.elim
  · exact h.elim
theorem zca_inv {K : zK} {g : Option (Nat × zG)} {nx : Nat} {ls : List (Option Value)} {st : List Value} {ws : zW} (h : zca K g nx ls st ws) : ∃ n G, g = some (n, G) ∧ n ≤ st.length ∧ zcat (st.drop n) ≤ 8 ∧ G (st.take n).reverse ws (zcl K nx ls (st.drop n)) := by
  unfold zca at h
  split at h
  · obtain ⟨a, b⟩ := zbool_inv h
    obtain ⟨b, d⟩ := zbool_inv b
    exact ⟨_, _, rfl, Nat.le_of_ble_eq_true a, Nat.le_of_ble_eq_true b, d⟩
  · exact h.elim
theorem zcat_map (ad : Nat → Nat) (l : List Value) : ((l.map (zv ad)).map fun v => v.category).sum = zcat l := by
  unfold zcat
  rw [List.map_map]
  congr 1
  apply List.map_congr_left
  intro v _
  exact zv_cat ad v
theorem ztgs_get {pc : Nat} : ∀ {os : List Int} {ts : List Nat}, ztgs pc os ts = true → ∀ (j : Nat) (t : Nat), ts[j]? = some t → ∃ o, os[j]? = some o ∧ (pc : Int) + o = (t : Int)
  | [], [], _, j, t, h => by simp at h
  | o :: os, t0 :: ts, h, j, t, hj => by
    simp only [ztgs, Bool.and_eq_true, decide_eq_true_eq] at h
    cases j with
    | zero =>
      rw [List.getElem?_cons_zero] at hj
      cases hj
      exact ⟨o, rfl, h.1⟩
    | succ j =>
      rw [List.getElem?_cons_succ] at hj
      obtain ⟨o', h1, h2⟩ := ztgs_get h.2 j t hj
      exact ⟨o', by rw [List.getElem?_cons_succ]; exact h1, h2⟩
  | [], t0 :: ts, h, j, t, hj => by simp [ztgs] at h
  | o :: os, [], h, j, t, hj => by simp [ztgs] at h
theorem ztgs_len {pc : Nat} : ∀ {os : List Int} {ts : List Nat}, ztgs pc os ts = true → os.length = ts.length
  | [], [], _ => rfl
  | o :: os, t0 :: ts, h => by
    simp only [ztgs, Bool.and_eq_true, decide_eq_true_eq] at h
    rw [List.length_cons, List.length_cons, ztgs_len h.2]
  | [], t0 :: ts, h => by simp [ztgs] at h
  | o :: os, [], h => by simp [ztgs] at h
theorem zsw_get {x : Int32} {P : Nat → Prop} : ∀ {ts : List Nat} {v : Int}, zsw x P v ts → ∀ (j t : Nat), ts[j]? = some t → x.toInt = v + (j : Int) → P t
  | [], _, _, j, t, h, _ => by simp at h
  | t0 :: ts, v, h, j, t, hj, hx => by
    cases j with
    | zero =>
      rw [List.getElem?_cons_zero] at hj
      cases hj
      exact h.1 (by omega)
    | succ j =>
      rw [List.getElem?_cons_succ] at hj
      exact zsw_get h.2 j t hj (by omega)
theorem zlk_get {x : Int32} {P : Nat → Prop} {dt pc : Nat} {d : Int} (hd : (pc : Int) + d = (dt : Int)) : ∀ {ps : List (Int × Int)} {ts : List Nat}, zlk x P dt ps ts → ztgs pc (ps.map (fun q => q.2)) ts = true → ∃ t : Nat, (pc : Int) + Op.lookupswitch.offset ps d x.toInt = (t : Int) ∧ P t
  | [], [], h, _ => ⟨dt, hd, h⟩
  | (a, o) :: ps, t :: ts, h, hg => by
    simp only [ztgs, List.map_cons, Bool.and_eq_true, decide_eq_true_eq] at hg
    by_cases hx : x.toInt = a
    · refine ⟨t, ?_, h.1 hx⟩
      have e : Op.lookupswitch.offset ((a, o) :: ps) d x.toInt = o := by simp [Op.lookupswitch.offset, hx]
      rw [e]
      exact hg.1
    · obtain ⟨t', h1, h2⟩ := zlk_get hd (h.2 hx) hg.2
      refine ⟨t', ?_, h2⟩
      have e : Op.lookupswitch.offset ((a, o) :: ps) d x.toInt = Op.lookupswitch.offset ps d x.toInt := by
        simp [Op.lookupswitch.offset]
        intro q
        exact absurd q.symm hx
      rw [e]
      exact h1
  | [], t :: ts, h, _ => by simp [zlk] at h
  | q :: ps, [], h, _ => by simp [zlk] at h
end
section
theorem zcls : ∀ (ci : Nat) (q : vw_C), vwCl[ci]? = some q → ∃ ty0 : Nat → FieldType, (∀ k, k < q.2.2 → parseFieldDescriptor (q.2.1 k).2.2.1 = some (ty0 k)) ∧ (∀ a, a < q.2.2 → ∀ b, b < q.2.2 → a ≠ b → (q.2.1 a).2.1 ≠ (q.2.1 b).2.1) := by
  intro ci q h
  match ci, h with
  | 0, h => cases h; exact ⟨tyX0, tyX0_ok, nmX0⟩
  | 1, h => cases h; exact ⟨tyX1, tyX1_ok, nmX1⟩
  | 2, h => cases h; exact ⟨tyX2, tyX2_ok, nmX2⟩
  | 3, h => cases h; exact ⟨tyX3, tyX3_ok, nmX3⟩
  | 4, h => cases h; exact ⟨tyX4, tyX4_ok, nmX4⟩
  | 5, h => cases h; exact ⟨tyX5, tyX5_ok, nmX5⟩
  | 6, h => cases h; exact ⟨tyX6, tyX6_ok, nmX6⟩
  | 7, h => cases h; exact ⟨tyX7, tyX7_ok, nmX7⟩
  | 8, h => cases h; exact ⟨tyX8, tyX8_ok, nmX8⟩
  | n + 9, h => simp [vwCl] at h
def zfok (own : String) (Ts : List Jvm.Cond) (ix ci j : Nat) (ty : FieldType) (fin : Bool) : Prop := ∃ q : vw_C, vwCl[ci]? = some q ∧ j < q.2.2 ∧ Jvm.Cond.fieldLink own ix (q.2.1 j).1 (q.2.1 j).2.1 (q.2.1 j).2.2.1 ∈ Ts ∧ (∀ w ∈ u_ws q.1 q.2.1 q.2.2, w ∈ Ts) ∧ parseFieldDescriptor (q.2.1 j).2.2.1 = some ty ∧ (fin = true → (q.2.1 j).2.2.2 = false)
def zmok (own : String) (Ts : List Jvm.Cond) (ix o : Nat) : Prop := match o with
  | 0 => Jvm.Cond.methodLink own ix Lib.Math.max.name ∈ Ts ∧ Jvm.Cond.static Lib.Math.max.name ∈ Ts ∧ Jvm.Cond.initialized "java/lang/Math" ∈ Ts ∧ Jvm.Cond.code Lib.Math.max.name Lib.Math.max.code 2 (some .int) ∈ Ts
  | 1 => Jvm.Cond.methodLink own ix Lib.Math.min.name ∈ Ts ∧ Jvm.Cond.static Lib.Math.min.name ∈ Ts ∧ Jvm.Cond.initialized "java/lang/Math" ∈ Ts ∧ Jvm.Cond.code Lib.Math.min.name Lib.Math.min.code 2 (some .int) ∈ Ts
  | 2 => Jvm.Cond.methodLink own ix Lib.Math.abs.name ∈ Ts ∧ Jvm.Cond.static Lib.Math.abs.name ∈ Ts ∧ Jvm.Cond.initialized "java/lang/Math" ∈ Ts ∧ Jvm.Cond.code Lib.Math.abs.name Lib.Math.abs.code 1 (some .int) ∈ Ts
  | 3 => Jvm.Cond.methodLink own ix arraycopyName ∈ Ts ∧ Jvm.Cond.native arraycopyName ∈ Ts ∧ Jvm.Cond.static arraycopyName ∈ Ts ∧ Jvm.Cond.initialized "java/lang/System" ∈ Ts
  | _ => False
def zGood (M : zM) (cc : ByteArray) (own : String) (Ts : List Jvm.Cond) : Prop :=
  (∀ (pc : Nat) (x : zI), M.1[pc]? = some (some x) → zchk cc pc x = true) ∧
  (∀ (ix ci j : Nat) (ty : FieldType), M.2.1.lookup ix = some (ci, j, ty) → zfok own Ts ix ci j ty false) ∧
  (∀ (ix ci j : Nat) (ty : FieldType), M.2.2.1.lookup ix = some (ci, j, ty) → zfok own Ts ix ci j ty true) ∧
  (∀ (ix : Nat) (v : Int32), M.2.2.2.1.lookup ix = some v → Jvm.Cond.constant own ix v ∈ Ts) ∧
  (∀ (ix : Nat) (v : Int64), M.2.2.2.2.1.lookup ix = some v → Jvm.Cond.constantLong own ix v ∈ Ts) ∧
  (∀ (ix o : Nat), M.2.2.2.2.2.1.lookup ix = some o → zmok own Ts ix o)
def zri (rv : Option Value) : Instr := match rv with
  | none => .return_
  | some (.long _) => .lreturn
  | _ => .ireturn
theorem zset_q (cy : Nat → ClassId) (ad : Nat → Nat) (t : Nat) (l : List (Option Nat)) (i a : Nat) (hi : i < l.length) : zc cy ad (.inr (.inl (t, l.set i (some a)))) = .inl (cy t, l.length, .inr (.inr (.inr (.inr (va_up (fun j => ((l[j]?).getD none).map ad) i (some (ad a))))))) := by
  have e : (fun j => (((l.set i (some a))[j]?).getD none).map ad) = va_up (fun j => ((l[j]?).getD none).map ad) i (some (ad a)) := by
    funext j
    unfold va_up
    rw [List.getElem?_set]
    by_cases h : i = j
    · subst h
      simp [hi]
    · have h2 : ¬ j = i := fun q => h q.symm
      simp [h, h2]
  show Sum.inl (cy t, (l.set i (some a)).length, _) = _
  rw [List.length_set]
  congr 5
  simp only [e]
section ZS
variable {p : Program} {l : Launch} {e : Env} {R : Room} {s : State} {m : MethodId} {args : Array Value} {below : List Frame} {meth : Method} {c : Code} {cells slots : Nat} {Q : State → Prop} {cc : ByteArray} {own : String} {Ts : List Jvm.Cond} {nL : Nat} {D : va_G} {cy : Nat → ClassId} {ad : Nat → Nat} {A : Nat → Prop} {n0 : Nat}
def zCO (p : Program) (l : Launch) (e : Env) (R : Room) (s : State) (m : MethodId) (args : Array Value) (below : List Frame) (meth : Method) (c : Code) (cc : ByteArray) (nL : Nat) (D : va_G) (cy : Nat → ClassId) (ad : Nat → Nat) (A : Nat → Prop) (n0 : Nat) (cells slots : Nat) (Q : State → Prop) (ins : Instr) (n : Nat) (G : zG) : Prop := ∀ (as rest : List Value) (ws : zW) (K : zP), as.length = n → zcat rest ≤ 8 → G as ws K → ∀ (pc : Nat) (H : Heap) (locs : List Loc) (lsC : Array Slot), decode cc pc = .ok (ins, 3) → va_P D vwCl (zws cy ad ws) H → va_D A (zws cy ad ws) → va_S A s.heap H locs → ws.length = n0 → lsC.size = nL →
  (∀ (rv : Option Value) (ws' : zW) (H1 : Heap) (locs1 : List Loc), K rv ws' → va_P D vwCl (zws cy ad ws') H1 → va_D A (zws cy ad ws') → va_S A s.heap H1 locs1 → ws'.length = n0 → W p l e R s m args below meth c H1 locs1 cells slots Q (F0 m (pc + 3) lsC ((rv.toList ++ rest).map (zv ad)))) → W p l e R s m args below meth c H locs cells slots Q (F0 m pc lsC ((as.reverse ++ rest).map (zv ad)))
def zRO (p : Program) (l : Launch) (e : Env) (R : Room) (s : State) (m : MethodId) (args : Array Value) (below : List Frame) (meth : Method) (c : Code) (cc : ByteArray) (D : va_G) (cy : Nat → ClassId) (ad : Nat → Nat) (A : Nat → Prop) (n0 : Nat) (cells slots : Nat) (Q : State → Prop) (Rt : zP) : Prop := ∀ (rv : Option Value) (ws : zW) (pc : Nat) (H : Heap) (locs : List Loc) (lsC : Array Slot), Rt rv ws → decode cc pc = .ok (zri rv, 1) → (rv = none ∨ (∃ x, rv = some (.int x)) ∨ ∃ x, rv = some (.long x)) → va_P D vwCl (zws cy ad ws) H → va_D A (zws cy ad ws) → va_S A s.heap H locs → ws.length = n0 → W p l e R s m args below meth c H locs cells slots Q (F0 m pc lsC (rv.toList.map (zv ad)))
set_option maxHeartbeats 8000000 in
set_option maxRecDepth 100000 in
theorem zstep_ok {M : zM} {Rt : zP} {K : zK} (hx : p.tables.exec = Jvm.exec) (hb : c.code = cc) (hml : c.maxLocals = nL) (hown : s.vm.findClass own = some m.cls) (hts : ∀ w ∈ Ts, w.before args s = true) (hKK : zKK D cy s) (hR : 1 ≤ R.frames ∧ 150 ≤ R.locals) (hcs : cells ≤ R.cells ∧ slots ≤ R.slots)
    (hg : zGood M cc own Ts) (hcV : ∀ (ix n : Nat) (G : zG), M.2.2.2.2.2.2.1.lookup ix = some (n, G) → zCO p l e R s m args below meth c cc nL D cy ad A n0 cells slots Q (.invokevirtual ix) n G) (hcS : ∀ (ix n : Nat) (G : zG), M.2.2.2.2.2.2.2.lookup ix = some (n, G) → zCO p l e R s m args below meth c cc nL D cy ad A n0 cells slots Q (.invokestatic ix) n G) (hRt : zRO p l e R s m args below meth c cc D cy ad A n0 cells slots Q Rt)
    (hKo : ∀ (pc : Nat) (ls : List (Option Value)) (st : List Value) (ws : zW), K pc ls st ws → zOK p l e R s m args below meth c nL D cy ad A n0 cells slots Q pc ls st ws)
    (pc : Nat) (ls : List (Option Value)) (st : List Value) (ws : zW) (h : zstep M Rt K pc ls st ws) : zOK p l e R s m args below meth c nL D cy ad A n0 cells slots Q pc ls st ws := by
  have hK := hKK.1
  unfold zstep at h
  split at h
  case h_2 => exact h.elim
  rename_i i v nx tg hcode
  have hck := hg.1 pc (i, v, nx, tg) hcode
  intro H locs lsC hP hD hS hn hl
  have call : ∀ {ins : Instr} {g : Option (Nat × zG)}, decode cc pc = .ok (ins, 3) → (∀ (n : Nat) (G : zG), g = some (n, G) → zCO p l e R s m args below meth c cc nL D cy ad A n0 cells slots Q ins n G) → zca K g (pc + 3) ls st ws → W p l e R s m args below meth c H locs cells slots Q (F0 m pc lsC (st.map (zv ad))) := by
    intro ins g hd hcall h
    obtain ⟨n, G, hG, h1, h2, h3⟩ := zca_inv h
    have := hcall n G hG (st.take n).reverse (st.drop n) ws _ (by rw [List.length_reverse, List.length_take]; omega) h2 h3 pc H locs lsC hd hP hD hS hn hl.1 (fun rv ws' H1 locs1 hk p1 d1 s1 n1 => ?_)
    · rw [List.reverse_reverse, List.take_append_drop] at this
      exact this
    · cases rv with
      | none => exact hKo _ _ _ _ hk H1 locs1 lsC p1 d1 s1 n1 hl
      | some v => exact hKo _ _ _ _ hk H1 locs1 lsC p1 d1 s1 n1 hl
  cases i
  case iload_n k =>
    simp only [zchk, Bool.and_eq_true, decide_eq_true_eq] at hck
    obtain ⟨hd, rfl, -⟩ := hck
    rcases zld_inv h with ⟨x, -, h1, h2⟩ | ⟨x, h0, -⟩
    · exact lv_iload_n hx hb hd rfl (hl.at h1 rfl) (hKo _ _ _ _ h2 H locs lsC hP hD hS hn hl)
    · cases h0
  case iload k =>
    simp only [zchk, Bool.and_eq_true, decide_eq_true_eq] at hck
    obtain ⟨hd, rfl, -⟩ := hck
    rcases zld_inv h with ⟨x, -, h1, h2⟩ | ⟨x, h0, -⟩
    · exact lv_iload hx hb hd (hl.at h1 rfl) (hKo _ _ _ _ h2 H locs lsC hP hD hS hn hl)
    · cases h0
  case aload_n k =>
    simp only [zchk, Bool.and_eq_true, decide_eq_true_eq] at hck
    obtain ⟨hd, rfl, -⟩ := hck
    rcases zld_inv h with ⟨x, h0, -⟩ | ⟨x, -, h1, h2⟩
    · cases h0
    · exact lv_aload_n hx hb hd rfl (hl.at h1 rfl) (hKo _ _ _ _ h2 H locs lsC hP hD hS hn hl)
  case aload k =>
    simp only [zchk, Bool.and_eq_true, decide_eq_true_eq] at hck
    obtain ⟨hd, rfl, -⟩ := hck
    rcases zld_inv h with ⟨x, h0, -⟩ | ⟨x, -, h1, h2⟩
    · cases h0
    · exact lv_aload hx hb hd (hl.at h1 rfl) (hKo _ _ _ _ h2 H locs lsC hP hD hS hn hl)
  case istore_n k =>
    simp only [zchk, Bool.and_eq_true, decide_eq_true_eq] at hck
    obtain ⟨hd, rfl, -⟩ := hck
    rcases zst_inv h with ⟨x, r, -, rfl, h1, h2⟩ | ⟨x, r, h0, -⟩
    · exact lv_istore_n hx hb hd rfl hl.has (by rw [← hl.2.2.1]; exact h1) rfl (fun ls' h' => hKo _ _ _ _ h2 H locs ls' hP hD hS hn (zLH.put (v := .int x) hl.2.2.1 (by rw [← hl.2.2.1]; exact h1) h'))
    · cases h0
  case istore k =>
    simp only [zchk, Bool.and_eq_true, decide_eq_true_eq] at hck
    obtain ⟨hd, rfl, -⟩ := hck
    rcases zst_inv h with ⟨x, r, -, rfl, h1, h2⟩ | ⟨x, r, h0, -⟩
    · exact lv_istore hx hb hd hl.has (by rw [← hl.2.2.1]; exact h1) rfl (fun ls' h' => hKo _ _ _ _ h2 H locs ls' hP hD hS hn (zLH.put (v := .int x) hl.2.2.1 (by rw [← hl.2.2.1]; exact h1) h'))
    · cases h0
  case astore_n k =>
    simp only [zchk, Bool.and_eq_true, decide_eq_true_eq] at hck
    obtain ⟨hd, rfl, -⟩ := hck
    rcases zst_inv h with ⟨x, r, h0, -⟩ | ⟨x, r, -, rfl, h1, h2⟩
    · cases h0
    · exact lv_astore_n hx hb hd rfl hl.has (by rw [← hl.2.2.1]; exact h1) rfl (fun ls' h' => hKo _ _ _ _ h2 H locs ls' hP hD hS hn (zLH.put (v := .ref x) hl.2.2.1 (by rw [← hl.2.2.1]; exact h1) h'))
  case astore k =>
    simp only [zchk, Bool.and_eq_true, decide_eq_true_eq] at hck
    obtain ⟨hd, rfl, -⟩ := hck
    rcases zst_inv h with ⟨x, r, h0, -⟩ | ⟨x, r, -, rfl, h1, h2⟩
    · cases h0
    · exact lv_astore hx hb hd hl.has (by rw [← hl.2.2.1]; exact h1) rfl (fun ls' h' => hKo _ _ _ _ h2 H locs ls' hP hD hS hn (zLH.put (v := .ref x) hl.2.2.1 (by rw [← hl.2.2.1]; exact h1) h'))
  case iconst z =>
    simp only [zchk, Bool.and_eq_true, decide_eq_true_eq] at hck
    obtain ⟨hd, rfl, hv⟩ := hck
    exact lv_iconst hx hb hd hv (hKo _ _ _ _ h H locs lsC hP hD hS hn hl)
  case bipush z =>
    simp only [zchk, Bool.and_eq_true, decide_eq_true_eq] at hck
    obtain ⟨hd, rfl, hv⟩ := hck
    exact lv_bipush hx hb hd hv (hKo _ _ _ _ h H locs lsC hP hD hS hn hl)
  case sipush z =>
    simp only [zchk, Bool.and_eq_true, decide_eq_true_eq] at hck
    obtain ⟨hd, rfl, hv⟩ := hck
    exact lv_sipush hx hb hd hv (hKo _ _ _ _ h H locs lsC hP hD hS hn hl)
  case ldc ix =>
    simp only [zchk, Bool.and_eq_true, decide_eq_true_eq] at hck
    obtain ⟨hd, rfl, -⟩ := hck
    dsimp only [zin] at h
    split at h
    · rename_i x hxv
      exact lv_ldc hx hb hown (hts _ (hg.2.2.2.1 ix x hxv)) hd (hKo _ _ _ _ h H locs lsC hP hD hS hn hl)
    · exact h.elim
  case ldc2_w ix =>
    simp only [zchk, Bool.and_eq_true, decide_eq_true_eq] at hck
    obtain ⟨hd, rfl, -⟩ := hck
    dsimp only [zin] at h
    split at h
    · rename_i x hxv
      exact lv_ldc2 hx hb hown (hts _ (hg.2.2.2.2.1 ix x hxv)) hd (hKo _ _ _ _ h H locs lsC hP hD hS hn hl)
    · exact h.elim
  case lconst z =>
    simp only [zchk, Bool.and_eq_true, decide_eq_true_eq] at hck
    obtain ⟨hd, rfl, -⟩ := hck
    exact lv_lconst hx hb hd rfl (hKo _ _ _ _ h H locs lsC hP hD hS hn hl)
  case iadd =>
    simp only [zchk, Bool.and_eq_true, decide_eq_true_eq] at hck
    obtain ⟨hd, rfl, -⟩ := hck
    obtain ⟨x, y, r, rfl, h1⟩ := z2_inv h
    exact lv_iadd hx hb hd (hKo _ _ _ _ h1 H locs lsC hP hD hS hn hl)
  case isub =>
    simp only [zchk, Bool.and_eq_true, decide_eq_true_eq] at hck
    obtain ⟨hd, rfl, -⟩ := hck
    obtain ⟨x, y, r, rfl, h1⟩ := z2_inv h
    exact lv_isub hx hb hd (hKo _ _ _ _ h1 H locs lsC hP hD hS hn hl)
  case imul =>
    simp only [zchk, Bool.and_eq_true, decide_eq_true_eq] at hck
    obtain ⟨hd, rfl, -⟩ := hck
    obtain ⟨x, y, r, rfl, h1⟩ := z2_inv h
    exact lv_imul hx hb hd (hKo _ _ _ _ h1 H locs lsC hP hD hS hn hl)
  case iand =>
    simp only [zchk, Bool.and_eq_true, decide_eq_true_eq] at hck
    obtain ⟨hd, rfl, -⟩ := hck
    obtain ⟨x, y, r, rfl, h1⟩ := z2_inv h
    exact lv_iand hx hb hd (hKo _ _ _ _ h1 H locs lsC hP hD hS hn hl)
  case ior =>
    simp only [zchk, Bool.and_eq_true, decide_eq_true_eq] at hck
    obtain ⟨hd, rfl, -⟩ := hck
    obtain ⟨x, y, r, rfl, h1⟩ := z2_inv h
    exact lv_ior hx hb hd (hKo _ _ _ _ h1 H locs lsC hP hD hS hn hl)
  case ishl =>
    simp only [zchk, Bool.and_eq_true, decide_eq_true_eq] at hck
    obtain ⟨hd, rfl, -⟩ := hck
    dsimp only [zin] at h
    split at h
    · exact lv_ishl hx hb hd (hKo _ _ _ _ h H locs lsC hP hD hS hn hl)
    · exact h.elim
  case ishr =>
    simp only [zchk, Bool.and_eq_true, decide_eq_true_eq] at hck
    obtain ⟨hd, rfl, -⟩ := hck
    dsimp only [zin] at h
    split at h
    · exact lv_ishr hx hb hd (hKo _ _ _ _ h H locs lsC hP hD hS hn hl)
    · exact h.elim
  case idiv =>
    simp only [zchk, Bool.and_eq_true, decide_eq_true_eq] at hck
    obtain ⟨hd, rfl, -⟩ := hck
    obtain ⟨x, y, r, rfl, h0, h1⟩ := z2d_inv h
    exact lv_idiv hx hb hd h0 (hKo _ _ _ _ h1 H locs lsC hP hD hS hn hl)
  case irem =>
    simp only [zchk, Bool.and_eq_true, decide_eq_true_eq] at hck
    obtain ⟨hd, rfl, -⟩ := hck
    dsimp only [zin] at h
    split at h
    · exact lv_irem hx hb hd h.1 (hKo _ _ _ _ h.2 H locs lsC hP hD hS hn hl)
    · exact h.elim
  case ineg =>
    simp only [zchk, Bool.and_eq_true, decide_eq_true_eq] at hck
    obtain ⟨hd, rfl, -⟩ := hck
    obtain ⟨x, r, rfl, h1⟩ := z1_inv h
    exact lv_ineg hx hb hd (hKo _ _ _ _ h1 H locs lsC hP hD hS hn hl)
  case i2b =>
    simp only [zchk, Bool.and_eq_true, decide_eq_true_eq] at hck
    obtain ⟨hd, rfl, -⟩ := hck
    dsimp only [zin] at h
    split at h
    · exact lv_i2b hx hb hd rfl (hKo _ _ _ _ h H locs lsC hP hD hS hn hl)
    · exact h.elim
  case ladd =>
    simp only [zchk, Bool.and_eq_true, decide_eq_true_eq] at hck
    obtain ⟨hd, rfl, -⟩ := hck
    dsimp only [zin] at h
    split at h
    · exact lv_ladd hx hb hd (hKo _ _ _ _ h H locs lsC hP hD hS hn hl)
    · exact h.elim
  case lcmp =>
    simp only [zchk, Bool.and_eq_true, decide_eq_true_eq] at hck
    obtain ⟨hd, rfl, -⟩ := hck
    dsimp only [zin] at h
    split at h
    · exact W.lcmp hx hb hd (hKo _ _ _ _ h H locs lsC hP hD hS hn hl)
    · exact h.elim
  case dup =>
    simp only [zchk, Bool.and_eq_true, decide_eq_true_eq] at hck
    obtain ⟨hd, rfl, -⟩ := hck
    dsimp only [zin] at h
    split at h
    · obtain ⟨a, b⟩ := zbool_inv h
      exact lv_dup hx hb hd (by rw [zv_cat]; exact Nat.eq_of_beq_eq_true a) (hKo _ _ _ _ b H locs lsC hP hD hS hn hl)
    · exact h.elim
  case dup2 =>
    simp only [zchk, Bool.and_eq_true, decide_eq_true_eq] at hck
    obtain ⟨hd, rfl, -⟩ := hck
    dsimp only [zin] at h
    split at h
    · obtain ⟨a, b⟩ := zbool_inv h
      rw [Bool.and_eq_true] at a
      exact lv_dup2_11 hx hb hd (by rw [zv_cat]; exact Nat.eq_of_beq_eq_true a.1) (by rw [zv_cat]; exact Nat.eq_of_beq_eq_true a.2) (hKo _ _ _ _ b H locs lsC hP hD hS hn hl)
    · exact h.elim
  case pop =>
    simp only [zchk, Bool.and_eq_true, decide_eq_true_eq] at hck
    obtain ⟨hd, rfl, -⟩ := hck
    dsimp only [zin] at h
    split at h
    · obtain ⟨a, b⟩ := zbool_inv h
      exact lv_pop hx hb hd (by rw [zv_cat]; exact Nat.eq_of_beq_eq_true a) (hKo _ _ _ _ b H locs lsC hP hD hS hn hl)
    · exact h.elim
  case iinc k z =>
    simp only [zchk, Bool.and_eq_true, decide_eq_true_eq] at hck
    obtain ⟨hd, rfl, hv⟩ := hck
    dsimp only [zin] at h
    split at h
    · rename_i x hk
      obtain ⟨pl, hpl⟩ := List.getElem?_of_mem (zlist_mem (ad := ad).mpr ⟨k, .int x, hk, rfl, rfl⟩)
      have hlt : k < nL := by rw [← hl.2.2.1]; exact (List.getElem?_eq_some_iff.mp hk).1
      exact lv_iinc hx hb hd hl.has hpl (by rw [hv]) hlt rfl (fun ls' h' => hKo _ _ _ _ h H locs ls' hP hD hS hn (zLH.put (v := .int (x + v)) hl.2.2.1 hlt h'))
    · exact h.elim
  case goto off =>
    simp only [zchk, Bool.and_eq_true, decide_eq_true_eq] at hck
    obtain ⟨hd, rfl, hv⟩ := hck
    dsimp only [zin] at h
    split at h
    · simp only [ztg, decide_eq_true_eq] at hv
      exact lv_goto hx hb hd hv (hKo _ _ _ _ h H locs lsC hP hD hS hn hl)
    · exact h.elim
  case ifCond o off =>
    simp only [zchk, Bool.and_eq_true, decide_eq_true_eq] at hck
    obtain ⟨hd, rfl, hv⟩ := hck
    dsimp only [zin] at h
    split at h
    · simp only [ztg, decide_eq_true_eq] at hv
      cases o
      · exact lv_if_eq hx hb hd hv (fun q => hKo _ _ _ _ (h.1 q) H locs lsC hP hD hS hn hl) (fun q => hKo _ _ _ _ (h.2 q) H locs lsC hP hD hS hn hl)
      · exact lv_if_ne hx hb hd hv (fun q => hKo _ _ _ _ (h.2 q) H locs lsC hP hD hS hn hl) (fun q => hKo _ _ _ _ (h.1 q) H locs lsC hP hD hS hn hl)
      · exact lv_if_lt hx hb hd hv (fun q => hKo _ _ _ _ (h.1 q) H locs lsC hP hD hS hn hl) (fun q => hKo _ _ _ _ (h.2 q) H locs lsC hP hD hS hn hl)
      · exact lv_if_ge hx hb hd hv (fun q => hKo _ _ _ _ (h.1 q) H locs lsC hP hD hS hn hl) (fun q => hKo _ _ _ _ (h.2 q) H locs lsC hP hD hS hn hl)
      · exact lv_if_gt hx hb hd hv (fun q => hKo _ _ _ _ (h.1 q) H locs lsC hP hD hS hn hl) (fun q => hKo _ _ _ _ (h.2 q) H locs lsC hP hD hS hn hl)
      · exact lv_if_le hx hb hd hv (fun q => hKo _ _ _ _ (h.1 q) H locs lsC hP hD hS hn hl) (fun q => hKo _ _ _ _ (h.2 q) H locs lsC hP hD hS hn hl)
    · exact h.elim
  case if_icmp o off =>
    simp only [zchk, Bool.and_eq_true, decide_eq_true_eq] at hck
    obtain ⟨hd, rfl, hv⟩ := hck
    dsimp only [zin] at h
    split at h
    · simp only [ztg, decide_eq_true_eq] at hv
      cases o
      · exact lv_icmp_eq hx hb hd hv (fun q => hKo _ _ _ _ (h.1 q) H locs lsC hP hD hS hn hl) (fun q => hKo _ _ _ _ (h.2 q) H locs lsC hP hD hS hn hl)
      · exact lv_icmp_ne hx hb hd hv (fun q => hKo _ _ _ _ (h.2 q) H locs lsC hP hD hS hn hl) (fun q => hKo _ _ _ _ (h.1 q) H locs lsC hP hD hS hn hl)
      · exact lv_icmp_lt hx hb hd hv (fun q => hKo _ _ _ _ (h.1 q) H locs lsC hP hD hS hn hl) (fun q => hKo _ _ _ _ (h.2 q) H locs lsC hP hD hS hn hl)
      · exact lv_icmp_ge hx hb hd hv (fun q => hKo _ _ _ _ (h.1 q) H locs lsC hP hD hS hn hl) (fun q => hKo _ _ _ _ (h.2 q) H locs lsC hP hD hS hn hl)
      · exact lv_icmp_gt hx hb hd hv (fun q => hKo _ _ _ _ (h.1 q) H locs lsC hP hD hS hn hl) (fun q => hKo _ _ _ _ (h.2 q) H locs lsC hP hD hS hn hl)
      · exact lv_icmp_le hx hb hd hv (fun q => hKo _ _ _ _ (h.1 q) H locs lsC hP hD hS hn hl) (fun q => hKo _ _ _ _ (h.2 q) H locs lsC hP hD hS hn hl)
    · exact h.elim
  case tableswitch d lo hi offs =>
    simp only [zchk, Bool.and_eq_true, decide_eq_true_eq] at hck
    obtain ⟨hd, hv, hlh⟩ := hck
    dsimp only [zin] at h
    split at h
    · rename_i d' ts x r
      by_cases ho : x.toInt < lo ∨ hi < x.toInt
      · obtain ⟨o, h1, h2⟩ := ztgs_get hv 0 d' rfl
        cases h1
        exact lv_tableOut hx hb hd ho h2 (hKo _ _ _ _ (h.1 ho) H locs lsC hP hD hS hn hl)
      · have hlen := ztgs_len hv
        rw [List.length_cons, List.length_cons] at hlen
        obtain ⟨t, ht⟩ : ∃ t, ts[(x.toInt - lo).toNat]? = some t := by
          have : (x.toInt - lo).toNat < ts.length := by omega
          exact ⟨_, List.getElem?_eq_getElem this⟩
        obtain ⟨o, h1, h2⟩ := ztgs_get hv ((x.toInt - lo).toNat + 1) t ht
        rw [List.getElem?_cons_succ] at h1
        exact lv_tableIn hx hb hd (fun q => ho (Or.inl q)) (fun q => ho (Or.inr q)) (by rw [← Array.getElem?_toList]; exact h1) h2 (hKo _ _ _ _ (zsw_get h.2 _ t ht (by omega)) H locs lsC hP hD hS hn hl)
    · exact h.elim
  case lookupswitch d ps =>
    simp only [zchk, Bool.and_eq_true, decide_eq_true_eq] at hck
    obtain ⟨hd, hv, hps⟩ := hck
    dsimp only [zin] at h
    split at h
    · rename_i d' ts x r
      simp only [ztgs, Bool.and_eq_true, decide_eq_true_eq] at hv
      obtain ⟨t, h1, h2⟩ := zlk_get hv.1 h hv.2
      exact lv_lookup hx hb hd hps rfl h1 (hKo _ _ _ _ h2 H locs lsC hP hD hS hn hl)
    · exact h.elim
  case getfield ix =>
    simp only [zchk, Bool.and_eq_true, decide_eq_true_eq] at hck
    obtain ⟨hd, rfl, -⟩ := hck
    obtain ⟨ci, j, ty, k, r, fs, w, h1, rfl, h2, h3, h4⟩ := zgf_inv h
    obtain ⟨q, q1, q2, q3, q4, -, -⟩ := hg.2.1 ix ci j ty h1
    exact va_get hx hb hts q4 hown hK hP k (zws_get h2) q1 j q2 (hts _ q3) (fun _ h9 => h9) (v := zv ad w) (by rw [List.getElem?_map, h3]; rfl) hd (hKo _ _ _ _ h4 H locs lsC hP hD hS hn hl)
  case putfield ix =>
    simp only [zchk, Bool.and_eq_true, decide_eq_true_eq] at hck
    obtain ⟨hd, rfl, -⟩ := hck
    obtain ⟨ci, j, ty, k, r, fs, w, h1, rfl, h2, h3, h4⟩ := zpf_inv h
    obtain ⟨q, q1, q2, q3, q4, q5, q6⟩ := hg.2.2.1 ix ci j ty h1
    obtain ⟨ty0, y1, y2⟩ := zcls ci q q1
    obtain ⟨f1, f2, f3⟩ := zfit_inv h4 ad
    refine va_put hx hb hts q4 ty0 y1 y2 hown hK hP hD hS k (zws_get h2) q1 j q2 (hts _ q3) (fun _ h9 => h9) (q6 rfl) q5 f1 f2 (by rw [List.length_map]; exact h3) hd (fun H1 locs1 p1 d1 s1 => ?_)
    have ew : (zws cy ad ws).set k (ad k, .inr (ci, (fs.map (zv ad)).set j (zv ad w))) = zws cy ad (ws.set k (.inr (.inr (ci, fs.set j w)))) := by
      rw [zws_set]
      show _ = (zws cy ad ws).set k (ad k, .inr (ci, (fs.set j w).map (zv ad)))
      rw [List.map_set]
    rw [ew] at p1 d1
    exact hKo _ _ _ _ f3 H1 locs1 lsC p1 d1 s1 (by rw [List.length_set]; exact hn) hl
  case iaload =>
    simp only [zchk, Bool.and_eq_true, decide_eq_true_eq] at hck
    obtain ⟨hd, rfl, -⟩ := hck
    obtain ⟨i, k, r, t, n, f, rfl, h1, h2, h3, h4⟩ := zal_inv h
    have h2 : t = 0 := h2
    subst h2
    exact va_iald hx hb hK hP k 0 (zws_get h1) rfl h3 hd (hKo _ _ _ _ h4 H locs lsC hP hD hS hn hl)
  case baload =>
    simp only [zchk, Bool.and_eq_true, decide_eq_true_eq] at hck
    obtain ⟨hd, rfl, -⟩ := hck
    obtain ⟨i, k, r, t, n, f, rfl, h1, h2, h3, h4⟩ := zal_inv h
    have h2 : t = 1 ∨ t = 2 := by simpa using h2
    rcases h2 with rfl | rfl
    · exact va_bald hx hb hK hP k 1 (zws_get h1) rfl h3 hd (hKo _ _ _ _ h4 H locs lsC hP hD hS hn hl)
    · exact va_zald hx hb hK hP k 2 (zws_get h1) rfl h3 hd (hKo _ _ _ _ h4 H locs lsC hP hD hS hn hl)
  case iastore =>
    simp only [zchk, Bool.and_eq_true, decide_eq_true_eq] at hck
    obtain ⟨hd, rfl, -⟩ := hck
    obtain ⟨x, i, k, r, t, n, f, rfl, h1, h3, h4⟩ := zas_inv h
    rcases h4 with ⟨-, rfl, h4⟩ | ⟨h0, -⟩ | ⟨h0, -⟩
    · refine va_iast hx hb hK hP hD hS k 0 (zws_get h1) rfl h3 hd (fun H1 locs1 p1 d1 s1 => ?_)
      have ew : zws cy ad (ws.set k (.inl (0, n, upd f i.toNatClampNeg x))) = (zws cy ad ws).set k (ad k, .inl (cy 0, n, .inl (upd f i.toNatClampNeg x))) := zws_set _ _ _ _ _
      rw [← ew] at p1 d1
      exact hKo _ _ _ _ h4 H1 locs1 lsC p1 d1 s1 (by rw [List.length_set]; exact hn) hl
    · cases h0
    · cases h0
  case bastore =>
    simp only [zchk, Bool.and_eq_true, decide_eq_true_eq] at hck
    obtain ⟨hd, rfl, -⟩ := hck
    obtain ⟨x, i, k, r, t, n, f, rfl, h1, h3, h4⟩ := zas_inv h
    rcases h4 with ⟨h0, -⟩ | ⟨-, rfl, h4⟩ | ⟨-, rfl, h4⟩
    · cases h0
    · refine va_bast hx hb hK hP hD hS k 1 (zws_get h1) rfl h3 hd (fun H1 locs1 p1 d1 s1 => ?_)
      have ew : zws cy ad (ws.set k (.inl (1, n, upd f i.toNatClampNeg (vp_nar .byte x)))) = (zws cy ad ws).set k (ad k, .inl (cy 1, n, .inl (upd f i.toNatClampNeg (vp_nar .byte x)))) := zws_set _ _ _ _ _
      rw [← ew] at p1 d1
      exact hKo _ _ _ _ h4 H1 locs1 lsC p1 d1 s1 (by rw [List.length_set]; exact hn) hl
    · refine va_zast hx hb hK hP hD hS k 2 (zws_get h1) rfl h3 hd (fun H1 locs1 p1 d1 s1 => ?_)
      have ew : zws cy ad (ws.set k (.inl (2, n, upd f i.toNatClampNeg (vp_nar .boolean x)))) = (zws cy ad ws).set k (ad k, .inl (cy 2, n, .inl (upd f i.toNatClampNeg (vp_nar .boolean x)))) := zws_set _ _ _ _ _
      rw [← ew] at p1 d1
      exact hKo _ _ _ _ h4 H1 locs1 lsC p1 d1 s1 (by rw [List.length_set]; exact hn) hl
  case aaload =>
    simp only [zchk, Bool.and_eq_true, decide_eq_true_eq] at hck
    obtain ⟨hd, rfl, -⟩ := hck
    obtain ⟨i, k, r, t, lq, a, rfl, h1, h2, h3, h4, h5⟩ := zaa_inv h
    have er : va_rf (((lq[i.toNatClampNeg]?).getD none).map ad) = .ref (ad a) := by rw [h4]; rfl
    have key : W p l e R s m args below meth c H locs cells slots Q (F0 m (pc + 1) lsC (va_rf (((lq[i.toNatClampNeg]?).getD none).map ad) :: r.map (zv ad))) := by
      rw [er]
      exact hKo _ _ _ _ h5 H locs lsC hP hD hS hn hl
    rcases h2 with rfl | rfl
    · exact va_aldq hx hb hK hP k 3 (zws_get h1) rfl h3 hd key
    · exact va_aldq hx hb hK hP k 4 (zws_get h1) rfl h3 hd key
  case aastore =>
    simp only [zchk, Bool.and_eq_true, decide_eq_true_eq] at hck
    obtain ⟨hd, rfl, -⟩ := hck
    obtain ⟨a, i, k, r, t, lq, ci, fs, rfl, h1, h2, h3, h4, h5⟩ := zax_inv h
    have hlt : i.toNatClampNeg < lq.length := Nat.not_le.mp fun q => h4 (Or.inr q)
    have ew : zws cy ad (ws.set k (.inr (.inl (t, lq.set i.toNatClampNeg (some a))))) = (zws cy ad ws).set k (ad k, .inl (cy t, lq.length, .inr (.inr (.inr (.inr (va_up (fun j => ((lq[j]?).getD none).map ad) i.toNatClampNeg (some (ad a)))))))) := by
      rw [zws_set, zset_q cy ad t lq _ a hlt]
    rcases h3 with ⟨rfl, rfl⟩ | ⟨rfl, rfl⟩
    · refine va_astq hx hb hK hP hD hS k 3 a 0 (r := (RX0, TX0, 3)) (zws_get h1) rfl (zws_get h2) rfl h4 hd (fun H1 locs1 p1 d1 s1 => ?_)
      rw [← ew] at p1 d1
      exact hKo _ _ _ _ h5 H1 locs1 lsC p1 d1 s1 (by rw [List.length_set]; exact hn) hl
    · refine va_astq hx hb hK hP hD hS k 4 a 1 (r := (RX1, TX1, 8)) (zws_get h1) rfl (zws_get h2) rfl h4 hd (fun H1 locs1 p1 d1 s1 => ?_)
      rw [← ew] at p1 d1
      exact hKo _ _ _ _ h5 H1 locs1 lsC p1 d1 s1 (by rw [List.length_set]; exact hn) hl
  case arraylength =>
    simp only [zchk, Bool.and_eq_true, decide_eq_true_eq] at hck
    obtain ⟨hd, rfl, -⟩ := hck
    obtain ⟨k, r, t, n, f, rfl, h1, h2, h3⟩ := zan_inv h
    rcases (show t = 0 ∨ t = 1 ∨ t = 2 by omega) with rfl | rfl | rfl
    · exact va_alen hx hb hK hP k 0 (zws_get h1) rfl rfl hd (hKo _ _ _ _ h3 H locs lsC hP hD hS hn hl)
    · exact va_alen hx hb hK hP k 1 (zws_get h1) rfl rfl hd (hKo _ _ _ _ h3 H locs lsC hP hD hS hn hl)
    · exact va_alen hx hb hK hP k 2 (zws_get h1) rfl rfl hd (hKo _ _ _ _ h3 H locs lsC hP hD hS hn hl)
  case invokevirtual ix =>
    simp only [zchk, Bool.and_eq_true, decide_eq_true_eq] at hck
    obtain ⟨hd, rfl, -⟩ := hck
    exact call hd (hcV ix) h
  case invokestatic ix =>
    simp only [zchk, Bool.and_eq_true, decide_eq_true_eq] at hck
    obtain ⟨hd, rfl, -⟩ := hck
    dsimp only [zin] at h
    unfold zis at h
    split at h
    · rename_i o ho
      have hm := hg.2.2.2.2.2 ix o ho
      unfold zma at h
      split at h
      · split at h
        · obtain ⟨a, b⟩ := zbool_inv h
          obtain ⟨m1, m2, m3, m4⟩ := hm
          have a := Nat.le_of_ble_eq_true a
          exact va_mmax hx hb (by rw [hml]; exact hl.1.symm) hown (hts _ m1) (hts _ m2) (hts _ m3) (hts _ m4) hR.1 (by rw [zcat_map]; omega) hcs.1 hcs.2 hd (hKo _ _ _ _ b H locs lsC hP hD hS hn hl)
        · exact h.elim
      · split at h
        · obtain ⟨a, b⟩ := zbool_inv h
          obtain ⟨m1, m2, m3, m4⟩ := hm
          have a := Nat.le_of_ble_eq_true a
          exact va_mmin hx hb (by rw [hml]; exact hl.1.symm) hown (hts _ m1) (hts _ m2) (hts _ m3) (hts _ m4) hR.1 (by rw [zcat_map]; omega) hcs.1 hcs.2 hd (hKo _ _ _ _ b H locs lsC hP hD hS hn hl)
        · exact h.elim
      · split at h
        · obtain ⟨a, b⟩ := zbool_inv h
          obtain ⟨m1, m2, m3, m4⟩ := hm
          have a := Nat.le_of_ble_eq_true a
          exact va_mabs hx hb (by rw [hml]; exact hl.1.symm) hown (hts _ m1) (hts _ m2) (hts _ m3) (hts _ m4) hR.1 (by rw [zcat_map]; omega) hcs.1 hcs.2 hd (hKo _ _ _ _ b H locs lsC hP hD hS hn hl)
        · exact h.elim
      · split at h
        · split at h
          · rename_i k0 k1
            obtain ⟨a, ⟨e1, e2, e3, e4, e5⟩, b⟩ := zbool_inv h
            obtain ⟨m1, m2, m3, m4⟩ := hm
            simp only [Bool.and_eq_true] at a
            obtain ⟨a, a0, a1⟩ := a
            have a := Nat.le_of_ble_eq_true a
            have a0 := Nat.eq_of_beq_eq_true a0
            have a1 := Nat.eq_of_beq_eq_true a1
            subst a0; subst a1
            refine va_copyi hx hb (by rw [hml]; exact hl.1.symm) hown (hts _ m1) (hts _ m2) (hts _ m3) (hts _ m4) hK hP hD hS _ _ 0 0 (zws_get k0) (zws_get k1) rfl rfl rfl e1 e2 e3 e4 e5 (fun _ _ => rfl) hR.1 ?_ hd (fun H1 locs1 p1 d1 s1 => ?_)
            · rw [zcat_map]
              have : nativeFrameWords "java/lang/System" "arraycopy" 5 ≤ 100 := by decide
              omega
            · rw [show ∀ (k : Nat) (nn : Nat) (ff : Nat → Int32), (zws cy ad ws).set k (ad k, .inl (cy 0, nn, .inl ff)) = zws cy ad (ws.set k (.inl (0, nn, ff))) from fun k nn ff => (zws_set cy ad ws k (.inl (0, nn, ff))).symm] at p1 d1
              exact hKo _ _ _ _ b H1 locs1 lsC p1 d1 s1 (by rw [List.length_set]; exact hn) hl
          · exact h.elim
        · exact h.elim
      · exact h.elim
    · exact call hd (hcS ix) h
  case ireturn =>
    simp only [zchk, Bool.and_eq_true, decide_eq_true_eq] at hck
    obtain ⟨hd, rfl, -⟩ := hck
    dsimp only [zin] at h
    split at h
    · rename_i x
      exact hRt (some (.int x)) ws pc H locs lsC h hd (Or.inr (Or.inl ⟨x, rfl⟩)) hP hD hS hn
    · exact h.elim
  case lreturn =>
    simp only [zchk, Bool.and_eq_true, decide_eq_true_eq] at hck
    obtain ⟨hd, rfl, -⟩ := hck
    dsimp only [zin] at h
    split at h
    · rename_i x
      exact hRt (some (.long x)) ws pc H locs lsC h hd (Or.inr (Or.inr ⟨x, rfl⟩)) hP hD hS hn
    · exact h.elim
  case return_ =>
    simp only [zchk, Bool.and_eq_true, decide_eq_true_eq] at hck
    obtain ⟨hd, rfl, -⟩ := hck
    dsimp only [zin] at h
    split at h
    · exact hRt none ws pc H locs lsC h hd (Or.inl rfl) hP hD hS hn
    · exact h.elim
  all_goals exact h.elim
end ZS
end
section
/-! ===== a run to the next cut; a method's run to its end, as the least predicate that is closed under it ===== -/
noncomputable def zrun (M : zM) (Rt : zP) (K : zK) (cuts : List Nat) (k : Nat) : zK := Nat.rec (motive := fun _ => zK) K (fun _ ih pc ls st ws => match cuts.any (Nat.beq pc) with
  | true => K pc ls st ws
  | false => zstep M Rt ih pc ls st ws) k
theorem zrun_ok {M : zM} {Rt : zP} {OK : zK} (hs : ∀ K : zK, (∀ pc ls st ws, K pc ls st ws → OK pc ls st ws) → ∀ pc ls st ws, zstep M Rt K pc ls st ws → OK pc ls st ws) (cuts : List Nat) : ∀ (k pc : Nat) (ls : List (Option Value)) (st : List Value) (ws : zW), zrun M Rt OK cuts k pc ls st ws → OK pc ls st ws := by
  intro k
  induction k with
  | zero => intro pc ls st ws h; exact h
  | succ k ih =>
    intro pc ls st ws h
    have h : (match cuts.any (Nat.beq pc) with
      | true => OK pc ls st ws
      | false => zstep M Rt (zrun M Rt OK cuts k) pc ls st ws) := h
    split at h
    · exact h
    · exact hs _ ih pc ls st ws h
def zRt (rt : Nat) (post : zP) : zP := match rt with
  | 0 => fun rv u => match rv with
    | none => post none u
    | _ => False
  | 1 => fun rv u => match rv with
    | some (.int x) => post (some (.int x)) u
    | _ => False
  | 2 => fun rv u => match rv with
    | some (.long x) => post (some (.long x)) u
    | _ => False
  | _ => fun rv u => match rv with
    | some (.int x) => (x = 0 ∨ x = 1) ∧ post (some (.int x)) u
    | _ => False
def zEnt (as : List Value) (nL : Nat) : List (Option Value) := as.map some ++ List.replicate (nL - as.length) none
/-- two worlds that differ only where an array ends -/
def zEqC (c c' : zCell) : Prop := match c, c' with
  | .inl (t, n, f), .inl (t', n', f') => zbool (Nat.beq t t' && Nat.beq n n') (∀ j, j < n → f j = f' j)
  | .inr a, .inr b => a = b
  | _, _ => False
def zEqW : zW → zW → Prop
  | [], [] => True
  | c :: cs, c' :: cs' => zEqC c c' ∧ zEqW cs cs'
  | _, _ => False
def zCl (M : zM) (rt : Nat) (post : zP) (K : zK) : Prop := (∀ (cuts : List Nat) (k pc : Nat) (ls : List (Option Value)) (st : List Value) (ws : zW), zstep M (zRt rt post) (zrun M (zRt rt post) K cuts k) pc ls st ws → K pc ls st ws) ∧ ∀ (pc : Nat) (ls : List (Option Value)) (st : List Value) (ws ws' : zW), zEqW ws ws' → K pc ls st ws' → K pc ls st ws
def zGoes (M : zM) (rt nL : Nat) : zG := fun as ws post => ∀ K : zK, zCl M rt post K → K 0 (zEnt as nL) [] ws
/-! ===== contracts ===== -/
def zwd (y : MethodName) (cc : ByteArray) (nL : Nat) (ret : Option FieldType) : List Jvm.Cond := Jvm.Cond.code y cc nL ret :: zTs
def zPre (D : va_G) (cy : Nat → ClassId) (ad : Nat → Nat) (sz : Nat) (as : List Value) (ws : zW) : Array Value → State → Prop := va_Pc (as.map (zv ad)) (fun U => U.heap.size = sz ∧ va_P D vwCl (zws cy ad ws) U.heap ∧ zKK D cy U ∧ va_D (fun _ => True) (zws cy ad ws))
def zQB (D : va_G) (cy : Nat → ClassId) (ad : Nat → Nat) (u : zW) (t : State) : Prop := va_P D vwCl (zws cy ad u) t.heap
def zQ (rt : Nat) (D : va_G) (cy : Nat → ClassId) (ad : Nat → Nat) (sz : Nat) (ws : zW) (post : zP) : Array Value → State → Outcome → State → Prop := match rt with
  | 0 => va_Qv (S := zW) (fun u => post none u ∧ u.length = ws.length) (zQB D cy ad) (va_A (zws cy ad ws) sz)
  | 2 => va_Ql (S := zW) (fun r u => post (some (.long r)) u ∧ u.length = ws.length) (zQB D cy ad) (va_A (zws cy ad ws) sz)
  | _ => va_Qi (S := zW) (fun r u => post (some (.int r)) u ∧ u.length = ws.length) (zQB D cy ad) (va_A (zws cy ad ws) sz)
def zMet (l : Launch) (y : MethodName) (Tw : List Jvm.Cond) (rm : Room) (rt : Nat) (as : List Value) (ws : zW) (post : zP) : Prop := ∀ (D : va_G) (cy : Nat → ClassId) (ad : Nat → Nat) (sz : Nat), Met l y Tw rm (zPre D cy ad sz as ws) (zQ rt D cy ad sz ws post) 0 0 (va_A (zws cy ad ws) sz)
theorem zPre_blind {D : va_G} {cy : Nat → ClassId} {ad : Nat → Nat} {sz : Nat} {as : List Value} {ws : zW} : FrameBlind (zPre D cy ad sz as ws) := by
  intro a U g mk h
  obtain ⟨h1, h2, h3, h4, h5⟩ := h
  exact ⟨h1, h2, h3, h4.calling, h5⟩
theorem zD_len {cy : Nat → ClassId} {ad : Nat → Nat} {A : Nat → Prop} {ws ws' : zW} (h : va_D A (zws cy ad ws)) (hn : ws'.length = ws.length) : va_D A (zws cy ad ws') := by
  have key : ∀ (k : Nat) (q : Nat × va_E), (zws cy ad ws')[k]? = some q → ∃ c, (zws cy ad ws)[k]? = some (q.1, c) := by
    intro k q hk
    obtain ⟨c, hc, rfl⟩ := zws_inv hk
    have hlt : k < ws.length := by rw [← hn]; exact (List.getElem?_eq_some_iff.mp hc).1
    exact ⟨_, zws_get (List.getElem?_eq_getElem hlt)⟩
  refine ⟨fun i j x y hi hj hxy => ?_, fun k q hk => ?_⟩
  · obtain ⟨c1, h1⟩ := key i x hi
    obtain ⟨c2, h2⟩ := key j y hj
    exact h.1 i j _ _ h1 h2 hxy
  · obtain ⟨c1, h1⟩ := key k q hk
    exact h.2 k (q.1, c1) h1
theorem zEqW_get : ∀ {ws ws' : zW}, zEqW ws ws' → ws.length = ws'.length ∧ ∀ (k : Nat) (c' : zCell), ws'[k]? = some c' → ∃ c, ws[k]? = some c ∧ zEqC c c'
  | [], [], _ => ⟨rfl, fun k c' h => by simp at h⟩
  | c :: cs, c' :: cs', h => by
    obtain ⟨h1, h2⟩ := h
    obtain ⟨h3, h4⟩ := zEqW_get h2
    refine ⟨by rw [List.length_cons, List.length_cons, h3], fun k d hd => ?_⟩
    cases k with
    | zero => rw [List.getElem?_cons_zero] at hd; cases hd; exact ⟨c, rfl, h1⟩
    | succ k =>
      rw [List.getElem?_cons_succ] at hd
      obtain ⟨e, h5, h6⟩ := h4 k d hd
      exact ⟨e, by rw [List.getElem?_cons_succ]; exact h5, h6⟩
  | [], c' :: cs', h => h.elim
  | c :: cs, [], h => h.elim
theorem arrV_congr {cA : ClassId} {n : Nat} {z z' : Nat → Value} (h : ∀ j, j < n → z j = z' j) : arrV cA n z = arrV cA n z' := by
  unfold arrV
  congr 2
  funext j
  exact h j.val j.isLt
theorem zEqC_at {D : va_G} {cy : Nat → ClassId} {ad : Nat → Nat} {k : Nat} {c c' : zCell} {H : Heap} (h : zEqC c c') (hat : va_at D vwCl (ad k, zc cy ad c) H) : va_at D vwCl (ad k, zc cy ad c') H := by
  rcases c with ⟨t, n, f⟩ | a
  · rcases c' with ⟨t', n', f'⟩ | b
    · obtain ⟨h1, h2⟩ := zbool_inv h
      rw [Bool.and_eq_true] at h1
      have e1 := Nat.eq_of_beq_eq_true h1.1
      have e2 := Nat.eq_of_beq_eq_true h1.2
      subst e1; subst e2
      have hat : H[ad k]? = some (arrV (cy t) n (fun j => .int (f j))) := hat
      show H[ad k]? = some (arrV (cy t) n (fun j => .int (f' j)))
      rw [hat, arrV_congr (fun j hj => by rw [h2 j hj])]
    · exact h.elim
  · rcases c' with ⟨t', n', f'⟩ | b
    · exact h.elim
    · have h : a = b := h
      subst h
      exact hat
theorem zOK_eq {p : Program} {l : Launch} {e : Env} {R : Room} {s : State} {m : MethodId} {args : Array Value} {below : List Frame} {meth : Method} {c : Code} {cells slots : Nat} {Q : State → Prop} {nL : Nat} {D : va_G} {cy : Nat → ClassId} {ad : Nat → Nat} {A : Nat → Prop} {n0 : Nat} {pc : Nat} {ls : List (Option Value)} {st : List Value} {ws ws' : zW} (he : zEqW ws ws') (h : zOK p l e R s m args below meth c nL D cy ad A n0 cells slots Q pc ls st ws') : zOK p l e R s m args below meth c nL D cy ad A n0 cells slots Q pc ls st ws := by
  obtain ⟨h1, h2⟩ := zEqW_get he
  intro H locs lsC hP hD hS hn hl
  refine h H locs lsC (fun k q hk => ?_) (zD_len hD h1.symm) hS (h1.symm.trans hn) hl
  obtain ⟨c', hc', rfl⟩ := zws_inv hk
  obtain ⟨d, hd, hdc⟩ := h2 k c' hc'
  exact zEqC_at hdc (hP k _ (zws_get hd))
theorem lg_sl_one : ∀ (vs : List Value), (∀ v ∈ vs, v.category = 1) → lg_sl vs = vs.map Slot.val
  | [], _ => rfl
  | v :: vs, h => by
    have h1 := lg_sl_one vs (fun w hw => h w (List.mem_cons_of_mem _ hw))
    have h2 : ¬ v.category = 2 := by rw [h v List.mem_cons_self]; decide
    unfold lg_sl at h1 ⊢
    rw [List.flatMap_cons, if_neg h2, h1]
    rfl
theorem zLH_entry {as : List Value} {nL : Nat} (ad : Nat → Nat) (hc : ∀ v ∈ as, v.category = 1) (hn : as.length ≤ nL) : zLH ((lg_sl (as.map (zv ad)) ++ List.replicate (nL - (lg_sl (as.map (zv ad))).length) Slot.unset).toArray) nL ad (zEnt as nL) := by
  have e : lg_sl (as.map (zv ad)) = (as.map (zv ad)).map Slot.val := lg_sl_one _ (fun v hv => by
    obtain ⟨w, hw, rfl⟩ := List.mem_map.mp hv
    rw [zv_cat]; exact hc w hw)
  have hlen : (lg_sl (as.map (zv ad))).length = as.length := by rw [e, List.length_map, List.length_map]
  have h0 := lv_entry (as.map (zv ad)) (n := nL) (by rw [hlen]; exact hn)
  refine ⟨h0.1, h0.2.1, ?_, fun i v hi _ => ?_⟩
  · unfold zEnt
    rw [List.length_append, List.length_map, List.length_replicate]
    omega
  · unfold zEnt at hi
    rw [List.getElem?_append, List.length_map] at hi
    split at hi
    · rename_i hlt
      rw [List.getElem?_map] at hi
      rw [e, List.getElem?_toArray, List.getElem?_append_left (by rw [List.length_map, List.length_map]; exact hlt), List.getElem?_map, List.getElem?_map]
      cases ha : as[i]? with
      | none => rw [ha] at hi; cases hi
      | some w => rw [ha] at hi; cases hi; rfl
    · rw [List.getElem?_replicate] at hi
      split at hi
      · cases hi
      · cases hi
/-- what a method's tables must keep, and its calls, in any place where it runs -/
def zCalls (M : zM) (l : Launch) (cc : ByteArray) (own : String) (Ts : List Jvm.Cond) (rm : Room) (nL : Nat) : Prop := ∀ (p : Program) (e : Env) (s : State) (m : MethodId) (args : Array Value) (below : List Frame) (meth : Method) (c : Code) (D : va_G) (cy : Nat → ClassId) (ad : Nat → Nat) (A : Nat → Prop) (n0 : Nat) (Q : State → Prop), CallFix p m c cc nL s args Ts own → zKK D cy s → (∀ q, s.heap.size ≤ q → A q) →
  (∀ (ix n : Nat) (G : zG), M.2.2.2.2.2.2.1.lookup ix = some (n, G) → zCO p l e rm s m args below meth c cc nL D cy ad A n0 0 0 Q (.invokevirtual ix) n G) ∧ (∀ (ix n : Nat) (G : zG), M.2.2.2.2.2.2.2.lookup ix = some (n, G) → zCO p l e rm s m args below meth c cc nL D cy ad A n0 0 0 Q (.invokestatic ix) n G)
def zret (rt : Nat) : Option FieldType := match rt with
  | 0 => none
  | 1 => some .int
  | 2 => some .long
  | _ => some .boolean
set_option maxHeartbeats 4000000 in
theorem zGoes_met {l : Launch} {y : MethodName} {M : zM} {cc : ByteArray} {nL rt : Nat} {rm : Room} {as : List Value} {ws : zW} {post : zP} (hy : plainName y.cls = true) (hrm : 1 ≤ rm.frames ∧ 150 ≤ rm.locals) (hrt : rt < 4) (hg : zGood M cc y.cls (zwd y cc nL (zret rt))) (hcalls : zCalls M l cc y.cls (zwd y cc nL (zret rt)) rm nL) (hn : as.length ≤ nL) (hc : ∀ v ∈ as, v.category = 1) (h : zGoes M rt nL as ws post) : zMet l y (zwd y cc nL (zret rt)) rm rt as ws post := by
  intro D cy ad sz
  refine Met.ofW (cc := cc) (maxL := nL) (ret := zret rt) hy rfl ?_
  intro p e s m args below meth c s₁ B hml hv
  obtain ⟨rfl, hsz, hP, hKK, hD0⟩ := hv
  have hx := B.exec
  have hb := B.bytes
  have hr := B.returns
  have hts := atoms_spec (ws := zwd y cc nL (zret rt)) B.pre
  have hown : s.vm.findClass y.cls = some m.cls := findClass_of_methodNamed B.named
  have hlocks := B.notSynchronized
  subst hsz
  have hD := hD0.self (sz := s.heap.size)
  generalize hAe : va_A (zws cy ad ws) s.heap.size = A at hD ⊢
  have hA : ∀ q : Nat, s.heap.size ≤ q → A q := fun q h => by rw [← hAe]; exact Or.inr h
  have hS : va_S A s.heap s.heap [] := va_S.rf
  rw [lg_entry_eq]
  have hcl := hcalls p e s m (as.map (zv ad)).toArray below meth c D cy ad A ws.length (MQ below (zQ rt D cy ad s.heap.size ws post) (as.map (zv ad)).toArray s 0 0 A) ⟨hx, hb, hml, hown, hts⟩ hKK hA
  have hRt : zRO p l e rm s m (as.map (zv ad)).toArray below meth c cc D cy ad A ws.length 0 0 (MQ below (zQ rt D cy ad s.heap.size ws post) (as.map (zv ad)).toArray s 0 0 A) (zRt rt post) := by
    intro rv u pc H locs lsC hrv hd _ p1 d1 s1 n1
    match rt, hrt, rv, hrv, hd, hr with
    | 0, _, none, hrv, hd, hr =>
      refine W.vret hx hb hr (fun t ht hW => ?_) s1.2.2 hd
      exact ⟨⟨u, rfl, ⟨hrv, n1⟩, by unfold zQB; rw [ht]; exact p1⟩, by rw [hAe]; exact s1.F ht⟩
    | 1, _, some (.int x), hrv, hd, hr =>
      refine W.zret hx hb hr rfl (fun t ht hW => ?_) s1.2.2 hd
      exact ⟨⟨x, u, rfl, ⟨hrv, n1⟩, by unfold zQB; rw [ht]; exact p1⟩, by rw [hAe]; exact s1.F ht⟩
    | 2, _, some (.long x), hrv, hd, hr =>
      refine W.lret hx hb hr (fun t ht hW => ?_) s1.2.2 hd
      exact ⟨⟨x, u, rfl, ⟨hrv, n1⟩, by unfold zQB; rw [ht]; exact p1⟩, by rw [hAe]; exact s1.F ht⟩
    | 3, _, some (.int x), hrv, hd, hr =>
      refine W.zret hx hb hr (by rcases hrv.1 with rfl | rfl <;> rfl) (fun t ht hW => ?_) s1.2.2 hd
      exact ⟨⟨x, u, rfl, ⟨hrv.2, n1⟩, by unfold zQB; rw [ht]; exact p1⟩, by rw [hAe]; exact s1.F ht⟩
    | 0, _, some v, hrv, hd, hr => exact hrv.elim
    | 1, _, none, hrv, hd, hr => exact hrv.elim
    | 2, _, none, hrv, hd, hr => exact hrv.elim
    | 3, _, none, hrv, hd, hr => exact hrv.elim
    | 1, _, some (.long x), hrv, hd, hr => exact hrv.elim
    | 1, _, some (.float x), hrv, hd, hr => exact hrv.elim
    | 1, _, some (.double x), hrv, hd, hr => exact hrv.elim
    | 1, _, some .null, hrv, hd, hr => exact hrv.elim
    | 1, _, some (.ref x), hrv, hd, hr => exact hrv.elim
    | 1, _, some (.retAddr x), hrv, hd, hr => exact hrv.elim
    | 2, _, some (.int x), hrv, hd, hr => exact hrv.elim
    | 2, _, some (.float x), hrv, hd, hr => exact hrv.elim
    | 2, _, some (.double x), hrv, hd, hr => exact hrv.elim
    | 2, _, some .null, hrv, hd, hr => exact hrv.elim
    | 2, _, some (.ref x), hrv, hd, hr => exact hrv.elim
    | 2, _, some (.retAddr x), hrv, hd, hr => exact hrv.elim
    | 3, _, some (.long x), hrv, hd, hr => exact hrv.elim
    | 3, _, some (.float x), hrv, hd, hr => exact hrv.elim
    | 3, _, some (.double x), hrv, hd, hr => exact hrv.elim
    | 3, _, some .null, hrv, hd, hr => exact hrv.elim
    | 3, _, some (.ref x), hrv, hd, hr => exact hrv.elim
    | 3, _, some (.retAddr x), hrv, hd, hr => exact hrv.elim
    | k + 4, hrt, _, _, _, _ => omega
  have hs : ∀ K : zK, (∀ pc ls st ws', K pc ls st ws' → zOK p l e rm s m (as.map (zv ad)).toArray below meth c nL D cy ad A ws.length 0 0 (MQ below (zQ rt D cy ad s.heap.size ws post) (as.map (zv ad)).toArray s 0 0 A) pc ls st ws') → ∀ pc ls st ws', zstep M (zRt rt post) K pc ls st ws' → zOK p l e rm s m (as.map (zv ad)).toArray below meth c nL D cy ad A ws.length 0 0 (MQ below (zQ rt D cy ad s.heap.size ws post) (as.map (zv ad)).toArray s 0 0 A) pc ls st ws' :=
    fun K hK pc ls st ws' h1 => zstep_ok hx hb hml hown hts hKK hrm ⟨Nat.zero_le _, Nat.zero_le _⟩ hg hcl.1 hcl.2 hRt hK pc ls st ws' h1
  have hgo := h _ ⟨fun cuts k pc ls st ws' h1 => hs _ (zrun_ok hs cuts k) pc ls st ws' h1, fun pc ls st w1 w2 he h1 => zOK_eq he h1⟩
  exact hgo s.heap [] _ hP hD hS rfl (zLH_entry ad hc hn)
end
section
/-! ===== a callee's own small world inside the caller's: place i of the one is place ρ[i] of the other ===== -/
def zr (ρ : List Nat) : Nat → Nat := fun i => ρ.getD i 0
def zrc (r : Nat → Nat) (c : zCell) : zCell := match c with
  | .inl a => .inl a
  | .inr (.inl a) => .inr (.inl (a.1, a.2.map (Option.map r)))
  | .inr (.inr o) => .inr (.inr (o.1, o.2.map (zv r)))
def zup (r : Nat → Nat) : List Nat → zW → zW → zW
  | k :: ks, c :: cs, ws => zup r ks cs (ws.set k (zrc r c))
  | _, _, ws => ws
theorem zv_zv (ad r : Nat → Nat) (v : Value) : zv ad (zv r v) = zv (fun i => ad (r i)) v := by cases v <;> rfl
theorem zc_ren (cy : Nat → ClassId) (ad r : Nat → Nat) (c : zCell) : zc cy ad (zrc r c) = zc cy (fun i => ad (r i)) c := by
  rcases c with a | a | o
  · rfl
  · have e : (fun i : Nat => ((((a.2.map (Option.map r))[i]?).getD none).map ad)) = (fun i : Nat => (((a.2[i]?).getD none).map (fun i => ad (r i)))) := by
      funext i
      rw [List.getElem?_map]
      cases h : a.2[i]? with
      | none => rfl
      | some x => cases x <;> rfl
    show Sum.inl (cy a.1, (a.2.map (Option.map r)).length, _) = Sum.inl (cy a.1, a.2.length, _)
    rw [List.length_map]
    congr 5
    simp only [e]
  · show Sum.inr (o.1, (o.2.map (zv r)).map (zv ad)) = Sum.inr (o.1, o.2.map (zv (fun i => ad (r i))))
    rw [List.map_map]
    congr 2
    apply List.map_congr_left
    intro v _
    exact zv_zv ad r v
theorem zup_len (r : Nat → Nat) : ∀ (ks : List Nat) (cs ws : zW), (zup r ks cs ws).length = ws.length
  | [], cs, ws => by cases cs <;> rfl
  | k :: ks, [], ws => rfl
  | k :: ks, c :: cs, ws => by
    show (zup r ks cs (ws.set k (zrc r c))).length = ws.length
    rw [zup_len r ks cs, List.length_set]
theorem zup_inv (r : Nat → Nat) : ∀ (ks : List Nat) (cs ws : zW) (k : Nat) (c : zCell), (zup r ks cs ws)[k]? = some c → (∃ (i : Nat) (c' : zCell), ks[i]? = some k ∧ cs[i]? = some c' ∧ c = zrc r c') ∨ (ws[k]? = some c ∧ ∀ i : Nat, i < cs.length → ks[i]? ≠ some k)
  | [], cs, ws, k, c, h => by
    right
    have h : ws[k]? = some c := by cases cs <;> exact h
    exact ⟨h, fun i _ => by simp⟩
  | k0 :: ks, [], ws, k, c, h => Or.inr ⟨h, fun i hi => absurd hi (Nat.not_lt_zero i)⟩
  | k0 :: ks, c0 :: cs, ws, k, c, h => by
    have h : (zup r ks cs (ws.set k0 (zrc r c0)))[k]? = some c := h
    rcases zup_inv r ks cs _ k c h with ⟨i, c', h1, h2, h3⟩ | ⟨h1, h2⟩
    · exact Or.inl ⟨i + 1, c', by rw [List.getElem?_cons_succ]; exact h1, by rw [List.getElem?_cons_succ]; exact h2, h3⟩
    · rw [List.getElem?_set] at h1
      by_cases hk : k0 = k
      · subst hk
        rw [if_pos rfl] at h1
        split at h1
        · cases h1
          exact Or.inl ⟨0, c0, rfl, rfl, rfl⟩
        · cases h1
      · rw [if_neg hk] at h1
        refine Or.inr ⟨h1, fun i hi => ?_⟩
        cases i with
        | zero => intro q; exact hk (Option.some.inj q)
        | succ i =>
          rw [List.getElem?_cons_succ]
          exact h2 i (by rw [List.length_cons] at hi; omega)
def zFr (n : Nat) (G0 : zG) : zG := fun as ws K => (as.length = n ∧ as.all (fun v => Nat.beq v.category 1) = true ∧ G0 as ws K) ∨ ∃ (ρ : List Nat) (al : List Value) (wl : zW), (as = al.map (zv (zr ρ)) ∧ al.length = n ∧ al.all (fun v => Nat.beq v.category 1) = true) ∧ (wl.length ≤ ρ.length ∧ va_nd (ρ.take wl.length) = true) ∧ wl.map (fun c => some (zrc (zr ρ) c)) = (ρ.take wl.length).map (fun k => ws[k]?) ∧ G0 al wl (fun rv wl' => K (rv.map (zv (zr ρ))) (zup (zr ρ) ρ wl' ws))
def zFV (ci n : Nat) (G0 : zG) : zG := fun as ws K => (match as with
  | .ref k :: _ => match ws[k]? with
    | some (.inr (.inr (ci', _))) => Nat.beq ci' ci
    | _ => false
  | _ => false) = true ∧ zFr n G0 as ws K
set_option maxHeartbeats 4000000 in
theorem zMet_frame {l : Launch} {y : MethodName} {Tw : List Jvm.Cond} {rm : Room} {rt : Nat} {al as : List Value} {wl ws : zW} {ρ : List Nat} {K : zP} (h : zMet l y Tw rm rt al wl (fun rv wl' => K (rv.map (zv (zr ρ))) (zup (zr ρ) ρ wl' ws))) (ha : as = al.map (zv (zr ρ))) (hl : wl.length ≤ ρ.length) (hnd : va_nd (ρ.take wl.length) = true) (hw : wl.map (fun c => some (zrc (zr ρ) c)) = (ρ.take wl.length).map (fun k => ws[k]?)) : zMet l y Tw rm rt as ws K := by
  intro D cy ad sz
  have h1 := h D cy (fun i => ad (zr ρ i)) sz
  have hget : ∀ (i : Nat) (c : zCell), wl[i]? = some c → ρ[i]? = some (zr ρ i) ∧ ws[zr ρ i]? = some (zrc (zr ρ) c) := by
    intro i c hi
    have hlt : i < wl.length := (List.getElem?_eq_some_iff.mp hi).1
    have hlt2 : i < ρ.length := by omega
    have e1 : ρ[i]? = some ρ[i] := List.getElem?_eq_getElem hlt2
    have e2 : zr ρ i = ρ[i] := by unfold zr; rw [List.getD_eq_getElem?_getD, e1]; rfl
    refine ⟨by rw [e2]; exact e1, ?_⟩
    have h2 := congrArg (fun l => l[i]?) hw
    simp only [List.getElem?_map, hi, List.getElem?_take, hlt, if_pos, e1, Option.map_some] at h2
    rw [e2]
    exact (Option.some.inj h2).symm
  have hinj : ∀ i j : Nat, i < wl.length → j < wl.length → zr ρ i = zr ρ j → i = j := by
    intro i j hi hj hij
    have gi := (hget i _ (List.getElem?_eq_getElem hi)).1
    have gj := (hget j _ (List.getElem?_eq_getElem hj)).1
    rw [hij] at gi
    have ti : (ρ.take wl.length)[i]? = some (zr ρ j) := by rw [List.getElem?_take, if_pos hi]; exact gi
    have tj : (ρ.take wl.length)[j]? = some (zr ρ j) := by rw [List.getElem?_take, if_pos hj]; exact gj
    exact va_nd_inj _ hnd i j _ ti tj
  have hAA : ∀ q, va_A (zws cy (fun i => ad (zr ρ i)) wl) sz q → va_A (zws cy ad ws) sz q := by
    intro q hq
    rcases hq with ⟨i, x, hi⟩ | hq
    · obtain ⟨c, hc, hx⟩ := zws_inv hi
      cases hx
      exact Or.inl ⟨zr ρ i, _, zws_get (hget i c hc).2⟩
    · exact Or.inr hq
  have keep : ∀ (st t : State) (u : zW), zPre D cy ad sz as ws (as.map (zv ad)).toArray st → u.length = wl.length → va_P D vwCl (zws cy (fun i => ad (zr ρ i)) u) t.heap → va_F (va_A (zws cy (fun i => ad (zr ρ i)) wl) sz) st t → va_P D vwCl (zws cy ad (zup (zr ρ) ρ u ws)) t.heap := by
    intro st t u hpre hul hB hF k q hk
    obtain ⟨-, hsz, hP, -, hD⟩ := hpre
    obtain ⟨c, hc, rfl⟩ := zws_inv hk
    rcases zup_inv _ _ _ _ k c hc with ⟨i, c', g1, g2, rfl⟩ | ⟨g1, g2⟩
    · have hb := hB i _ (zws_get g2)
      have e : zr ρ i = k := by unfold zr; rw [List.getD_eq_getElem?_getD, g1]; rfl
      rw [zc_ren]
      rw [← e]
      exact hb
    · have hat := hP k _ (zws_get g1)
      refine hat.kept (hF.2 (ad k) hat.lt (fun hq => ?_))
      rcases hq with ⟨i, x, hi⟩ | hq
      · obtain ⟨c2, hc2, hx⟩ := zws_inv hi
        have hx1 : ad k = ad (zr ρ i) := congrArg Prod.fst hx
        obtain ⟨r1, r2⟩ := hget i c2 hc2
        have := hD.1 k (zr ρ i) _ _ (zws_get g1) (zws_get r2) hx1
        exact g2 i (by rw [hul]; exact (List.getElem?_eq_some_iff.mp hc2).1) (by rw [this]; exact r1)
      · have := hat.lt
        simp only at this
        omega
  refine MetFree.mono h1 ?_ (fun _ _ _ _ _ h => h) ?_
  · intro a s hp
    obtain ⟨rfl, hsz, hP, hKK, hD⟩ := hp
    refine ⟨?_, hsz, ?_, hKK, ?_, fun _ _ _ => trivial⟩
    · rw [ha, List.map_map]
      congr 1
      apply List.map_congr_left
      intro v _
      exact zv_zv ad (zr ρ) v
    · intro i q hi
      obtain ⟨c, hc, rfl⟩ := zws_inv hi
      have := hP _ _ (zws_get (cy := cy) (ad := ad) (hget i c hc).2)
      rw [zc_ren] at this
      exact this
    · intro i j x y hi hj hxy
      obtain ⟨c, hc, rfl⟩ := zws_inv hi
      obtain ⟨d, hd, rfl⟩ := zws_inv hj
      exact hinj i j (List.getElem?_eq_some_iff.mp hc).1 (List.getElem?_eq_some_iff.mp hd).1 (hD.1 _ _ _ _ (zws_get (cy := cy) (ad := ad) (hget i c hc).2) (zws_get (cy := cy) (ad := ad) (hget j d hd).2) hxy)
  · intro a st o t hp hq
    have hp0 := hp
    obtain ⟨rfl, -⟩ := hp0
    obtain ⟨hq, L, hL1, hL2⟩ := hq
    refine ⟨?_, L, hL1, fun q hq => hAA _ (hL2 q hq)⟩
    have hFF : ∀ {st t : State}, va_F (va_A (zws cy (fun i => ad (zr ρ i)) wl) sz) st t → va_F (va_A (zws cy ad ws) sz) st t := fun h => ⟨h.1, fun q h1 h2 => h.2 q h1 (fun z => h2 (hAA q z))⟩
    match rt, hq with
    | 0, hq =>
      obtain ⟨⟨u, e1, ⟨e2, e3⟩, e4⟩, hF⟩ := hq
      exact ⟨⟨_, e1, ⟨e2, zup_len _ _ _ _⟩, keep st t u hp e3 e4 hF⟩, hFF hF⟩
    | 1, hq =>
      obtain ⟨⟨r, u, e1, ⟨e2, e3⟩, e4⟩, hF⟩ := hq
      exact ⟨⟨r, _, e1, ⟨e2, zup_len _ _ _ _⟩, keep st t u hp e3 e4 hF⟩, hFF hF⟩
    | 2, hq =>
      obtain ⟨⟨r, u, e1, ⟨e2, e3⟩, e4⟩, hF⟩ := hq
      exact ⟨⟨r, _, e1, ⟨e2, zup_len _ _ _ _⟩, keep st t u hp e3 e4 hF⟩, hFF hF⟩
    | k + 3, hq =>
      obtain ⟨⟨r, u, e1, ⟨e2, e3⟩, e4⟩, hF⟩ := hq
      exact ⟨⟨r, _, e1, ⟨e2, zup_len _ _ _ _⟩, keep st t u hp e3 e4 hF⟩, hFF hF⟩
/-- a method's soundness, framed -/
theorem zFr_met {l : Launch} {y : MethodName} {M : zM} {cc : ByteArray} {nL rt n : Nat} {rm : Room} (hy : plainName y.cls = true) (hrm : 1 ≤ rm.frames ∧ 150 ≤ rm.locals) (hrt : rt < 4) (hg : zGood M cc y.cls (zwd y cc nL (zret rt))) (hcalls : zCalls M l cc y.cls (zwd y cc nL (zret rt)) rm nL) (hn : n ≤ nL) : ∀ (as : List Value) (ws : zW) (K : zP), zFr n (zGoes M rt nL) as ws K → zMet l y (zwd y cc nL (zret rt)) rm rt as ws K := by
  rintro as ws K (⟨h1, h3, h7⟩ | ⟨ρ, al, wl, ⟨h1, h2, h3⟩, ⟨h4, h5⟩, h6, h7⟩)
  · exact zGoes_met hy hrm hrt hg hcalls (by omega) (fun v hv => Nat.eq_of_beq_eq_true (List.all_eq_true.mp h3 v hv)) h7
  exact zMet_frame (zGoes_met hy hrm hrt hg hcalls (by omega) (fun v hv => Nat.eq_of_beq_eq_true (List.all_eq_true.mp h3 v hv)) h7) h1 h4 h5 h6
section ZC
variable {p : Program} {l : Launch} {e : Env} {R : Room} {s : State} {m : MethodId} {args : Array Value} {below : List Frame} {meth : Method} {c : Code} {cells slots : Nat} {Q : State → Prop} {cc : ByteArray} {own : String} {Ts : List Jvm.Cond} {nL : Nat} {D : va_G} {cy : Nat → ClassId} {ad : Nat → Nat} {A : Nat → Prop} {n0 : Nat}
variable {y : MethodName} {bytes : ByteArray} {maxL rt n ix : Nat} {rmc : Room} {C : String}
theorem zpre_at {H : Heap} {as : List Value} {ws : zW} (hKK : zKK D cy s) (hP : va_P D vwCl (zws cy ad ws) H) (hD : va_D A (zws cy ad ws)) : ∀ U : State, U.heap = H → s.WarmedH U.vm → zPre D cy ad H.size as ws (as.map (zv ad)).toArray U := fun U hU hW => ⟨rfl, by rw [hU], by rw [hU]; exact hP, hKK.warm hW, hD.1, fun _ _ _ => trivial⟩
theorem zAA {H : Heap} {locs : List Loc} {ws : zW} (hD : va_D A (zws cy ad ws)) (hS : va_S A s.heap H locs) (hA : ∀ q, s.heap.size ≤ q → A q) : ∀ q, va_A (zws cy ad ws) H.size q → A q := by
  intro q h
  rcases h with ⟨k, e, h⟩ | h
  · exact hD.2 k (q, e) h
  · exact hA q (Nat.le_trans hS.1 h)
theorem zco_run {H : Heap} {locs : List Loc} {ws : zW} {rest : List Value} {st0 : List Value} {a : Array Value} {pc : Nat} {lsC : Array Slot} {K : zP} (hD : va_D A (zws cy ad ws)) (hS : va_S A s.heap H locs) (hA : ∀ q, s.heap.size ≤ q → A q) (hn0 : ws.length = n0) (hrun : va_Run p l e R s m args below meth c H locs cells slots 0 0 (F0 m pc lsC st0) rest (zQ rt D cy ad H.size ws K a) (va_A (zws cy ad ws) H.size))
    (hk : ∀ (rv : Option Value) (ws' : zW) (H1 : Heap) (locs1 : List Loc), rv.toList.map (zv ad) = rv.toList → K rv ws' → va_P D vwCl (zws cy ad ws') H1 → va_D A (zws cy ad ws') → va_S A s.heap H1 locs1 → ws'.length = n0 → W p l e R s m args below meth c H1 locs1 cells slots Q (F0 m (pc + 3) lsC (rv.toList ++ rest))) : W p l e R s m args below meth c H locs cells slots Q (F0 m pc lsC st0) := by
  have hf := zAA (s := s) hD hS hA
  match rt, hrun with
  | 0, hrun => exact va_callv (a := a) hrun hS (fun q _ h => hf q h) hf (fun u t H1 locs1 ht hvm hp hB hz hkk hS1 => hk none u H1 locs1 rfl hp.1 (by rw [← ht]; exact hB) (zD_len hD hp.2) hS1 (hp.2.trans hn0))
  | 1, hrun => exact va_calli (a := a) hrun hS (fun q _ h => hf q h) hf (fun r u t H1 locs1 ht hvm hp hB hz hkk hS1 => hk (some (.int r)) u H1 locs1 rfl hp.1 (by rw [← ht]; exact hB) (zD_len hD hp.2) hS1 (hp.2.trans hn0))
  | 2, hrun => exact va_calll (a := a) hrun hS (fun q _ h => hf q h) hf (fun r u t H1 locs1 ht hvm hp hB hz hkk hS1 => hk (some (.long r)) u H1 locs1 rfl hp.1 (by rw [← ht]; exact hB) (zD_len hD hp.2) hS1 (hp.2.trans hn0))
  | k + 3, hrun => exact va_calli (a := a) hrun hS (fun q _ h => hf q h) hf (fun r u t H1 locs1 ht hvm hp hB hz hkk hS1 => hk (some (.int r)) u H1 locs1 rfl hp.1 (by rw [← ht]; exact hB) (zD_len hD hp.2) hS1 (hp.2.trans hn0))
theorem zco_V {ci : Nat} {q : vw_C} {G : zG} (S : CallFix p m c cc nL s args Ts own) (hKK : zKK D cy s) (hA : ∀ q, s.heap.size ≤ q → A q) (hcs : cells ≤ R.cells ∧ slots ≤ R.slots) (cw : CallW R s args own C ix y bytes maxL (zret rt) (zwd y bytes maxL (zret rt)) rmc 0 0 n) (hq : vwCl[ci]? = some q) (hC : q.1 = C) (hG : ∀ as ws K, G as ws K → zMet l y (zwd y bytes maxL (zret rt)) rmc rt as ws K) :
    zCO p l e R s m args below meth c cc nL D cy ad A n0 cells slots Q (.invokevirtual ix) (n + 1) (fun as ws K => (match as with
  | .ref k :: _ => match ws[k]? with
    | some (.inr (.inr (ci', _))) => Nat.beq ci' ci
    | _ => false
  | _ => false) = true ∧ G as ws K) := by
  intro as rest ws K hlen hcat hGG pc H locs lsC hd hP hD hS hn0 hsz hk
  obtain ⟨hrc, hGG⟩ := hGG
  split at hrc
  · rename_i k r
    split at hrc
    · rename_i ci' fs hws
      have hrc := Nat.eq_of_beq_eq_true hrc
      subst hrc
      have hrecv := va_recv hKK.1 hP hq (zws_get hws)
      rw [hC] at hrecv
      have hM := hG _ _ _ hGG D cy ad H.size
      refine zco_run (st0 := ((Value.ref k :: r).reverse ++ rest).map (zv ad)) (rest := rest.map (zv ad)) (K := K) hD hS hA hn0 (va_runV (As := r.map (zv ad)) (b := ad k) S hM cw ⟨zPre_blind, hrecv, zpre_at hKK hP hD⟩ rfl (by rw [List.length_map]; rw [List.length_cons] at hlen; omega) hsz ?_ ?_ hd ⟨hcs.1, hcs.2⟩) ?_
      · show ((Value.ref k :: r).reverse ++ rest).map (zv ad) = _
        rw [List.reverse_cons, List.map_append, List.map_append, List.map_reverse, List.append_assoc]
        rfl
      · show 2 * 0 + _ ≤ 8
        rw [zcat_map]
        omega
      · intro rv ws' H1 locs1 e hk1 p1 d1 s1 n1
        have := hk rv ws' H1 locs1 hk1 p1 d1 s1 n1
        rw [List.map_append, e] at this
        exact this
    · cases hrc
  · cases hrc
theorem zco_S {G : zG} (S : CallFix p m c cc nL s args Ts own) (hKK : zKK D cy s) (hA : ∀ q, s.heap.size ≤ q → A q) (hcs : cells ≤ R.cells ∧ slots ≤ R.slots) (cw : CallB R s args own ix y bytes maxL (zret rt) (zwd y bytes maxL (zret rt)) rmc 0 0 n ∧ (Cond.static y).before args s = true) (hG : ∀ as ws K, G as ws K → zMet l y (zwd y bytes maxL (zret rt)) rmc rt as ws K) :
    zCO p l e R s m args below meth c cc nL D cy ad A n0 cells slots Q (.invokestatic ix) n G := by
  intro as rest ws K hlen hcat hGG pc H locs lsC hd hP hD hS hn0 hsz hk
  have hM := hG _ _ _ hGG D cy ad H.size
  refine zco_run (st0 := (as.reverse ++ rest).map (zv ad)) (rest := rest.map (zv ad)) (K := K) hD hS hA hn0 (va_runS (As := as.map (zv ad)) S hM cw ⟨zPre_blind, zpre_at hKK hP hD⟩ rfl (by rw [List.length_map]; exact hlen) hsz ?_ ?_ hd ⟨hcs.1, hcs.2⟩) ?_
  · show (as.reverse ++ rest).map (zv ad) = _
    rw [List.map_append, List.map_reverse]
  · show 2 * 0 + _ ≤ 8
    rw [zcat_map]
    omega
  · intro rv ws' H1 locs1 e hk1 p1 d1 s1 n1
    have := hk rv ws' H1 locs1 hk1 p1 d1 s1 n1
    rw [List.map_append, e] at this
    exact this
theorem zco_N {G : zG} {host : String} (S : CallFix p m c cc nL s args Ts own) (hKK : zKK D cy s) (hA : ∀ q, s.heap.size ≤ q → A q) (hcs : cells ≤ R.cells ∧ slots ≤ R.slots) (cw : va_CN R s args own ix y host bytes maxL (zret rt) (zwd y bytes maxL (zret rt)) rmc 0 0 n ∧ (Cond.static y).before args s = true ∧ True) (hG : ∀ as ws K, G as ws K → zMet l y (zwd y bytes maxL (zret rt)) rmc rt as ws K) :
    zCO p l e R s m args below meth c cc nL D cy ad A n0 cells slots Q (.invokestatic ix) n G := by
  intro as rest ws K hlen hcat hGG pc H locs lsC hd hP hD hS hn0 hsz hk
  have hM := hG _ _ _ hGG D cy ad H.size
  refine zco_run (st0 := (as.reverse ++ rest).map (zv ad)) (rest := rest.map (zv ad)) (K := K) hD hS hA hn0 (va_runSN (As := as.map (zv ad)) S hM cw ⟨zPre_blind, zpre_at hKK hP hD⟩ rfl (by rw [List.length_map]; exact hlen) hsz ?_ ?_ hd ⟨hcs.1, hcs.2⟩) ?_
  · show (as.reverse ++ rest).map (zv ad) = _
    rw [List.map_append, List.map_reverse]
  · show 2 * 0 + _ ≤ 8
    rw [zcat_map]
    omega
  · intro rv ws' H1 locs1 e hk1 p1 d1 s1 n1
    have := hk rv ws' H1 locs1 hk1 p1 d1 s1 n1
    rw [List.map_append, e] at this
    exact this
end ZC
theorem zlookup {β : Type} {P : Nat → β → Prop} : ∀ {L : List (Nat × β)}, (∀ q ∈ L, P q.1 q.2) → ∀ (ix : Nat) (b : β), L.lookup ix = some b → P ix b
  | [], _, ix, b, h => by cases h
  | (k, v) :: L, hL, ix, b, h => by
    rw [List.lookup_cons] at h
    split at h
    · rename_i he
      cases h
      have he : ix = k := by simpa using he
      subst he
      exact hL (ix, v) List.mem_cons_self
    · exact zlookup (fun q hq => hL q (List.mem_cons_of_mem _ hq)) ix b h
def zchkL (cc : ByteArray) : Nat → List (Option zI) → Bool
  | _, [] => true
  | n, none :: r => zchkL cc (n + 1) r
  | n, some x :: r => zchk cc n x && zchkL cc (n + 1) r
theorem zchkL_at {cc : ByteArray} : ∀ {L : List (Option zI)} {n : Nat}, zchkL cc n L = true → ∀ (i : Nat) (x : zI), L[i]? = some (some x) → zchk cc (n + i) x = true
  | [], n, _, i, x, h => by simp at h
  | none :: r, n, hL, i, x, h => by
    cases i with
    | zero => cases h
    | succ i =>
      rw [List.getElem?_cons_succ] at h
      have := zchkL_at (L := r) (n := n + 1) hL i x h
      rw [show n + (i + 1) = n + 1 + i by omega]
      exact this
  | some y :: r, n, hL, i, x, h => by
    simp only [zchkL, Bool.and_eq_true] at hL
    cases i with
    | zero => cases h; exact hL.1
    | succ i =>
      rw [List.getElem?_cons_succ] at h
      have := zchkL_at (L := r) (n := n + 1) hL.2 i x h
      rw [show n + (i + 1) = n + 1 + i by omega]
      exact this
end
section
theorem zgoodV {own C : String} {idx nL : Nat} {y : MethodName} {cc : ByteArray} {ret : Option FieldType} {Y : Jvm.Cond} (h1 : Jvm.Cond.methodLink own idx y ∈ zTs) (h2 : Jvm.Cond.instanceMethod y ∈ zTs) (h3 : Jvm.Cond.selects C y y ∈ zTs) (h4 : Jvm.Cond.initialized C ∈ zTs) (h5 : Jvm.Cond.code y cc nL ret ∈ zTs) : GoodIn (Y :: zTs) (wsV own idx C y (zwd y cc nL ret)) := by
  have ok : ∀ w ∈ zTs, w ∈ Y :: zTs ∧ ((w.onTables && w.keeps) = true ∨ ∃ ty, w = .arrayClass ty) := fun w h => ⟨List.mem_cons_of_mem _ h, good_of_word (List.mem_filter.mp h).2⟩
  intro w hw
  simp only [wsV, zwd, List.cons_append, List.nil_append, List.mem_cons] at hw
  rcases hw with rfl | rfl | rfl | rfl | rfl | hw
  · exact ok _ h1
  · exact ok _ h2
  · exact ok _ h3
  · exact ok _ h4
  · exact ok _ h5
  · exact ok _ hw
theorem zgoodS {own : String} {idx nL : Nat} {y : MethodName} {cc : ByteArray} {ret : Option FieldType} {Y : Jvm.Cond} (h1 : Jvm.Cond.methodLink own idx y ∈ zTs) (h2 : Jvm.Cond.static y ∈ zTs) (h4 : Jvm.Cond.initialized y.cls ∈ zTs) (h5 : Jvm.Cond.code y cc nL ret ∈ zTs) : GoodIn (Y :: zTs) (va_wsS own idx y (zwd y cc nL ret)) := by
  have ok : ∀ w ∈ zTs, w ∈ Y :: zTs ∧ ((w.onTables && w.keeps) = true ∨ ∃ ty, w = .arrayClass ty) := fun w h => ⟨List.mem_cons_of_mem _ h, good_of_word (List.mem_filter.mp h).2⟩
  intro w hw
  simp only [va_wsS, zwd, List.cons_append, List.nil_append, List.mem_cons] at hw
  rcases hw with rfl | rfl | rfl | rfl | hw
  · exact ok _ h1
  · exact ok _ h2
  · exact ok _ h4
  · exact ok _ h5
  · exact ok _ hw
theorem zgoodN {nL : Nat} {y : MethodName} {cc : ByteArray} {ret : Option FieldType} {Y : Jvm.Cond} (h5 : Jvm.Cond.code y cc nL ret ∈ zTs) : GoodIn (Y :: zTs) (zwd y cc nL ret) := by
  have ok : ∀ w ∈ zTs, w ∈ Y :: zTs ∧ ((w.onTables && w.keeps) = true ∨ ∃ ty, w = .arrayClass ty) := fun w h => ⟨List.mem_cons_of_mem _ h, good_of_word (List.mem_filter.mp h).2⟩
  intro w hw
  simp only [zwd, List.mem_cons] at hw
  rcases hw with rfl | hw
  · exact ok _ h5
  · exact ok _ hw
theorem zlookF {own : String} {Ts : List Jvm.Cond} {fin : Bool} (L : List (Nat × Nat × Nat × FieldType)) (h : ∀ q ∈ L, zfok own Ts q.1 q.2.1 q.2.2.1 q.2.2.2 fin) : ∀ (ix ci j : Nat) (ty : FieldType), L.lookup ix = some (ci, j, ty) → zfok own Ts ix ci j ty fin := fun ix ci j ty h1 => zlookup (β := Nat × Nat × FieldType) (P := fun ix b => zfok own Ts ix b.1 b.2.1 b.2.2 fin) h ix (ci, j, ty) h1
theorem zw0 : Jvm.Cond.selects "RankWheels$Telling" ⟨"RankWheels$Telling", "beginWith", "([II)V"⟩ ⟨"RankWheels$Telling", "beginWith", "([II)V"⟩ ∈ zTs := zTs_in 0 (by decide +kernel) (by decide +kernel)
theorem zw1 : Jvm.Cond.selects "RankWheels$Telling" ⟨"RankWheels$Telling", "readToken", "()V"⟩ ⟨"RankWheels$Telling", "readToken", "()V"⟩ ∈ zTs := zTs_in 1 (by decide +kernel) (by decide +kernel)
theorem zw2 : Jvm.Cond.selects "RankWheels$Telling" ⟨"RankWheels$Telling", "readLetters", "()V"⟩ ⟨"RankWheels$Telling", "readLetters", "()V"⟩ ∈ zTs := zTs_in 2 (by decide +kernel) (by decide +kernel)
theorem zw3 : Jvm.Cond.selects "RankWheels$Telling" ⟨"RankWheels$Telling", "readDigits", "()V"⟩ ⟨"RankWheels$Telling", "readDigits", "()V"⟩ ∈ zTs := zTs_in 3 (by decide +kernel) (by decide +kernel)
theorem zw4 : Jvm.Cond.selects "RankWheels$Telling" ⟨"RankWheels$Telling", "tokenStands", "()Z"⟩ ⟨"RankWheels$Telling", "tokenStands", "()Z"⟩ ∈ zTs := zTs_in 4 (by decide +kernel) (by decide +kernel)
theorem zw5 : Jvm.Cond.selects "RankWheels$Telling" ⟨"RankWheels$Telling", "beginsItem", "()Z"⟩ ⟨"RankWheels$Telling", "beginsItem", "()Z"⟩ ∈ zTs := zTs_in 5 (by decide +kernel) (by decide +kernel)
theorem zw6 : Jvm.Cond.selects "RankWheels$Telling" ⟨"RankWheels$Telling", "numberWithin", "(II)I"⟩ ⟨"RankWheels$Telling", "numberWithin", "(II)I"⟩ ∈ zTs := zTs_in 6 (by decide +kernel) (by decide +kernel)
theorem zw7 : Jvm.Cond.selects "RankWheels$Telling" ⟨"RankWheels$Telling", "endsMan", "(I)Z"⟩ ⟨"RankWheels$Telling", "endsMan", "(I)Z"⟩ ∈ zTs := zTs_in 7 (by decide +kernel) (by decide +kernel)
theorem zw8 : Jvm.Cond.selects "RankWheels$Telling" ⟨"RankWheels$Telling", "endsItem", "()Z"⟩ ⟨"RankWheels$Telling", "endsItem", "()Z"⟩ ∈ zTs := zTs_in 8 (by decide +kernel) (by decide +kernel)
theorem zw9 : Jvm.Cond.selects "RankWheels" ⟨"RankWheels", "isPlace", "(I)Z"⟩ ⟨"RankWheels", "isPlace", "(I)Z"⟩ ∈ zTs := zTs_in 9 (by decide +kernel) (by decide +kernel)
theorem zw10 : Jvm.Cond.selects "RankWheels$Past" ⟨"RankWheels$Past", "loseOldest", "()V"⟩ ⟨"RankWheels$Past", "loseOldest", "()V"⟩ ∈ zTs := zTs_in 10 (by decide +kernel) (by decide +kernel)
theorem zw11 : Jvm.Cond.selects "RankWheels$Line" ⟨"RankWheels$Line", "moveAll", "(I)Z"⟩ ⟨"RankWheels$Line", "moveAll", "(I)Z"⟩ ∈ zTs := zTs_in 11 (by decide +kernel) (by decide +kernel)
theorem zw12 : Jvm.Cond.selects "RankWheels$Line" ⟨"RankWheels$Line", "stepOf", "(IIII)I"⟩ ⟨"RankWheels$Line", "stepOf", "(IIII)I"⟩ ∈ zTs := zTs_in 12 (by decide +kernel) (by decide +kernel)
theorem zw13 : Jvm.Cond.selects "RankWheels$Line" ⟨"RankWheels$Line", "changeFeet", "()V"⟩ ⟨"RankWheels$Line", "changeFeet", "()V"⟩ ∈ zTs := zTs_in 13 (by decide +kernel) (by decide +kernel)
theorem zw14 : Jvm.Cond.selects "RankWheels$Line" ⟨"RankWheels$Line", "gapAt", "(I)I"⟩ ⟨"RankWheels$Line", "gapAt", "(I)I"⟩ ∈ zTs := zTs_in 14 (by decide +kernel) (by decide +kernel)
theorem zw15 : Jvm.Cond.selects "RankWheels" ⟨"RankWheels", "pacesTillDressed", "(III)I"⟩ ⟨"RankWheels", "pacesTillDressed", "(III)I"⟩ ∈ zTs := zTs_in 15 (by decide +kernel) (by decide +kernel)
theorem zw16 : Jvm.Cond.selects "RankWheels" ⟨"RankWheels", "lookAhead", "(II)V"⟩ ⟨"RankWheels", "lookAhead", "(II)V"⟩ ∈ zTs := zTs_in 16 (by decide +kernel) (by decide +kernel)
theorem zw17 : Jvm.Cond.selects "RankWheels" ⟨"RankWheels", "allCanStride", "(I)Z"⟩ ⟨"RankWheels", "allCanStride", "(I)Z"⟩ ∈ zTs := zTs_in 17 (by decide +kernel) (by decide +kernel)
theorem zw18 : Jvm.Cond.selects "RankWheels$Ordering" ⟨"RankWheels$Ordering", "isBetter", "(II)Z"⟩ ⟨"RankWheels$Ordering", "isBetter", "(II)Z"⟩ ∈ zTs := zTs_in 18 (by decide +kernel) (by decide +kernel)
theorem zw19 : Jvm.Cond.selects "RankWheels$Ordering" ⟨"RankWheels$Ordering", "becomeBest", "(II)V"⟩ ⟨"RankWheels$Ordering", "becomeBest", "(II)V"⟩ ∈ zTs := zTs_in 19 (by decide +kernel) (by decide +kernel)
theorem zw20 : Jvm.Cond.selects "RankWheels$Ordering" ⟨"RankWheels$Ordering", "aboveLegAt", "(I)I"⟩ ⟨"RankWheels$Ordering", "aboveLegAt", "(I)I"⟩ ∈ zTs := zTs_in 20 (by decide +kernel) (by decide +kernel)
theorem zw21 : Jvm.Cond.selects "RankWheels$Ordering" ⟨"RankWheels$Ordering", "apartInwardOf", "(I)I"⟩ ⟨"RankWheels$Ordering", "apartInwardOf", "(I)I"⟩ ∈ zTs := zTs_in 21 (by decide +kernel) (by decide +kernel)
theorem zw22 : Jvm.Cond.selects "RankWheels" ⟨"RankWheels", "tellsAllSeen", "(II)Z"⟩ ⟨"RankWheels", "tellsAllSeen", "(II)Z"⟩ ∈ zTs := zTs_in 22 (by decide +kernel) (by decide +kernel)
theorem zw23 : Jvm.Cond.selects "RankWheels" ⟨"RankWheels", "rateOfStep", "(I)I"⟩ ⟨"RankWheels", "rateOfStep", "(I)I"⟩ ∈ zTs := zTs_in 23 (by decide +kernel) (by decide +kernel)
theorem zw24 : Jvm.Cond.selects "RankWheels" ⟨"RankWheels", "rateOfShort", "(I)I"⟩ ⟨"RankWheels", "rateOfShort", "(I)I"⟩ ∈ zTs := zTs_in 24 (by decide +kernel) (by decide +kernel)
theorem zw25 : Jvm.Cond.selects "RankWheels" ⟨"RankWheels", "rateOfSeen", "(I)I"⟩ ⟨"RankWheels", "rateOfSeen", "(I)I"⟩ ∈ zTs := zTs_in 25 (by decide +kernel) (by decide +kernel)
theorem zw26 : Jvm.Cond.selects "RankWheels" ⟨"RankWheels", "rateOfMarked", "(I)I"⟩ ⟨"RankWheels", "rateOfMarked", "(I)I"⟩ ∈ zTs := zTs_in 26 (by decide +kernel) (by decide +kernel)
theorem zw27 : Jvm.Cond.selects "RankWheels" ⟨"RankWheels", "rateOfBulging", "(I)I"⟩ ⟨"RankWheels", "rateOfBulging", "(I)I"⟩ ∈ zTs := zTs_in 27 (by decide +kernel) (by decide +kernel)
theorem zw28 : Jvm.Cond.selects "RankWheels" ⟨"RankWheels", "rateOfHopped", "(I)I"⟩ ⟨"RankWheels", "rateOfHopped", "(I)I"⟩ ∈ zTs := zTs_in 28 (by decide +kernel) (by decide +kernel)
theorem zw29 : Jvm.Cond.selects "RankWheelsModel" ⟨"RankWheelsModel", "plain", "()V"⟩ ⟨"RankWheelsModel", "plain", "()V"⟩ ∈ zTs := zTs_in 29 (by decide +kernel) (by decide +kernel)
theorem zw30 : Jvm.Cond.selects "RankWheelsModel" ⟨"RankWheelsModel", "takeDraft", "()V"⟩ ⟨"RankWheelsModel", "takeDraft", "()V"⟩ ∈ zTs := zTs_in 30 (by decide +kernel) (by decide +kernel)
theorem zw31 : Jvm.Cond.selects "RankWheelsModel" ⟨"RankWheelsModel", "step", "()V"⟩ ⟨"RankWheelsModel", "step", "()V"⟩ ∈ zTs := zTs_in 31 (by decide +kernel) (by decide +kernel)
theorem zw32 : Jvm.Cond.selects "RankWheelsModel" ⟨"RankWheelsModel", "here", "()I"⟩ ⟨"RankWheelsModel", "here", "()I"⟩ ∈ zTs := zTs_in 32 (by decide +kernel) (by decide +kernel)
theorem zw33 : Jvm.Cond.selects "RankWheelsModel" ⟨"RankWheelsModel", "mayBe", "(I)Z"⟩ ⟨"RankWheelsModel", "mayBe", "(I)Z"⟩ ∈ zTs := zTs_in 33 (by decide +kernel) (by decide +kernel)
theorem zw34 : Jvm.Cond.selects "RankWheelsModel" ⟨"RankWheelsModel", "due", "(Z)I"⟩ ⟨"RankWheelsModel", "due", "(Z)I"⟩ ∈ zTs := zTs_in 34 (by decide +kernel) (by decide +kernel)
theorem zw35 : Jvm.Cond.selects "RankWheelsModel" ⟨"RankWheelsModel", "readRow", "(I)V"⟩ ⟨"RankWheelsModel", "readRow", "(I)V"⟩ ∈ zTs := zTs_in 35 (by decide +kernel) (by decide +kernel)
theorem zw36 : Jvm.Cond.selects "RankWheelsModel" ⟨"RankWheelsModel", "number", "(II)I"⟩ ⟨"RankWheelsModel", "number", "(II)I"⟩ ∈ zTs := zTs_in 36 (by decide +kernel) (by decide +kernel)
theorem zw37 : Jvm.Cond.selects "RankWheelsModel" ⟨"RankWheelsModel", "isPlace", "(I)Z"⟩ ⟨"RankWheelsModel", "isPlace", "(I)Z"⟩ ∈ zTs := zTs_in 37 (by decide +kernel) (by decide +kernel)
theorem zw38 : Jvm.Cond.selects "RankWheelsModel" ⟨"RankWheelsModel", "know", "()V"⟩ ⟨"RankWheelsModel", "know", "()V"⟩ ∈ zTs := zTs_in 38 (by decide +kernel) (by decide +kernel)
theorem zw39 : Jvm.Cond.selects "RankWheelsModel" ⟨"RankWheelsModel", "pace", "([II)V"⟩ ⟨"RankWheelsModel", "pace", "([II)V"⟩ ∈ zTs := zTs_in 39 (by decide +kernel) (by decide +kernel)
theorem zw40 : Jvm.Cond.selects "RankWheelsModel" ⟨"RankWheelsModel", "hopAll", "([I)V"⟩ ⟨"RankWheelsModel", "hopAll", "([I)V"⟩ ∈ zTs := zTs_in 40 (by decide +kernel) (by decide +kernel)
theorem zw41 : Jvm.Cond.selects "RankWheelsModel" ⟨"RankWheelsModel", "bulge", "([I)I"⟩ ⟨"RankWheelsModel", "bulge", "([I)I"⟩ ∈ zTs := zTs_in 41 (by decide +kernel) (by decide +kernel)
theorem zw42 : Jvm.Cond.selects "RankWheelsModel" ⟨"RankWheelsModel", "bulgeAt", "([I)I"⟩ ⟨"RankWheelsModel", "bulgeAt", "([I)I"⟩ ∈ zTs := zTs_in 42 (by decide +kernel) (by decide +kernel)
theorem zw43 : Jvm.Cond.selects "RankWheelsModel" ⟨"RankWheelsModel", "dressedBy", "(II)I"⟩ ⟨"RankWheelsModel", "dressedBy", "(II)I"⟩ ∈ zTs := zTs_in 43 (by decide +kernel) (by decide +kernel)
theorem zw44 : Jvm.Cond.selects "RankWheelsModel" ⟨"RankWheelsModel", "take", "()V"⟩ ⟨"RankWheelsModel", "take", "()V"⟩ ∈ zTs := zTs_in 44 (by decide +kernel) (by decide +kernel)
theorem zw45 : Jvm.Cond.selects "RankWheelsModel" ⟨"RankWheelsModel", "isDressed", "()Z"⟩ ⟨"RankWheelsModel", "isDressed", "()Z"⟩ ∈ zTs := zTs_in 45 (by decide +kernel) (by decide +kernel)
theorem zw46 : Jvm.Cond.selects "RankWheelsModel" ⟨"RankWheelsModel", "look", "(I)V"⟩ ⟨"RankWheelsModel", "look", "(I)V"⟩ ∈ zTs := zTs_in 46 (by decide +kernel) (by decide +kernel)
theorem zw47 : Jvm.Cond.selects "RankWheelsModel" ⟨"RankWheelsModel", "isSo", "(II)Z"⟩ ⟨"RankWheelsModel", "isSo", "(II)Z"⟩ ∈ zTs := zTs_in 47 (by decide +kernel) (by decide +kernel)
theorem zw49 : Jvm.Cond.initialized "RankWheels" ∈ zTs := zTs_in 49 (by decide +kernel) (by decide +kernel)
theorem zw50 : Jvm.Cond.initialized "RankWheels$Telling" ∈ zTs := zTs_in 50 (by decide +kernel) (by decide +kernel)
theorem zw51 : Jvm.Cond.initialized "RankWheels$Men" ∈ zTs := zTs_in 51 (by decide +kernel) (by decide +kernel)
theorem zw52 : Jvm.Cond.initialized "RankWheels$Line" ∈ zTs := zTs_in 52 (by decide +kernel) (by decide +kernel)
theorem zw53 : Jvm.Cond.initialized "RankWheels$Past" ∈ zTs := zTs_in 53 (by decide +kernel) (by decide +kernel)
theorem zw54 : Jvm.Cond.initialized "RankWheels$Sightings" ∈ zTs := zTs_in 54 (by decide +kernel) (by decide +kernel)
theorem zw55 : Jvm.Cond.initialized "RankWheels$Ordering" ∈ zTs := zTs_in 55 (by decide +kernel) (by decide +kernel)
theorem zw57 : Jvm.Cond.initialized "RankWheelsModel" ∈ zTs := zTs_in 57 (by decide +kernel) (by decide +kernel)
theorem zw58 : Jvm.Cond.initialized "java/lang/Math" ∈ zTs := zTs_in 58 (by decide +kernel) (by decide +kernel)
theorem zw59 : Jvm.Cond.initialized "java/lang/System" ∈ zTs := zTs_in 59 (by decide +kernel) (by decide +kernel)
theorem zw80 : Jvm.Cond.fieldLink "RankWheels$Men" 18 "RankWheels$Men" "number" "I" ∈ zTs := zTs_in 80 (by decide +kernel) (by decide +kernel)
theorem zw81 : Jvm.Cond.fieldLink "RankWheels$Ordering" 43 "RankWheels$Men" "number" "I" ∈ zTs := zTs_in 81 (by decide +kernel) (by decide +kernel)
theorem zw82 : Jvm.Cond.fieldLink "RankWheels$Line" 44 "RankWheels$Men" "number" "I" ∈ zTs := zTs_in 82 (by decide +kernel) (by decide +kernel)
theorem zw83 : Jvm.Cond.fieldLink "RankWheels$Telling" 52 "RankWheels$Men" "number" "I" ∈ zTs := zTs_in 83 (by decide +kernel) (by decide +kernel)
theorem zw84 : Jvm.Cond.fieldLink "RankWheels" 114 "RankWheels$Men" "number" "I" ∈ zTs := zTs_in 84 (by decide +kernel) (by decide +kernel)
theorem zw85 : Jvm.Cond.fieldLink "RankWheels$Men" 9 "RankWheels$Men" "leg" "[I" ∈ zTs := zTs_in 85 (by decide +kernel) (by decide +kernel)
theorem zw86 : Jvm.Cond.fieldLink "RankWheels$Ordering" 63 "RankWheels$Men" "leg" "[I" ∈ zTs := zTs_in 86 (by decide +kernel) (by decide +kernel)
theorem zw87 : Jvm.Cond.fieldLink "RankWheels$Line" 49 "RankWheels$Men" "leg" "[I" ∈ zTs := zTs_in 87 (by decide +kernel) (by decide +kernel)
theorem zw88 : Jvm.Cond.fieldLink "RankWheels" 117 "RankWheels$Men" "leg" "[I" ∈ zTs := zTs_in 88 (by decide +kernel) (by decide +kernel)
theorem zw89 : Jvm.Cond.fieldLink "RankWheels$Men" 15 "RankWheels$Men" "height" "[I" ∈ zTs := zTs_in 89 (by decide +kernel) (by decide +kernel)
theorem zw90 : Jvm.Cond.fieldLink "RankWheels$Ordering" 72 "RankWheels$Men" "height" "[I" ∈ zTs := zTs_in 90 (by decide +kernel) (by decide +kernel)
theorem zw91 : Jvm.Cond.fieldLink "RankWheels" 120 "RankWheels$Men" "height" "[I" ∈ zTs := zTs_in 91 (by decide +kernel) (by decide +kernel)
theorem zw100 : Jvm.Cond.fieldLink "RankWheels$Telling" 12 "RankWheels$Telling" "men" "LRankWheels$Men;" ∈ zTs := zTs_in 100 (by decide +kernel) (by decide +kernel)
theorem zw101 : Jvm.Cond.fieldLink "RankWheels" 86 "RankWheels$Telling" "men" "LRankWheels$Men;" ∈ zTs := zTs_in 101 (by decide +kernel) (by decide +kernel)
theorem zw102 : Jvm.Cond.fieldLink "RankWheels$Telling" 55 "RankWheels$Telling" "pace" "I" ∈ zTs := zTs_in 102 (by decide +kernel) (by decide +kernel)
theorem zw103 : Jvm.Cond.fieldLink "RankWheels" 90 "RankWheels$Telling" "pace" "I" ∈ zTs := zTs_in 103 (by decide +kernel) (by decide +kernel)
theorem zw104 : Jvm.Cond.fieldLink "RankWheels$Telling" 58 "RankWheels$Telling" "eye" "I" ∈ zTs := zTs_in 104 (by decide +kernel) (by decide +kernel)
theorem zw105 : Jvm.Cond.fieldLink "RankWheels" 97 "RankWheels$Telling" "eye" "I" ∈ zTs := zTs_in 105 (by decide +kernel) (by decide +kernel)
theorem zw106 : Jvm.Cond.fieldLink "RankWheels$Telling" 61 "RankWheels$Telling" "elbow" "I" ∈ zTs := zTs_in 106 (by decide +kernel) (by decide +kernel)
theorem zw107 : Jvm.Cond.fieldLink "RankWheels" 100 "RankWheels$Telling" "elbow" "I" ∈ zTs := zTs_in 107 (by decide +kernel) (by decide +kernel)
theorem zw108 : Jvm.Cond.fieldLink "RankWheels$Telling" 64 "RankWheels$Telling" "items" "I" ∈ zTs := zTs_in 108 (by decide +kernel) (by decide +kernel)
theorem zw109 : Jvm.Cond.fieldLink "RankWheels" 111 "RankWheels$Telling" "items" "I" ∈ zTs := zTs_in 109 (by decide +kernel) (by decide +kernel)
theorem zw110 : Jvm.Cond.fieldLink "RankWheels" 83 "RankWheels$Telling" "start" "I" ∈ zTs := zTs_in 110 (by decide +kernel) (by decide +kernel)
theorem zw111 : Jvm.Cond.fieldLink "RankWheels$Telling" 94 "RankWheels$Telling" "start" "I" ∈ zTs := zTs_in 111 (by decide +kernel) (by decide +kernel)
theorem zw112 : Jvm.Cond.fieldLink "RankWheels$Telling" 18 "RankWheels$Telling" "text" "[I" ∈ zTs := zTs_in 112 (by decide +kernel) (by decide +kernel)
theorem zw113 : Jvm.Cond.fieldLink "RankWheels$Telling" 26 "RankWheels$Telling" "length" "I" ∈ zTs := zTs_in 113 (by decide +kernel) (by decide +kernel)
theorem zw114 : Jvm.Cond.fieldLink "RankWheels$Telling" 49 "RankWheels$Telling" "at" "I" ∈ zTs := zTs_in 114 (by decide +kernel) (by decide +kernel)
theorem zw115 : Jvm.Cond.fieldLink "RankWheels$Telling" 33 "RankWheels$Telling" "token" "I" ∈ zTs := zTs_in 115 (by decide +kernel) (by decide +kernel)
theorem zw116 : Jvm.Cond.fieldLink "RankWheels$Telling" 83 "RankWheels$Telling" "value" "I" ∈ zTs := zTs_in 116 (by decide +kernel) (by decide +kernel)
theorem zw117 : Jvm.Cond.fieldLink "RankWheels$Telling" 36 "RankWheels$Telling" "due" "I" ∈ zTs := zTs_in 117 (by decide +kernel) (by decide +kernel)
theorem zw118 : Jvm.Cond.fieldLink "RankWheels$Telling" 73 "RankWheels$Telling" "leg" "I" ∈ zTs := zTs_in 118 (by decide +kernel) (by decide +kernel)
theorem zw154 : Jvm.Cond.fieldLink "RankWheels$Line" 21 "RankWheels$Line" "men" "LRankWheels$Men;" ∈ zTs := zTs_in 154 (by decide +kernel) (by decide +kernel)
theorem zw155 : Jvm.Cond.fieldLink "RankWheels$Line" 9 "RankWheels$Line" "who" "[I" ∈ zTs := zTs_in 155 (by decide +kernel) (by decide +kernel)
theorem zw156 : Jvm.Cond.fieldLink "RankWheels" 131 "RankWheels$Line" "who" "[I" ∈ zTs := zTs_in 156 (by decide +kernel) (by decide +kernel)
theorem zw157 : Jvm.Cond.fieldLink "RankWheels$Line" 15 "RankWheels$Line" "inches" "[I" ∈ zTs := zTs_in 157 (by decide +kernel) (by decide +kernel)
theorem zw158 : Jvm.Cond.fieldLink "RankWheels$Sightings" 31 "RankWheels$Line" "inches" "[I" ∈ zTs := zTs_in 158 (by decide +kernel) (by decide +kernel)
theorem zw159 : Jvm.Cond.fieldLink "RankWheels" 134 "RankWheels$Line" "inches" "[I" ∈ zTs := zTs_in 159 (by decide +kernel) (by decide +kernel)
theorem zw160 : Jvm.Cond.fieldLink "RankWheels$Line" 18 "RankWheels$Line" "foot" "[I" ∈ zTs := zTs_in 160 (by decide +kernel) (by decide +kernel)
theorem zw161 : Jvm.Cond.fieldLink "RankWheels" 137 "RankWheels$Line" "foot" "[I" ∈ zTs := zTs_in 161 (by decide +kernel) (by decide +kernel)
theorem zw162 : Jvm.Cond.fieldLink "RankWheels$Line" 25 "RankWheels$Line" "pace" "I" ∈ zTs := zTs_in 162 (by decide +kernel) (by decide +kernel)
theorem zw163 : Jvm.Cond.fieldLink "RankWheels" 166 "RankWheels$Line" "pace" "I" ∈ zTs := zTs_in 163 (by decide +kernel) (by decide +kernel)
theorem zw164 : Jvm.Cond.fieldLink "RankWheels$Line" 29 "RankWheels$Line" "eye" "I" ∈ zTs := zTs_in 164 (by decide +kernel) (by decide +kernel)
theorem zw165 : Jvm.Cond.fieldLink "RankWheels" 161 "RankWheels$Line" "eye" "I" ∈ zTs := zTs_in 165 (by decide +kernel) (by decide +kernel)
theorem zw166 : Jvm.Cond.fieldLink "RankWheels$Line" 32 "RankWheels$Line" "elbow" "I" ∈ zTs := zTs_in 166 (by decide +kernel) (by decide +kernel)
theorem zw167 : Jvm.Cond.fieldLink "RankWheels" 162 "RankWheels$Line" "elbow" "I" ∈ zTs := zTs_in 167 (by decide +kernel) (by decide +kernel)
theorem zw168 : Jvm.Cond.fieldLink "RankWheels$Line" 35 "RankWheels$Line" "paces" "I" ∈ zTs := zTs_in 168 (by decide +kernel) (by decide +kernel)
theorem zw169 : Jvm.Cond.fieldLink "RankWheels" 143 "RankWheels$Line" "paces" "I" ∈ zTs := zTs_in 169 (by decide +kernel) (by decide +kernel)
theorem zw196 : Jvm.Cond.fieldLink "RankWheels$Past" 11 "RankWheels$Past" "known" "[LRankWheels$Line;" ∈ zTs := zTs_in 196 (by decide +kernel) (by decide +kernel)
theorem zw197 : Jvm.Cond.fieldLink "RankWheels$Past" 20 "RankWheels$Past" "size" "I" ∈ zTs := zTs_in 197 (by decide +kernel) (by decide +kernel)
theorem zw198 : Jvm.Cond.fieldLink "RankWheels" 103 "RankWheels$Past" "size" "I" ∈ zTs := zTs_in 198 (by decide +kernel) (by decide +kernel)
theorem zw212 : Jvm.Cond.fieldLink "RankWheels$Sightings" 21 "RankWheels$Sightings" "size" "I" ∈ zTs := zTs_in 212 (by decide +kernel) (by decide +kernel)
theorem zw213 : Jvm.Cond.fieldLink "RankWheels" 106 "RankWheels$Sightings" "size" "I" ∈ zTs := zTs_in 213 (by decide +kernel) (by decide +kernel)
theorem zw214 : Jvm.Cond.fieldLink "RankWheels$Sightings" 9 "RankWheels$Sightings" "place" "[I" ∈ zTs := zTs_in 214 (by decide +kernel) (by decide +kernel)
theorem zw215 : Jvm.Cond.fieldLink "RankWheels$Sightings" 15 "RankWheels$Sightings" "pace" "[I" ∈ zTs := zTs_in 215 (by decide +kernel) (by decide +kernel)
theorem zw216 : Jvm.Cond.fieldLink "RankWheels$Sightings" 18 "RankWheels$Sightings" "inches" "[I" ∈ zTs := zTs_in 216 (by decide +kernel) (by decide +kernel)
theorem zw232 : Jvm.Cond.fieldLink "RankWheels$Ordering" 18 "RankWheels$Ordering" "men" "LRankWheels$Men;" ∈ zTs := zTs_in 232 (by decide +kernel) (by decide +kernel)
theorem zw233 : Jvm.Cond.fieldLink "RankWheels$Ordering" 9 "RankWheels$Ordering" "standing" "[I" ∈ zTs := zTs_in 233 (by decide +kernel) (by decide +kernel)
theorem zw234 : Jvm.Cond.fieldLink "RankWheels$Ordering" 22 "RankWheels$Ordering" "pace" "I" ∈ zTs := zTs_in 234 (by decide +kernel) (by decide +kernel)
theorem zw235 : Jvm.Cond.fieldLink "RankWheels$Ordering" 15 "RankWheels$Ordering" "best" "[I" ∈ zTs := zTs_in 235 (by decide +kernel) (by decide +kernel)
theorem zw236 : Jvm.Cond.fieldLink "RankWheels" 199 "RankWheels$Ordering" "best" "[I" ∈ zTs := zTs_in 236 (by decide +kernel) (by decide +kernel)
theorem zw237 : Jvm.Cond.fieldLink "RankWheels$Ordering" 29 "RankWheels$Ordering" "leastAbove" "I" ∈ zTs := zTs_in 237 (by decide +kernel) (by decide +kernel)
theorem zw238 : Jvm.Cond.fieldLink "RankWheels" 193 "RankWheels$Ordering" "leastAbove" "I" ∈ zTs := zTs_in 238 (by decide +kernel) (by decide +kernel)
theorem zw239 : Jvm.Cond.fieldLink "RankWheels$Ordering" 32 "RankWheels$Ordering" "leastApart" "I" ∈ zTs := zTs_in 239 (by decide +kernel) (by decide +kernel)
theorem zw240 : Jvm.Cond.fieldLink "RankWheels" 196 "RankWheels$Ordering" "leastApart" "I" ∈ zTs := zTs_in 240 (by decide +kernel) (by decide +kernel)
theorem zw264 : Jvm.Cond.fieldLink "RankWheels" 251 "RankWheels$Image" "line" "LRankWheels$Line;" ∈ zTs := zTs_in 264 (by decide +kernel) (by decide +kernel)
theorem zw266 : Jvm.Cond.fieldLink "RankWheels" 252 "RankWheels$Image" "past" "LRankWheels$Past;" ∈ zTs := zTs_in 266 (by decide +kernel) (by decide +kernel)
theorem zw267 : Jvm.Cond.fieldLink "RankWheels" 107 "RankWheels$Image" "kept" "Z" ∈ zTs := zTs_in 267 (by decide +kernel) (by decide +kernel)
theorem zw275 : Jvm.Cond.methodLink "RankWheels" 67 ⟨"RankWheels$Line", "formUp", "(III)V"⟩ ∈ zTs := zTs_in 275 (by decide +kernel) (by decide +kernel)
theorem zw276 : Jvm.Cond.instanceMethod ⟨"RankWheels$Line", "formUp", "(III)V"⟩ ∈ zTs := zTs_in 276 (by decide +kernel) (by decide +kernel)
theorem zw277 : Jvm.Cond.selects "RankWheels$Line" ⟨"RankWheels$Line", "formUp", "(III)V"⟩ ⟨"RankWheels$Line", "formUp", "(III)V"⟩ ∈ zTs := zTs_in 277 (by decide +kernel) (by decide +kernel)
theorem zw278 : Jvm.Cond.code ⟨"RankWheels$Line", "formUp", "(III)V"⟩ prog_3_method_2_code 5 none ∈ zTs := zTs_in 278 (by decide +kernel) (by decide +kernel)
theorem zw279 : Jvm.Cond.fieldLink "RankWheels" 9 "RankWheels" "text" "[I" ∈ zTs := zTs_in 279 (by decide +kernel) (by decide +kernel)
theorem zw280 : Jvm.Cond.fieldLink "RankWheels" 75 "RankWheels" "bytes" "I" ∈ zTs := zTs_in 280 (by decide +kernel) (by decide +kernel)
theorem zw281 : Jvm.Cond.fieldLink "RankWheels" 16 "RankWheels" "telling" "LRankWheels$Telling;" ∈ zTs := zTs_in 281 (by decide +kernel) (by decide +kernel)
theorem zw282 : Jvm.Cond.fieldLink "RankWheels" 23 "RankWheels" "men" "LRankWheels$Men;" ∈ zTs := zTs_in 282 (by decide +kernel) (by decide +kernel)
theorem zw283 : Jvm.Cond.fieldLink "RankWheels" 32 "RankWheels" "line" "LRankWheels$Line;" ∈ zTs := zTs_in 283 (by decide +kernel) (by decide +kernel)
theorem zw284 : Jvm.Cond.fieldLink "RankWheels" 36 "RankWheels" "ahead" "LRankWheels$Line;" ∈ zTs := zTs_in 284 (by decide +kernel) (by decide +kernel)
theorem zw285 : Jvm.Cond.fieldLink "RankWheels" 42 "RankWheels" "past" "LRankWheels$Past;" ∈ zTs := zTs_in 285 (by decide +kernel) (by decide +kernel)
theorem zw286 : Jvm.Cond.fieldLink "RankWheels" 48 "RankWheels" "images" "[LRankWheels$Image;" ∈ zTs := zTs_in 286 (by decide +kernel) (by decide +kernel)
theorem zw287 : Jvm.Cond.fieldLink "RankWheels" 55 "RankWheels" "sightings" "LRankWheels$Sightings;" ∈ zTs := zTs_in 287 (by decide +kernel) (by decide +kernel)
theorem zw288 : Jvm.Cond.fieldLink "RankWheels" 62 "RankWheels" "ordering" "LRankWheels$Ordering;" ∈ zTs := zTs_in 288 (by decide +kernel) (by decide +kernel)
theorem zw289 : Jvm.Cond.fieldLink "RankWheels" 256 "RankWheels" "traced" "J" ∈ zTs := zTs_in 289 (by decide +kernel) (by decide +kernel)
theorem zw317 : Jvm.Cond.methodLink "RankWheels" 71 ⟨"RankWheels", "within", "(III)Z"⟩ ∈ zTs := zTs_in 317 (by decide +kernel) (by decide +kernel)
theorem zw318 : Jvm.Cond.static ⟨"RankWheels", "within", "(III)Z"⟩ ∈ zTs := zTs_in 318 (by decide +kernel) (by decide +kernel)
theorem zw319 : Jvm.Cond.code ⟨"RankWheels", "within", "(III)Z"⟩ prog_1_method_32_code 3 (some .boolean) ∈ zTs := zTs_in 319 (by decide +kernel) (by decide +kernel)
theorem zw328 : Jvm.Cond.methodLink "RankWheels" 79 ⟨"RankWheels$Telling", "understands", "([II)Z"⟩ ∈ zTs := zTs_in 328 (by decide +kernel) (by decide +kernel)
theorem zw329 : Jvm.Cond.instanceMethod ⟨"RankWheels$Telling", "understands", "([II)Z"⟩ ∈ zTs := zTs_in 329 (by decide +kernel) (by decide +kernel)
theorem zw330 : Jvm.Cond.selects "RankWheels$Telling" ⟨"RankWheels$Telling", "understands", "([II)Z"⟩ ⟨"RankWheels$Telling", "understands", "([II)Z"⟩ ∈ zTs := zTs_in 330 (by decide +kernel) (by decide +kernel)
theorem zw331 : Jvm.Cond.code ⟨"RankWheels$Telling", "understands", "([II)Z"⟩ prog_8_method_2_code 4 (some .boolean) ∈ zTs := zTs_in 331 (by decide +kernel) (by decide +kernel)
theorem zw332 : Jvm.Cond.methodLink "RankWheels$Telling" 22 ⟨"RankWheels$Telling", "beginWith", "([II)V"⟩ ∈ zTs := zTs_in 332 (by decide +kernel) (by decide +kernel)
theorem zw334 : Jvm.Cond.instanceMethod ⟨"RankWheels$Telling", "beginWith", "([II)V"⟩ ∈ zTs := zTs_in 334 (by decide +kernel) (by decide +kernel)
theorem zw335 : Jvm.Cond.code ⟨"RankWheels$Telling", "beginWith", "([II)V"⟩ prog_8_method_4_code 3 none ∈ zTs := zTs_in 335 (by decide +kernel) (by decide +kernel)
theorem zw336 : Jvm.Cond.methodLink "RankWheels$Telling" 43 ⟨"java/lang/Math", "min", "(II)I"⟩ ∈ zTs := zTs_in 336 (by decide +kernel) (by decide +kernel)
theorem zw337 : Jvm.Cond.static ⟨"java/lang/Math", "min", "(II)I"⟩ ∈ zTs := zTs_in 337 (by decide +kernel) (by decide +kernel)
theorem zw338 : Jvm.Cond.code ⟨"java/lang/Math", "min", "(II)I"⟩ prog_11_method_69_code 2 (some .int) ∈ zTs := zTs_in 338 (by decide +kernel) (by decide +kernel)
theorem zw339 : Jvm.Cond.methodLink "RankWheels$Telling" 30 ⟨"RankWheels$Telling", "readToken", "()V"⟩ ∈ zTs := zTs_in 339 (by decide +kernel) (by decide +kernel)
theorem zw341 : Jvm.Cond.instanceMethod ⟨"RankWheels$Telling", "readToken", "()V"⟩ ∈ zTs := zTs_in 341 (by decide +kernel) (by decide +kernel)
theorem zw342 : Jvm.Cond.code ⟨"RankWheels$Telling", "readToken", "()V"⟩ prog_8_method_10_code 1 none ∈ zTs := zTs_in 342 (by decide +kernel) (by decide +kernel)
theorem zw343 : Jvm.Cond.methodLink "RankWheels$Telling" 97 ⟨"RankWheels$Telling", "isLetter", "(I)Z"⟩ ∈ zTs := zTs_in 343 (by decide +kernel) (by decide +kernel)
theorem zw344 : Jvm.Cond.static ⟨"RankWheels$Telling", "isLetter", "(I)Z"⟩ ∈ zTs := zTs_in 344 (by decide +kernel) (by decide +kernel)
theorem zw345 : Jvm.Cond.code ⟨"RankWheels$Telling", "isLetter", "(I)Z"⟩ prog_8_method_13_code 1 (some .boolean) ∈ zTs := zTs_in 345 (by decide +kernel) (by decide +kernel)
theorem zw347 : Jvm.Cond.methodLink "RankWheels$Telling" 100 ⟨"RankWheels$Telling", "readLetters", "()V"⟩ ∈ zTs := zTs_in 347 (by decide +kernel) (by decide +kernel)
theorem zw349 : Jvm.Cond.instanceMethod ⟨"RankWheels$Telling", "readLetters", "()V"⟩ ∈ zTs := zTs_in 349 (by decide +kernel) (by decide +kernel)
theorem zw350 : Jvm.Cond.code ⟨"RankWheels$Telling", "readLetters", "()V"⟩ prog_8_method_11_code 1 none ∈ zTs := zTs_in 350 (by decide +kernel) (by decide +kernel)
theorem zw351 : Jvm.Cond.methodLink "RankWheels$Telling" 103 ⟨"RankWheels$Telling", "isDigit", "(I)Z"⟩ ∈ zTs := zTs_in 351 (by decide +kernel) (by decide +kernel)
theorem zw352 : Jvm.Cond.static ⟨"RankWheels$Telling", "isDigit", "(I)Z"⟩ ∈ zTs := zTs_in 352 (by decide +kernel) (by decide +kernel)
theorem zw353 : Jvm.Cond.code ⟨"RankWheels$Telling", "isDigit", "(I)Z"⟩ prog_8_method_14_code 1 (some .boolean) ∈ zTs := zTs_in 353 (by decide +kernel) (by decide +kernel)
theorem zw354 : Jvm.Cond.methodLink "RankWheels$Telling" 106 ⟨"RankWheels$Telling", "readDigits", "()V"⟩ ∈ zTs := zTs_in 354 (by decide +kernel) (by decide +kernel)
theorem zw356 : Jvm.Cond.instanceMethod ⟨"RankWheels$Telling", "readDigits", "()V"⟩ ∈ zTs := zTs_in 356 (by decide +kernel) (by decide +kernel)
theorem zw357 : Jvm.Cond.code ⟨"RankWheels$Telling", "readDigits", "()V"⟩ prog_8_method_12_code 2 none ∈ zTs := zTs_in 357 (by decide +kernel) (by decide +kernel)
theorem zw358 : Jvm.Cond.methodLink "RankWheels$Telling" 39 ⟨"RankWheels$Telling", "tokenStands", "()Z"⟩ ∈ zTs := zTs_in 358 (by decide +kernel) (by decide +kernel)
theorem zw360 : Jvm.Cond.instanceMethod ⟨"RankWheels$Telling", "tokenStands", "()Z"⟩ ∈ zTs := zTs_in 360 (by decide +kernel) (by decide +kernel)
theorem zw361 : Jvm.Cond.code ⟨"RankWheels$Telling", "tokenStands", "()Z"⟩ prog_8_method_5_code 1 (some .boolean) ∈ zTs := zTs_in 361 (by decide +kernel) (by decide +kernel)
theorem zw362 : Jvm.Cond.methodLink "RankWheels$Telling" 67 ⟨"RankWheels$Telling", "beginsItem", "()Z"⟩ ∈ zTs := zTs_in 362 (by decide +kernel) (by decide +kernel)
theorem zw364 : Jvm.Cond.instanceMethod ⟨"RankWheels$Telling", "beginsItem", "()Z"⟩ ∈ zTs := zTs_in 364 (by decide +kernel) (by decide +kernel)
theorem zw365 : Jvm.Cond.code ⟨"RankWheels$Telling", "beginsItem", "()Z"⟩ prog_8_method_6_code 1 (some .boolean) ∈ zTs := zTs_in 365 (by decide +kernel) (by decide +kernel)
theorem zw366 : Jvm.Cond.methodLink "RankWheels$Telling" 70 ⟨"RankWheels$Telling", "numberWithin", "(II)I"⟩ ∈ zTs := zTs_in 366 (by decide +kernel) (by decide +kernel)
theorem zw368 : Jvm.Cond.instanceMethod ⟨"RankWheels$Telling", "numberWithin", "(II)I"⟩ ∈ zTs := zTs_in 368 (by decide +kernel) (by decide +kernel)
theorem zw369 : Jvm.Cond.code ⟨"RankWheels$Telling", "numberWithin", "(II)I"⟩ prog_8_method_9_code 3 (some .int) ∈ zTs := zTs_in 369 (by decide +kernel) (by decide +kernel)
theorem zw370 : Jvm.Cond.methodLink "RankWheels$Telling" 76 ⟨"RankWheels$Telling", "endsMan", "(I)Z"⟩ ∈ zTs := zTs_in 370 (by decide +kernel) (by decide +kernel)
theorem zw372 : Jvm.Cond.instanceMethod ⟨"RankWheels$Telling", "endsMan", "(I)Z"⟩ ∈ zTs := zTs_in 372 (by decide +kernel) (by decide +kernel)
theorem zw373 : Jvm.Cond.code ⟨"RankWheels$Telling", "endsMan", "(I)Z"⟩ prog_8_method_7_code 2 (some .boolean) ∈ zTs := zTs_in 373 (by decide +kernel) (by decide +kernel)
theorem zw374 : Jvm.Cond.methodLink "RankWheels$Telling" 86 ⟨"RankWheels$Men", "join", "(II)V"⟩ ∈ zTs := zTs_in 374 (by decide +kernel) (by decide +kernel)
theorem zw375 : Jvm.Cond.instanceMethod ⟨"RankWheels$Men", "join", "(II)V"⟩ ∈ zTs := zTs_in 375 (by decide +kernel) (by decide +kernel)
theorem zw376 : Jvm.Cond.selects "RankWheels$Men" ⟨"RankWheels$Men", "join", "(II)V"⟩ ⟨"RankWheels$Men", "join", "(II)V"⟩ ∈ zTs := zTs_in 376 (by decide +kernel) (by decide +kernel)
theorem zw377 : Jvm.Cond.code ⟨"RankWheels$Men", "join", "(II)V"⟩ prog_4_method_2_code 3 none ∈ zTs := zTs_in 377 (by decide +kernel) (by decide +kernel)
theorem zw378 : Jvm.Cond.methodLink "RankWheels$Telling" 80 ⟨"RankWheels$Telling", "endsItem", "()Z"⟩ ∈ zTs := zTs_in 378 (by decide +kernel) (by decide +kernel)
theorem zw380 : Jvm.Cond.instanceMethod ⟨"RankWheels$Telling", "endsItem", "()Z"⟩ ∈ zTs := zTs_in 380 (by decide +kernel) (by decide +kernel)
theorem zw381 : Jvm.Cond.code ⟨"RankWheels$Telling", "endsItem", "()Z"⟩ prog_8_method_8_code 1 (some .boolean) ∈ zTs := zTs_in 381 (by decide +kernel) (by decide +kernel)
theorem zw382 : Jvm.Cond.methodLink "RankWheels" 87 ⟨"RankWheels$Men", "copyFrom", "(LRankWheels$Men;)V"⟩ ∈ zTs := zTs_in 382 (by decide +kernel) (by decide +kernel)
theorem zw383 : Jvm.Cond.instanceMethod ⟨"RankWheels$Men", "copyFrom", "(LRankWheels$Men;)V"⟩ ∈ zTs := zTs_in 383 (by decide +kernel) (by decide +kernel)
theorem zw384 : Jvm.Cond.selects "RankWheels$Men" ⟨"RankWheels$Men", "copyFrom", "(LRankWheels$Men;)V"⟩ ⟨"RankWheels$Men", "copyFrom", "(LRankWheels$Men;)V"⟩ ∈ zTs := zTs_in 384 (by decide +kernel) (by decide +kernel)
theorem zw385 : Jvm.Cond.code ⟨"RankWheels$Men", "copyFrom", "(LRankWheels$Men;)V"⟩ prog_4_method_3_code 2 none ∈ zTs := zTs_in 385 (by decide +kernel) (by decide +kernel)
theorem zw386 : Jvm.Cond.methodLink "RankWheels$Men" 22 ⟨"java/lang/System", "arraycopy", "(Ljava/lang/Object;ILjava/lang/Object;II)V"⟩ ∈ zTs := zTs_in 386 (by decide +kernel) (by decide +kernel)
theorem zw387 : Jvm.Cond.static ⟨"java/lang/System", "arraycopy", "(Ljava/lang/Object;ILjava/lang/Object;II)V"⟩ ∈ zTs := zTs_in 387 (by decide +kernel) (by decide +kernel)
theorem zw388 : Jvm.Cond.native ⟨"java/lang/System", "arraycopy", "(Ljava/lang/Object;ILjava/lang/Object;II)V"⟩ ∈ zTs := zTs_in 388 (by decide +kernel) (by decide +kernel)
theorem zw389 : Jvm.Cond.methodLink "RankWheels" 93 ⟨"RankWheels$Telling", "toldOr", "(II)I"⟩ ∈ zTs := zTs_in 389 (by decide +kernel) (by decide +kernel)
theorem zw390 : Jvm.Cond.instanceMethod ⟨"RankWheels$Telling", "toldOr", "(II)I"⟩ ∈ zTs := zTs_in 390 (by decide +kernel) (by decide +kernel)
theorem zw391 : Jvm.Cond.selects "RankWheels$Telling" ⟨"RankWheels$Telling", "toldOr", "(II)I"⟩ ⟨"RankWheels$Telling", "toldOr", "(II)I"⟩ ∈ zTs := zTs_in 391 (by decide +kernel) (by decide +kernel)
theorem zw392 : Jvm.Cond.code ⟨"RankWheels$Telling", "toldOr", "(II)I"⟩ prog_8_method_3_code 3 (some .int) ∈ zTs := zTs_in 392 (by decide +kernel) (by decide +kernel)
theorem zw397 : Jvm.Cond.methodLink "RankWheels" 123 ⟨"RankWheels$Line", "placeOf", "(I)I"⟩ ∈ zTs := zTs_in 397 (by decide +kernel) (by decide +kernel)
theorem zw398 : Jvm.Cond.instanceMethod ⟨"RankWheels$Line", "placeOf", "(I)I"⟩ ∈ zTs := zTs_in 398 (by decide +kernel) (by decide +kernel)
theorem zw399 : Jvm.Cond.selects "RankWheels$Line" ⟨"RankWheels$Line", "placeOf", "(I)I"⟩ ⟨"RankWheels$Line", "placeOf", "(I)I"⟩ ∈ zTs := zTs_in 399 (by decide +kernel) (by decide +kernel)
theorem zw400 : Jvm.Cond.code ⟨"RankWheels$Line", "placeOf", "(I)I"⟩ prog_3_method_4_code 3 (some .int) ∈ zTs := zTs_in 400 (by decide +kernel) (by decide +kernel)
theorem zw405 : Jvm.Cond.methodLink "RankWheels" 127 ⟨"RankWheels", "isPlace", "(I)Z"⟩ ∈ zTs := zTs_in 405 (by decide +kernel) (by decide +kernel)
theorem zw407 : Jvm.Cond.instanceMethod ⟨"RankWheels", "isPlace", "(I)Z"⟩ ∈ zTs := zTs_in 407 (by decide +kernel) (by decide +kernel)
theorem zw408 : Jvm.Cond.code ⟨"RankWheels", "isPlace", "(I)Z"⟩ prog_1_method_33_code 2 (some .boolean) ∈ zTs := zTs_in 408 (by decide +kernel) (by decide +kernel)
theorem zw409 : Jvm.Cond.methodLink "RankWheels" 140 ⟨"RankWheels$Line", "wants", "(I)I"⟩ ∈ zTs := zTs_in 409 (by decide +kernel) (by decide +kernel)
theorem zw410 : Jvm.Cond.instanceMethod ⟨"RankWheels$Line", "wants", "(I)I"⟩ ∈ zTs := zTs_in 410 (by decide +kernel) (by decide +kernel)
theorem zw411 : Jvm.Cond.selects "RankWheels$Line" ⟨"RankWheels$Line", "wants", "(I)I"⟩ ⟨"RankWheels$Line", "wants", "(I)I"⟩ ∈ zTs := zTs_in 411 (by decide +kernel) (by decide +kernel)
theorem zw412 : Jvm.Cond.code ⟨"RankWheels$Line", "wants", "(I)I"⟩ prog_3_method_6_code 2 (some .int) ∈ zTs := zTs_in 412 (by decide +kernel) (by decide +kernel)
theorem zw414 : Jvm.Cond.static ⟨"RankWheels", "wanted", "(III)I"⟩ ∈ zTs := zTs_in 414 (by decide +kernel) (by decide +kernel)
theorem zw415 : Jvm.Cond.code ⟨"RankWheels", "wanted", "(III)I"⟩ prog_1_method_35_code 3 (some .int) ∈ zTs := zTs_in 415 (by decide +kernel) (by decide +kernel)
theorem zw420 : Jvm.Cond.methodLink "RankWheels" 146 ⟨"RankWheels$Past", "remember", "(LRankWheels$Line;)V"⟩ ∈ zTs := zTs_in 420 (by decide +kernel) (by decide +kernel)
theorem zw421 : Jvm.Cond.instanceMethod ⟨"RankWheels$Past", "remember", "(LRankWheels$Line;)V"⟩ ∈ zTs := zTs_in 421 (by decide +kernel) (by decide +kernel)
theorem zw422 : Jvm.Cond.selects "RankWheels$Past" ⟨"RankWheels$Past", "remember", "(LRankWheels$Line;)V"⟩ ⟨"RankWheels$Past", "remember", "(LRankWheels$Line;)V"⟩ ∈ zTs := zTs_in 422 (by decide +kernel) (by decide +kernel)
theorem zw423 : Jvm.Cond.code ⟨"RankWheels$Past", "remember", "(LRankWheels$Line;)V"⟩ prog_6_method_2_code 2 none ∈ zTs := zTs_in 423 (by decide +kernel) (by decide +kernel)
theorem zw424 : Jvm.Cond.methodLink "RankWheels$Past" 24 ⟨"RankWheels$Past", "loseOldest", "()V"⟩ ∈ zTs := zTs_in 424 (by decide +kernel) (by decide +kernel)
theorem zw426 : Jvm.Cond.instanceMethod ⟨"RankWheels$Past", "loseOldest", "()V"⟩ ∈ zTs := zTs_in 426 (by decide +kernel) (by decide +kernel)
theorem zw427 : Jvm.Cond.code ⟨"RankWheels$Past", "loseOldest", "()V"⟩ prog_6_method_3_code 3 none ∈ zTs := zTs_in 427 (by decide +kernel) (by decide +kernel)
theorem zw428 : Jvm.Cond.methodLink "RankWheels$Past" 27 ⟨"RankWheels$Line", "copyFrom", "(LRankWheels$Line;)V"⟩ ∈ zTs := zTs_in 428 (by decide +kernel) (by decide +kernel)
theorem zw429 : Jvm.Cond.instanceMethod ⟨"RankWheels$Line", "copyFrom", "(LRankWheels$Line;)V"⟩ ∈ zTs := zTs_in 429 (by decide +kernel) (by decide +kernel)
theorem zw430 : Jvm.Cond.selects "RankWheels$Line" ⟨"RankWheels$Line", "copyFrom", "(LRankWheels$Line;)V"⟩ ⟨"RankWheels$Line", "copyFrom", "(LRankWheels$Line;)V"⟩ ∈ zTs := zTs_in 430 (by decide +kernel) (by decide +kernel)
theorem zw431 : Jvm.Cond.code ⟨"RankWheels$Line", "copyFrom", "(LRankWheels$Line;)V"⟩ prog_3_method_3_code 2 none ∈ zTs := zTs_in 431 (by decide +kernel) (by decide +kernel)
theorem zw432 : Jvm.Cond.methodLink "RankWheels$Line" 38 ⟨"java/lang/System", "arraycopy", "(Ljava/lang/Object;ILjava/lang/Object;II)V"⟩ ∈ zTs := zTs_in 432 (by decide +kernel) (by decide +kernel)
theorem zw433 : Jvm.Cond.methodLink "RankWheels" 150 ⟨"RankWheels$Line", "wheelOnce", "(I)Z"⟩ ∈ zTs := zTs_in 433 (by decide +kernel) (by decide +kernel)
theorem zw434 : Jvm.Cond.instanceMethod ⟨"RankWheels$Line", "wheelOnce", "(I)Z"⟩ ∈ zTs := zTs_in 434 (by decide +kernel) (by decide +kernel)
theorem zw435 : Jvm.Cond.selects "RankWheels$Line" ⟨"RankWheels$Line", "wheelOnce", "(I)Z"⟩ ⟨"RankWheels$Line", "wheelOnce", "(I)Z"⟩ ∈ zTs := zTs_in 435 (by decide +kernel) (by decide +kernel)
theorem zw436 : Jvm.Cond.code ⟨"RankWheels$Line", "wheelOnce", "(I)Z"⟩ prog_3_method_8_code 3 (some .boolean) ∈ zTs := zTs_in 436 (by decide +kernel) (by decide +kernel)
theorem zw437 : Jvm.Cond.methodLink "RankWheels$Line" 62 ⟨"RankWheels$Line", "moveAll", "(I)Z"⟩ ∈ zTs := zTs_in 437 (by decide +kernel) (by decide +kernel)
theorem zw439 : Jvm.Cond.instanceMethod ⟨"RankWheels$Line", "moveAll", "(I)Z"⟩ ∈ zTs := zTs_in 439 (by decide +kernel) (by decide +kernel)
theorem zw440 : Jvm.Cond.code ⟨"RankWheels$Line", "moveAll", "(I)Z"⟩ prog_3_method_9_code 11 (some .boolean) ∈ zTs := zTs_in 440 (by decide +kernel) (by decide +kernel)
theorem zw441 : Jvm.Cond.methodLink "RankWheels$Line" 69 ⟨"RankWheels$Line", "wants", "(I)I"⟩ ∈ zTs := zTs_in 441 (by decide +kernel) (by decide +kernel)
theorem zw442 : Jvm.Cond.methodLink "RankWheels$Line" 73 ⟨"RankWheels$Line", "stepOf", "(IIII)I"⟩ ∈ zTs := zTs_in 442 (by decide +kernel) (by decide +kernel)
theorem zw444 : Jvm.Cond.instanceMethod ⟨"RankWheels$Line", "stepOf", "(IIII)I"⟩ ∈ zTs := zTs_in 444 (by decide +kernel) (by decide +kernel)
theorem zw445 : Jvm.Cond.code ⟨"RankWheels$Line", "stepOf", "(IIII)I"⟩ prog_3_method_10_code 6 (some .int) ∈ zTs := zTs_in 445 (by decide +kernel) (by decide +kernel)
theorem zw446 : Jvm.Cond.methodLink "RankWheels$Line" 80 ⟨"RankWheels$Line", "legAt", "(I)I"⟩ ∈ zTs := zTs_in 446 (by decide +kernel) (by decide +kernel)
theorem zw447 : Jvm.Cond.instanceMethod ⟨"RankWheels$Line", "legAt", "(I)I"⟩ ∈ zTs := zTs_in 447 (by decide +kernel) (by decide +kernel)
theorem zw448 : Jvm.Cond.selects "RankWheels$Line" ⟨"RankWheels$Line", "legAt", "(I)I"⟩ ⟨"RankWheels$Line", "legAt", "(I)I"⟩ ∈ zTs := zTs_in 448 (by decide +kernel) (by decide +kernel)
theorem zw449 : Jvm.Cond.code ⟨"RankWheels$Line", "legAt", "(I)I"⟩ prog_3_method_5_code 2 (some .int) ∈ zTs := zTs_in 449 (by decide +kernel) (by decide +kernel)
theorem zw450 : Jvm.Cond.methodLink "RankWheels$Line" 56 ⟨"java/lang/Math", "max", "(II)I"⟩ ∈ zTs := zTs_in 450 (by decide +kernel) (by decide +kernel)
theorem zw451 : Jvm.Cond.static ⟨"java/lang/Math", "max", "(II)I"⟩ ∈ zTs := zTs_in 451 (by decide +kernel) (by decide +kernel)
theorem zw452 : Jvm.Cond.code ⟨"java/lang/Math", "max", "(II)I"⟩ prog_11_method_65_code 2 (some .int) ∈ zTs := zTs_in 452 (by decide +kernel) (by decide +kernel)
theorem zw453 : Jvm.Cond.methodLink "RankWheels$Line" 77 ⟨"java/lang/Math", "min", "(II)I"⟩ ∈ zTs := zTs_in 453 (by decide +kernel) (by decide +kernel)
theorem zw454 : Jvm.Cond.methodLink "RankWheels$Line" 66 ⟨"RankWheels$Line", "changeFeet", "()V"⟩ ∈ zTs := zTs_in 454 (by decide +kernel) (by decide +kernel)
theorem zw456 : Jvm.Cond.instanceMethod ⟨"RankWheels$Line", "changeFeet", "()V"⟩ ∈ zTs := zTs_in 456 (by decide +kernel) (by decide +kernel)
theorem zw457 : Jvm.Cond.code ⟨"RankWheels$Line", "changeFeet", "()V"⟩ prog_3_method_11_code 6 none ∈ zTs := zTs_in 457 (by decide +kernel) (by decide +kernel)
theorem zw458 : Jvm.Cond.methodLink "RankWheels" 153 ⟨"RankWheels$Line", "bulge", "()I"⟩ ∈ zTs := zTs_in 458 (by decide +kernel) (by decide +kernel)
theorem zw459 : Jvm.Cond.instanceMethod ⟨"RankWheels$Line", "bulge", "()I"⟩ ∈ zTs := zTs_in 459 (by decide +kernel) (by decide +kernel)
theorem zw460 : Jvm.Cond.selects "RankWheels$Line" ⟨"RankWheels$Line", "bulge", "()I"⟩ ⟨"RankWheels$Line", "bulge", "()I"⟩ ∈ zTs := zTs_in 460 (by decide +kernel) (by decide +kernel)
theorem zw461 : Jvm.Cond.code ⟨"RankWheels$Line", "bulge", "()I"⟩ prog_3_method_12_code 3 (some .int) ∈ zTs := zTs_in 461 (by decide +kernel) (by decide +kernel)
theorem zw462 : Jvm.Cond.methodLink "RankWheels$Line" 83 ⟨"RankWheels$Line", "gapAt", "(I)I"⟩ ∈ zTs := zTs_in 462 (by decide +kernel) (by decide +kernel)
theorem zw464 : Jvm.Cond.instanceMethod ⟨"RankWheels$Line", "gapAt", "(I)I"⟩ ∈ zTs := zTs_in 464 (by decide +kernel) (by decide +kernel)
theorem zw465 : Jvm.Cond.code ⟨"RankWheels$Line", "gapAt", "(I)I"⟩ prog_3_method_14_code 2 (some .int) ∈ zTs := zTs_in 465 (by decide +kernel) (by decide +kernel)
theorem zw466 : Jvm.Cond.methodLink "RankWheels$Line" 90 ⟨"java/lang/Math", "abs", "(I)I"⟩ ∈ zTs := zTs_in 466 (by decide +kernel) (by decide +kernel)
theorem zw467 : Jvm.Cond.static ⟨"java/lang/Math", "abs", "(I)I"⟩ ∈ zTs := zTs_in 467 (by decide +kernel) (by decide +kernel)
theorem zw468 : Jvm.Cond.code ⟨"java/lang/Math", "abs", "(I)I"⟩ prog_11_method_59_code 1 (some .int) ∈ zTs := zTs_in 468 (by decide +kernel) (by decide +kernel)
theorem zw473 : Jvm.Cond.methodLink "RankWheels" 157 ⟨"RankWheels$Line", "lose", "(II)V"⟩ ∈ zTs := zTs_in 473 (by decide +kernel) (by decide +kernel)
theorem zw474 : Jvm.Cond.instanceMethod ⟨"RankWheels$Line", "lose", "(II)V"⟩ ∈ zTs := zTs_in 474 (by decide +kernel) (by decide +kernel)
theorem zw475 : Jvm.Cond.selects "RankWheels$Line" ⟨"RankWheels$Line", "lose", "(II)V"⟩ ⟨"RankWheels$Line", "lose", "(II)V"⟩ ∈ zTs := zTs_in 475 (by decide +kernel) (by decide +kernel)
theorem zw476 : Jvm.Cond.code ⟨"RankWheels$Line", "lose", "(II)V"⟩ prog_3_method_7_code 3 none ∈ zTs := zTs_in 476 (by decide +kernel) (by decide +kernel)
theorem zw489 : Jvm.Cond.methodLink "RankWheels" 163 ⟨"RankWheels", "bothMinds", "(II)I"⟩ ∈ zTs := zTs_in 489 (by decide +kernel) (by decide +kernel)
theorem zw490 : Jvm.Cond.static ⟨"RankWheels", "bothMinds", "(II)I"⟩ ∈ zTs := zTs_in 490 (by decide +kernel) (by decide +kernel)
theorem zw491 : Jvm.Cond.code ⟨"RankWheels", "bothMinds", "(II)I"⟩ prog_1_method_34_code 2 (some .int) ∈ zTs := zTs_in 491 (by decide +kernel) (by decide +kernel)
theorem zw500 : Jvm.Cond.methodLink "RankWheels" 167 ⟨"RankWheels$Past", "takeBack", "(LRankWheels$Line;)V"⟩ ∈ zTs := zTs_in 500 (by decide +kernel) (by decide +kernel)
theorem zw501 : Jvm.Cond.instanceMethod ⟨"RankWheels$Past", "takeBack", "(LRankWheels$Line;)V"⟩ ∈ zTs := zTs_in 501 (by decide +kernel) (by decide +kernel)
theorem zw502 : Jvm.Cond.selects "RankWheels$Past" ⟨"RankWheels$Past", "takeBack", "(LRankWheels$Line;)V"⟩ ⟨"RankWheels$Past", "takeBack", "(LRankWheels$Line;)V"⟩ ∈ zTs := zTs_in 502 (by decide +kernel) (by decide +kernel)
theorem zw503 : Jvm.Cond.code ⟨"RankWheels$Past", "takeBack", "(LRankWheels$Line;)V"⟩ prog_6_method_4_code 2 none ∈ zTs := zTs_in 503 (by decide +kernel) (by decide +kernel)
theorem zw508 : Jvm.Cond.methodLink "RankWheels" 170 ⟨"RankWheels$Line", "bulgePlace", "()I"⟩ ∈ zTs := zTs_in 508 (by decide +kernel) (by decide +kernel)
theorem zw509 : Jvm.Cond.instanceMethod ⟨"RankWheels$Line", "bulgePlace", "()I"⟩ ∈ zTs := zTs_in 509 (by decide +kernel) (by decide +kernel)
theorem zw510 : Jvm.Cond.selects "RankWheels$Line" ⟨"RankWheels$Line", "bulgePlace", "()I"⟩ ⟨"RankWheels$Line", "bulgePlace", "()I"⟩ ∈ zTs := zTs_in 510 (by decide +kernel) (by decide +kernel)
theorem zw511 : Jvm.Cond.code ⟨"RankWheels$Line", "bulgePlace", "()I"⟩ prog_3_method_13_code 3 (some .int) ∈ zTs := zTs_in 511 (by decide +kernel) (by decide +kernel)
theorem zw512 : Jvm.Cond.methodLink "RankWheels$Line" 86 ⟨"RankWheels$Line", "bulge", "()I"⟩ ∈ zTs := zTs_in 512 (by decide +kernel) (by decide +kernel)
theorem zw513 : Jvm.Cond.methodLink "RankWheels" 173 ⟨"RankWheels$Line", "feet", "()I"⟩ ∈ zTs := zTs_in 513 (by decide +kernel) (by decide +kernel)
theorem zw514 : Jvm.Cond.instanceMethod ⟨"RankWheels$Line", "feet", "()I"⟩ ∈ zTs := zTs_in 514 (by decide +kernel) (by decide +kernel)
theorem zw515 : Jvm.Cond.selects "RankWheels$Line" ⟨"RankWheels$Line", "feet", "()I"⟩ ⟨"RankWheels$Line", "feet", "()I"⟩ ∈ zTs := zTs_in 515 (by decide +kernel) (by decide +kernel)
theorem zw516 : Jvm.Cond.code ⟨"RankWheels$Line", "feet", "()I"⟩ prog_3_method_15_code 3 (some .int) ∈ zTs := zTs_in 516 (by decide +kernel) (by decide +kernel)
theorem zw517 : Jvm.Cond.methodLink "RankWheels" 176 ⟨"RankWheels$Line", "placesInLine", "()I"⟩ ∈ zTs := zTs_in 517 (by decide +kernel) (by decide +kernel)
theorem zw518 : Jvm.Cond.instanceMethod ⟨"RankWheels$Line", "placesInLine", "()I"⟩ ∈ zTs := zTs_in 518 (by decide +kernel) (by decide +kernel)
theorem zw519 : Jvm.Cond.selects "RankWheels$Line" ⟨"RankWheels$Line", "placesInLine", "()I"⟩ ⟨"RankWheels$Line", "placesInLine", "()I"⟩ ∈ zTs := zTs_in 519 (by decide +kernel) (by decide +kernel)
theorem zw520 : Jvm.Cond.code ⟨"RankWheels$Line", "placesInLine", "()I"⟩ prog_3_method_17_code 3 (some .int) ∈ zTs := zTs_in 520 (by decide +kernel) (by decide +kernel)
theorem zw525 : Jvm.Cond.methodLink "RankWheels" 179 ⟨"RankWheels", "pacesTillDressed", "(III)I"⟩ ∈ zTs := zTs_in 525 (by decide +kernel) (by decide +kernel)
theorem zw527 : Jvm.Cond.instanceMethod ⟨"RankWheels", "pacesTillDressed", "(III)I"⟩ ∈ zTs := zTs_in 527 (by decide +kernel) (by decide +kernel)
theorem zw528 : Jvm.Cond.code ⟨"RankWheels", "pacesTillDressed", "(III)I"⟩ prog_1_method_37_code 5 (some .int) ∈ zTs := zTs_in 528 (by decide +kernel) (by decide +kernel)
theorem zw529 : Jvm.Cond.methodLink "RankWheels" 202 ⟨"RankWheels$Line", "copyFrom", "(LRankWheels$Line;)V"⟩ ∈ zTs := zTs_in 529 (by decide +kernel) (by decide +kernel)
theorem zw534 : Jvm.Cond.methodLink "RankWheels" 183 ⟨"RankWheels", "lookAhead", "(II)V"⟩ ∈ zTs := zTs_in 534 (by decide +kernel) (by decide +kernel)
theorem zw536 : Jvm.Cond.instanceMethod ⟨"RankWheels", "lookAhead", "(II)V"⟩ ∈ zTs := zTs_in 536 (by decide +kernel) (by decide +kernel)
theorem zw537 : Jvm.Cond.code ⟨"RankWheels", "lookAhead", "(II)V"⟩ prog_1_method_36_code 4 none ∈ zTs := zTs_in 537 (by decide +kernel) (by decide +kernel)
theorem zw546 : Jvm.Cond.methodLink "RankWheels" 186 ⟨"RankWheels", "allCanStride", "(I)Z"⟩ ∈ zTs := zTs_in 546 (by decide +kernel) (by decide +kernel)
theorem zw548 : Jvm.Cond.instanceMethod ⟨"RankWheels", "allCanStride", "(I)Z"⟩ ∈ zTs := zTs_in 548 (by decide +kernel) (by decide +kernel)
theorem zw549 : Jvm.Cond.code ⟨"RankWheels", "allCanStride", "(I)Z"⟩ prog_1_method_38_code 3 (some .boolean) ∈ zTs := zTs_in 549 (by decide +kernel) (by decide +kernel)
theorem zw550 : Jvm.Cond.methodLink "RankWheels" 260 ⟨"RankWheels", "wanted", "(III)I"⟩ ∈ zTs := zTs_in 550 (by decide +kernel) (by decide +kernel)
theorem zw551 : Jvm.Cond.methodLink "RankWheels" 263 ⟨"RankWheels$Line", "legAt", "(I)I"⟩ ∈ zTs := zTs_in 551 (by decide +kernel) (by decide +kernel)
theorem zw556 : Jvm.Cond.methodLink "RankWheels" 189 ⟨"RankWheels$Ordering", "arrange", "(I)V"⟩ ∈ zTs := zTs_in 556 (by decide +kernel) (by decide +kernel)
theorem zw557 : Jvm.Cond.instanceMethod ⟨"RankWheels$Ordering", "arrange", "(I)V"⟩ ∈ zTs := zTs_in 557 (by decide +kernel) (by decide +kernel)
theorem zw558 : Jvm.Cond.selects "RankWheels$Ordering" ⟨"RankWheels$Ordering", "arrange", "(I)V"⟩ ⟨"RankWheels$Ordering", "arrange", "(I)V"⟩ ∈ zTs := zTs_in 558 (by decide +kernel) (by decide +kernel)
theorem zw559 : Jvm.Cond.code ⟨"RankWheels$Ordering", "arrange", "(I)V"⟩ prog_5_method_2_code 2 none ∈ zTs := zTs_in 559 (by decide +kernel) (by decide +kernel)
theorem zw560 : Jvm.Cond.constant "RankWheels$Ordering" 28 2147483647 ∈ zTs := zTs_in 560 (by decide +kernel) (by decide +kernel)
theorem zw561 : Jvm.Cond.methodLink "RankWheels$Ordering" 35 ⟨"RankWheels$Ordering", "fillFrom", "(LRankWheels$Ordering;IIII)V"⟩ ∈ zTs := zTs_in 561 (by decide +kernel) (by decide +kernel)
theorem zw562 : Jvm.Cond.static ⟨"RankWheels$Ordering", "fillFrom", "(LRankWheels$Ordering;IIII)V"⟩ ∈ zTs := zTs_in 562 (by decide +kernel) (by decide +kernel)
theorem zw563 : Jvm.Cond.code ⟨"RankWheels$Ordering", "fillFrom", "(LRankWheels$Ordering;IIII)V"⟩ prog_5_method_3_code 6 none ∈ zTs := zTs_in 563 (by decide +kernel) (by decide +kernel)
theorem zw564 : Jvm.Cond.methodLink "RankWheels$Ordering" 39 ⟨"RankWheels$Ordering", "isBetter", "(II)Z"⟩ ∈ zTs := zTs_in 564 (by decide +kernel) (by decide +kernel)
theorem zw566 : Jvm.Cond.instanceMethod ⟨"RankWheels$Ordering", "isBetter", "(II)Z"⟩ ∈ zTs := zTs_in 566 (by decide +kernel) (by decide +kernel)
theorem zw567 : Jvm.Cond.code ⟨"RankWheels$Ordering", "isBetter", "(II)Z"⟩ prog_5_method_6_code 3 (some .boolean) ∈ zTs := zTs_in 567 (by decide +kernel) (by decide +kernel)
theorem zw568 : Jvm.Cond.methodLink "RankWheels$Ordering" 48 ⟨"RankWheels$Ordering", "becomeBest", "(II)V"⟩ ∈ zTs := zTs_in 568 (by decide +kernel) (by decide +kernel)
theorem zw570 : Jvm.Cond.instanceMethod ⟨"RankWheels$Ordering", "becomeBest", "(II)V"⟩ ∈ zTs := zTs_in 570 (by decide +kernel) (by decide +kernel)
theorem zw571 : Jvm.Cond.code ⟨"RankWheels$Ordering", "becomeBest", "(II)V"⟩ prog_5_method_7_code 3 none ∈ zTs := zTs_in 571 (by decide +kernel) (by decide +kernel)
theorem zw572 : Jvm.Cond.methodLink "RankWheels$Ordering" 78 ⟨"java/lang/System", "arraycopy", "(Ljava/lang/Object;ILjava/lang/Object;II)V"⟩ ∈ zTs := zTs_in 572 (by decide +kernel) (by decide +kernel)
theorem zw573 : Jvm.Cond.methodLink "RankWheels$Ordering" 52 ⟨"RankWheels$Ordering", "aboveLegAt", "(I)I"⟩ ∈ zTs := zTs_in 573 (by decide +kernel) (by decide +kernel)
theorem zw575 : Jvm.Cond.instanceMethod ⟨"RankWheels$Ordering", "aboveLegAt", "(I)I"⟩ ∈ zTs := zTs_in 575 (by decide +kernel) (by decide +kernel)
theorem zw576 : Jvm.Cond.code ⟨"RankWheels$Ordering", "aboveLegAt", "(I)I"⟩ prog_5_method_4_code 2 (some .int) ∈ zTs := zTs_in 576 (by decide +kernel) (by decide +kernel)
theorem zw578 : Jvm.Cond.methodLink "RankWheels$Ordering" 66 ⟨"java/lang/Math", "max", "(II)I"⟩ ∈ zTs := zTs_in 578 (by decide +kernel) (by decide +kernel)
theorem zw579 : Jvm.Cond.methodLink "RankWheels$Ordering" 56 ⟨"RankWheels$Ordering", "apartInwardOf", "(I)I"⟩ ∈ zTs := zTs_in 579 (by decide +kernel) (by decide +kernel)
theorem zw581 : Jvm.Cond.instanceMethod ⟨"RankWheels$Ordering", "apartInwardOf", "(I)I"⟩ ∈ zTs := zTs_in 581 (by decide +kernel) (by decide +kernel)
theorem zw582 : Jvm.Cond.code ⟨"RankWheels$Ordering", "apartInwardOf", "(I)I"⟩ prog_5_method_5_code 2 (some .int) ∈ zTs := zTs_in 582 (by decide +kernel) (by decide +kernel)
theorem zw583 : Jvm.Cond.methodLink "RankWheels$Ordering" 75 ⟨"java/lang/Math", "abs", "(I)I"⟩ ∈ zTs := zTs_in 583 (by decide +kernel) (by decide +kernel)
theorem zw588 : Jvm.Cond.methodLink "RankWheels" 204 ⟨"RankWheels$Line", "feetAlike", "()Z"⟩ ∈ zTs := zTs_in 588 (by decide +kernel) (by decide +kernel)
theorem zw589 : Jvm.Cond.instanceMethod ⟨"RankWheels$Line", "feetAlike", "()Z"⟩ ∈ zTs := zTs_in 589 (by decide +kernel) (by decide +kernel)
theorem zw590 : Jvm.Cond.selects "RankWheels$Line" ⟨"RankWheels$Line", "feetAlike", "()Z"⟩ ⟨"RankWheels$Line", "feetAlike", "()Z"⟩ ∈ zTs := zTs_in 590 (by decide +kernel) (by decide +kernel)
theorem zw591 : Jvm.Cond.code ⟨"RankWheels$Line", "feetAlike", "()Z"⟩ prog_3_method_16_code 2 (some .boolean) ∈ zTs := zTs_in 591 (by decide +kernel) (by decide +kernel)
theorem zw596 : Jvm.Cond.methodLink "RankWheels" 208 ⟨"RankWheels$Line", "pacesBehind", "(I)I"⟩ ∈ zTs := zTs_in 596 (by decide +kernel) (by decide +kernel)
theorem zw597 : Jvm.Cond.instanceMethod ⟨"RankWheels$Line", "pacesBehind", "(I)I"⟩ ∈ zTs := zTs_in 597 (by decide +kernel) (by decide +kernel)
theorem zw598 : Jvm.Cond.selects "RankWheels$Line" ⟨"RankWheels$Line", "pacesBehind", "(I)I"⟩ ⟨"RankWheels$Line", "pacesBehind", "(I)I"⟩ ∈ zTs := zTs_in 598 (by decide +kernel) (by decide +kernel)
theorem zw599 : Jvm.Cond.code ⟨"RankWheels$Line", "pacesBehind", "(I)I"⟩ prog_3_method_18_code 6 (some .int) ∈ zTs := zTs_in 599 (by decide +kernel) (by decide +kernel)
theorem zw600 : Jvm.Cond.methodLink "RankWheels" 211 ⟨"java/lang/Math", "max", "(II)I"⟩ ∈ zTs := zTs_in 600 (by decide +kernel) (by decide +kernel)
theorem zw609 : Jvm.Cond.methodLink "RankWheels" 216 ⟨"RankWheels", "waysInTenths", "(III)I"⟩ ∈ zTs := zTs_in 609 (by decide +kernel) (by decide +kernel)
theorem zw610 : Jvm.Cond.static ⟨"RankWheels", "waysInTenths", "(III)I"⟩ ∈ zTs := zTs_in 610 (by decide +kernel) (by decide +kernel)
theorem zw611 : Jvm.Cond.code ⟨"RankWheels", "waysInTenths", "(III)I"⟩ prog_1_method_39_code 6 (some .int) ∈ zTs := zTs_in 611 (by decide +kernel) (by decide +kernel)
theorem zw612 : Jvm.Cond.methodLink "RankWheels" 219 ⟨"RankWheels", "power", "(II)I"⟩ ∈ zTs := zTs_in 612 (by decide +kernel) (by decide +kernel)
theorem zw613 : Jvm.Cond.static ⟨"RankWheels", "power", "(II)I"⟩ ∈ zTs := zTs_in 613 (by decide +kernel) (by decide +kernel)
theorem zw614 : Jvm.Cond.code ⟨"RankWheels", "power", "(II)I"⟩ prog_1_method_40_code 4 (some .int) ∈ zTs := zTs_in 614 (by decide +kernel) (by decide +kernel)
theorem zw615 : Jvm.Cond.methodLink "RankWheels" 222 ⟨"RankWheels", "greatestDivisor", "(II)I"⟩ ∈ zTs := zTs_in 615 (by decide +kernel) (by decide +kernel)
theorem zw616 : Jvm.Cond.static ⟨"RankWheels", "greatestDivisor", "(II)I"⟩ ∈ zTs := zTs_in 616 (by decide +kernel) (by decide +kernel)
theorem zw617 : Jvm.Cond.code ⟨"RankWheels", "greatestDivisor", "(II)I"⟩ prog_1_method_41_code 6 (some .int) ∈ zTs := zTs_in 617 (by decide +kernel) (by decide +kernel)
theorem zw622 : Jvm.Cond.methodLink "RankWheels" 225 ⟨"RankWheels$Sightings", "note", "(III)V"⟩ ∈ zTs := zTs_in 622 (by decide +kernel) (by decide +kernel)
theorem zw623 : Jvm.Cond.instanceMethod ⟨"RankWheels$Sightings", "note", "(III)V"⟩ ∈ zTs := zTs_in 623 (by decide +kernel) (by decide +kernel)
theorem zw624 : Jvm.Cond.selects "RankWheels$Sightings" ⟨"RankWheels$Sightings", "note", "(III)V"⟩ ⟨"RankWheels$Sightings", "note", "(III)V"⟩ ∈ zTs := zTs_in 624 (by decide +kernel) (by decide +kernel)
theorem zw625 : Jvm.Cond.code ⟨"RankWheels$Sightings", "note", "(III)V"⟩ prog_7_method_2_code 4 none ∈ zTs := zTs_in 625 (by decide +kernel) (by decide +kernel)
theorem zw634 : Jvm.Cond.methodLink "RankWheels" 228 ⟨"RankWheels", "tellsAllSeen", "(II)Z"⟩ ∈ zTs := zTs_in 634 (by decide +kernel) (by decide +kernel)
theorem zw636 : Jvm.Cond.instanceMethod ⟨"RankWheels", "tellsAllSeen", "(II)Z"⟩ ∈ zTs := zTs_in 636 (by decide +kernel) (by decide +kernel)
theorem zw637 : Jvm.Cond.code ⟨"RankWheels", "tellsAllSeen", "(II)Z"⟩ prog_1_method_42_code 5 (some .boolean) ∈ zTs := zTs_in 637 (by decide +kernel) (by decide +kernel)
theorem zw638 : Jvm.Cond.methodLink "RankWheels" 266 ⟨"RankWheels$Sightings", "lastPace", "()I"⟩ ∈ zTs := zTs_in 638 (by decide +kernel) (by decide +kernel)
theorem zw639 : Jvm.Cond.instanceMethod ⟨"RankWheels$Sightings", "lastPace", "()I"⟩ ∈ zTs := zTs_in 639 (by decide +kernel) (by decide +kernel)
theorem zw640 : Jvm.Cond.selects "RankWheels$Sightings" ⟨"RankWheels$Sightings", "lastPace", "()I"⟩ ⟨"RankWheels$Sightings", "lastPace", "()I"⟩ ∈ zTs := zTs_in 640 (by decide +kernel) (by decide +kernel)
theorem zw641 : Jvm.Cond.code ⟨"RankWheels$Sightings", "lastPace", "()I"⟩ prog_7_method_3_code 3 (some .int) ∈ zTs := zTs_in 641 (by decide +kernel) (by decide +kernel)
theorem zw642 : Jvm.Cond.methodLink "RankWheels$Sightings" 25 ⟨"java/lang/Math", "max", "(II)I"⟩ ∈ zTs := zTs_in 642 (by decide +kernel) (by decide +kernel)
theorem zw643 : Jvm.Cond.methodLink "RankWheels" 269 ⟨"RankWheels$Sightings", "fit", "(LRankWheels$Line;I)Z"⟩ ∈ zTs := zTs_in 643 (by decide +kernel) (by decide +kernel)
theorem zw644 : Jvm.Cond.instanceMethod ⟨"RankWheels$Sightings", "fit", "(LRankWheels$Line;I)Z"⟩ ∈ zTs := zTs_in 644 (by decide +kernel) (by decide +kernel)
theorem zw645 : Jvm.Cond.selects "RankWheels$Sightings" ⟨"RankWheels$Sightings", "fit", "(LRankWheels$Line;I)Z"⟩ ⟨"RankWheels$Sightings", "fit", "(LRankWheels$Line;I)Z"⟩ ∈ zTs := zTs_in 645 (by decide +kernel) (by decide +kernel)
theorem zw646 : Jvm.Cond.code ⟨"RankWheels$Sightings", "fit", "(LRankWheels$Line;I)Z"⟩ prog_7_method_4_code 4 (some .boolean) ∈ zTs := zTs_in 646 (by decide +kernel) (by decide +kernel)
theorem zw651 : Jvm.Cond.constant "RankWheels" 232 (-1000000) ∈ zTs := zTs_in 651 (by decide +kernel) (by decide +kernel)
theorem zw652 : Jvm.Cond.methodLink "RankWheels" 233 ⟨"RankWheels", "rateOfStep", "(I)I"⟩ ∈ zTs := zTs_in 652 (by decide +kernel) (by decide +kernel)
theorem zw654 : Jvm.Cond.instanceMethod ⟨"RankWheels", "rateOfStep", "(I)I"⟩ ∈ zTs := zTs_in 654 (by decide +kernel) (by decide +kernel)
theorem zw655 : Jvm.Cond.code ⟨"RankWheels", "rateOfStep", "(I)I"⟩ prog_1_method_43_code 2 (some .int) ∈ zTs := zTs_in 655 (by decide +kernel) (by decide +kernel)
theorem zw656 : Jvm.Cond.methodLink "RankWheels" 236 ⟨"RankWheels", "rateOfShort", "(I)I"⟩ ∈ zTs := zTs_in 656 (by decide +kernel) (by decide +kernel)
theorem zw658 : Jvm.Cond.instanceMethod ⟨"RankWheels", "rateOfShort", "(I)I"⟩ ∈ zTs := zTs_in 658 (by decide +kernel) (by decide +kernel)
theorem zw659 : Jvm.Cond.code ⟨"RankWheels", "rateOfShort", "(I)I"⟩ prog_1_method_44_code 2 (some .int) ∈ zTs := zTs_in 659 (by decide +kernel) (by decide +kernel)
theorem zw660 : Jvm.Cond.constantLong "RankWheels" 273 10 ∈ zTs := zTs_in 660 (by decide +kernel) (by decide +kernel)
theorem zw661 : Jvm.Cond.methodLink "RankWheels" 239 ⟨"RankWheels", "rateOfSeen", "(I)I"⟩ ∈ zTs := zTs_in 661 (by decide +kernel) (by decide +kernel)
theorem zw663 : Jvm.Cond.instanceMethod ⟨"RankWheels", "rateOfSeen", "(I)I"⟩ ∈ zTs := zTs_in 663 (by decide +kernel) (by decide +kernel)
theorem zw664 : Jvm.Cond.code ⟨"RankWheels", "rateOfSeen", "(I)I"⟩ prog_1_method_45_code 2 (some .int) ∈ zTs := zTs_in 664 (by decide +kernel) (by decide +kernel)
theorem zw665 : Jvm.Cond.constantLong "RankWheels" 275 100 ∈ zTs := zTs_in 665 (by decide +kernel) (by decide +kernel)
theorem zw666 : Jvm.Cond.methodLink "RankWheels" 242 ⟨"RankWheels", "rateOfMarked", "(I)I"⟩ ∈ zTs := zTs_in 666 (by decide +kernel) (by decide +kernel)
theorem zw668 : Jvm.Cond.instanceMethod ⟨"RankWheels", "rateOfMarked", "(I)I"⟩ ∈ zTs := zTs_in 668 (by decide +kernel) (by decide +kernel)
theorem zw669 : Jvm.Cond.code ⟨"RankWheels", "rateOfMarked", "(I)I"⟩ prog_1_method_46_code 2 (some .int) ∈ zTs := zTs_in 669 (by decide +kernel) (by decide +kernel)
theorem zw670 : Jvm.Cond.constantLong "RankWheels" 277 1000 ∈ zTs := zTs_in 670 (by decide +kernel) (by decide +kernel)
theorem zw671 : Jvm.Cond.methodLink "RankWheels" 245 ⟨"RankWheels", "rateOfBulging", "(I)I"⟩ ∈ zTs := zTs_in 671 (by decide +kernel) (by decide +kernel)
theorem zw673 : Jvm.Cond.instanceMethod ⟨"RankWheels", "rateOfBulging", "(I)I"⟩ ∈ zTs := zTs_in 673 (by decide +kernel) (by decide +kernel)
theorem zw674 : Jvm.Cond.code ⟨"RankWheels", "rateOfBulging", "(I)I"⟩ prog_1_method_47_code 2 (some .int) ∈ zTs := zTs_in 674 (by decide +kernel) (by decide +kernel)
theorem zw675 : Jvm.Cond.constantLong "RankWheels" 279 10000 ∈ zTs := zTs_in 675 (by decide +kernel) (by decide +kernel)
theorem zw676 : Jvm.Cond.methodLink "RankWheels" 248 ⟨"RankWheels", "rateOfHopped", "(I)I"⟩ ∈ zTs := zTs_in 676 (by decide +kernel) (by decide +kernel)
theorem zw678 : Jvm.Cond.instanceMethod ⟨"RankWheels", "rateOfHopped", "(I)I"⟩ ∈ zTs := zTs_in 678 (by decide +kernel) (by decide +kernel)
theorem zw679 : Jvm.Cond.code ⟨"RankWheels", "rateOfHopped", "(I)I"⟩ prog_1_method_48_code 2 (some .int) ∈ zTs := zTs_in 679 (by decide +kernel) (by decide +kernel)
theorem zw680 : Jvm.Cond.constantLong "RankWheels" 281 100000 ∈ zTs := zTs_in 680 (by decide +kernel) (by decide +kernel)
theorem zw685 : Jvm.Cond.methodLink "RankWheels" 253 ⟨"RankWheels$Past", "copyFrom", "(LRankWheels$Past;)V"⟩ ∈ zTs := zTs_in 685 (by decide +kernel) (by decide +kernel)
theorem zw686 : Jvm.Cond.instanceMethod ⟨"RankWheels$Past", "copyFrom", "(LRankWheels$Past;)V"⟩ ∈ zTs := zTs_in 686 (by decide +kernel) (by decide +kernel)
theorem zw687 : Jvm.Cond.selects "RankWheels$Past" ⟨"RankWheels$Past", "copyFrom", "(LRankWheels$Past;)V"⟩ ⟨"RankWheels$Past", "copyFrom", "(LRankWheels$Past;)V"⟩ ∈ zTs := zTs_in 687 (by decide +kernel) (by decide +kernel)
theorem zw688 : Jvm.Cond.code ⟨"RankWheels$Past", "copyFrom", "(LRankWheels$Past;)V"⟩ prog_6_method_5_code 3 none ∈ zTs := zTs_in 688 (by decide +kernel) (by decide +kernel)
theorem zw707 : Jvm.Cond.methodLink "RankWheelsModel" 48 ⟨"RankWheelsModel", "plain", "()V"⟩ ∈ zTs := zTs_in 707 (by decide +kernel) (by decide +kernel)
theorem zw709 : Jvm.Cond.instanceMethod ⟨"RankWheelsModel", "plain", "()V"⟩ ∈ zTs := zTs_in 709 (by decide +kernel) (by decide +kernel)
theorem zw710 : Jvm.Cond.code ⟨"RankWheelsModel", "plain", "()V"⟩ prog_10_method_13_code 1 none ∈ zTs := zTs_in 710 (by decide +kernel) (by decide +kernel)
theorem zw711 : Jvm.Cond.methodLink "RankWheelsModel" 51 ⟨"RankWheelsModel", "takeDraft", "()V"⟩ ∈ zTs := zTs_in 711 (by decide +kernel) (by decide +kernel)
theorem zw713 : Jvm.Cond.instanceMethod ⟨"RankWheelsModel", "takeDraft", "()V"⟩ ∈ zTs := zTs_in 713 (by decide +kernel) (by decide +kernel)
theorem zw714 : Jvm.Cond.code ⟨"RankWheelsModel", "takeDraft", "()V"⟩ prog_10_method_14_code 2 none ∈ zTs := zTs_in 714 (by decide +kernel) (by decide +kernel)
theorem zw715 : Jvm.Cond.fieldLink "RankWheelsModel" 169 "RankWheelsModel" "trace" "J" ∈ zTs := zTs_in 715 (by decide +kernel) (by decide +kernel)
theorem zw716 : Jvm.Cond.fieldLink "RankWheelsModel" 7 "RankWheelsModel" "text" "[B" ∈ zTs := zTs_in 716 (by decide +kernel) (by decide +kernel)
theorem zw717 : Jvm.Cond.fieldLink "RankWheelsModel" 58 "RankWheelsModel" "typed" "I" ∈ zTs := zTs_in 717 (by decide +kernel) (by decide +kernel)
theorem zw718 : Jvm.Cond.fieldLink "RankWheelsModel" 13 "RankWheelsModel" "men" "[I" ∈ zTs := zTs_in 718 (by decide +kernel) (by decide +kernel)
theorem zw719 : Jvm.Cond.fieldLink "RankWheelsModel" 17 "RankWheelsModel" "leg" "[I" ∈ zTs := zTs_in 719 (by decide +kernel) (by decide +kernel)
theorem zw720 : Jvm.Cond.fieldLink "RankWheelsModel" 20 "RankWheelsModel" "height" "[I" ∈ zTs := zTs_in 720 (by decide +kernel) (by decide +kernel)
theorem zw721 : Jvm.Cond.fieldLink "RankWheelsModel" 23 "RankWheelsModel" "law" "[I" ∈ zTs := zTs_in 721 (by decide +kernel) (by decide +kernel)
theorem zw722 : Jvm.Cond.fieldLink "RankWheelsModel" 62 "RankWheelsModel" "at" "I" ∈ zTs := zTs_in 722 (by decide +kernel) (by decide +kernel)
theorem zw723 : Jvm.Cond.fieldLink "RankWheelsModel" 69 "RankWheelsModel" "start" "I" ∈ zTs := zTs_in 723 (by decide +kernel) (by decide +kernel)
theorem zw724 : Jvm.Cond.fieldLink "RankWheelsModel" 75 "RankWheelsModel" "sort" "I" ∈ zTs := zTs_in 724 (by decide +kernel) (by decide +kernel)
theorem zw725 : Jvm.Cond.fieldLink "RankWheelsModel" 72 "RankWheelsModel" "value" "I" ∈ zTs := zTs_in 725 (by decide +kernel) (by decide +kernel)
theorem zw726 : Jvm.Cond.fieldLink "RankWheelsModel" 78 "RankWheelsModel" "fault" "I" ∈ zTs := zTs_in 726 (by decide +kernel) (by decide +kernel)
theorem zw727 : Jvm.Cond.fieldLink "RankWheelsModel" 92 "RankWheelsModel" "toldLaws" "I" ∈ zTs := zTs_in 727 (by decide +kernel) (by decide +kernel)
theorem zw728 : Jvm.Cond.fieldLink "RankWheelsModel" 26 "RankWheelsModel" "now" "[I" ∈ zTs := zTs_in 728 (by decide +kernel) (by decide +kernel)
theorem zw729 : Jvm.Cond.fieldLink "RankWheelsModel" 29 "RankWheelsModel" "isKept" "[Z" ∈ zTs := zTs_in 729 (by decide +kernel) (by decide +kernel)
theorem zw730 : Jvm.Cond.fieldLink "RankWheelsModel" 33 "RankWheelsModel" "tried" "[I" ∈ zTs := zTs_in 730 (by decide +kernel) (by decide +kernel)
theorem zw731 : Jvm.Cond.fieldLink "RankWheelsModel" 36 "RankWheelsModel" "then" "[I" ∈ zTs := zTs_in 731 (by decide +kernel) (by decide +kernel)
theorem zw732 : Jvm.Cond.fieldLink "RankWheelsModel" 155 "RankWheelsModel" "bestAbove" "I" ∈ zTs := zTs_in 732 (by decide +kernel) (by decide +kernel)
theorem zw733 : Jvm.Cond.fieldLink "RankWheelsModel" 158 "RankWheelsModel" "bestApart" "I" ∈ zTs := zTs_in 733 (by decide +kernel) (by decide +kernel)
theorem zw734 : Jvm.Cond.fieldLink "RankWheelsModel" 152 "RankWheelsModel" "bestRow" "I" ∈ zTs := zTs_in 734 (by decide +kernel) (by decide +kernel)
theorem zw735 : Jvm.Cond.fieldLink "RankWheelsModel" 39 "RankWheelsModel" "seenAt" "[I" ∈ zTs := zTs_in 735 (by decide +kernel) (by decide +kernel)
theorem zw736 : Jvm.Cond.fieldLink "RankWheelsModel" 42 "RankWheelsModel" "seenBehind" "[I" ∈ zTs := zTs_in 736 (by decide +kernel) (by decide +kernel)
theorem zw737 : Jvm.Cond.fieldLink "RankWheelsModel" 45 "RankWheelsModel" "seenInches" "[I" ∈ zTs := zTs_in 737 (by decide +kernel) (by decide +kernel)
theorem zw738 : Jvm.Cond.fieldLink "RankWheelsModel" 99 "RankWheelsModel" "seen" "I" ∈ zTs := zTs_in 738 (by decide +kernel) (by decide +kernel)
theorem zw794 : Jvm.Cond.methodLink "RankWheelsModel" 54 ⟨"RankWheelsModel", "in", "(III)Z"⟩ ∈ zTs := zTs_in 794 (by decide +kernel) (by decide +kernel)
theorem zw795 : Jvm.Cond.static ⟨"RankWheelsModel", "in", "(III)Z"⟩ ∈ zTs := zTs_in 795 (by decide +kernel) (by decide +kernel)
theorem zw796 : Jvm.Cond.code ⟨"RankWheelsModel", "in", "(III)Z"⟩ prog_10_method_3_code 3 (some .boolean) ∈ zTs := zTs_in 796 (by decide +kernel) (by decide +kernel)
theorem zw805 : Jvm.Cond.methodLink "RankWheelsModel" 81 ⟨"RankWheelsModel", "step", "()V"⟩ ∈ zTs := zTs_in 805 (by decide +kernel) (by decide +kernel)
theorem zw807 : Jvm.Cond.instanceMethod ⟨"RankWheelsModel", "step", "()V"⟩ ∈ zTs := zTs_in 807 (by decide +kernel) (by decide +kernel)
theorem zw808 : Jvm.Cond.code ⟨"RankWheelsModel", "step", "()V"⟩ prog_10_method_7_code 2 none ∈ zTs := zTs_in 808 (by decide +kernel) (by decide +kernel)
theorem zw809 : Jvm.Cond.methodLink "RankWheelsModel" 65 ⟨"RankWheelsModel", "here", "()I"⟩ ∈ zTs := zTs_in 809 (by decide +kernel) (by decide +kernel)
theorem zw811 : Jvm.Cond.instanceMethod ⟨"RankWheelsModel", "here", "()I"⟩ ∈ zTs := zTs_in 811 (by decide +kernel) (by decide +kernel)
theorem zw812 : Jvm.Cond.code ⟨"RankWheelsModel", "here", "()I"⟩ prog_10_method_6_code 1 (some .int) ∈ zTs := zTs_in 812 (by decide +kernel) (by decide +kernel)
theorem zw813 : Jvm.Cond.methodLink "RankWheelsModel" 102 ⟨"RankWheelsModel", "mayBe", "(I)Z"⟩ ∈ zTs := zTs_in 813 (by decide +kernel) (by decide +kernel)
theorem zw815 : Jvm.Cond.instanceMethod ⟨"RankWheelsModel", "mayBe", "(I)Z"⟩ ∈ zTs := zTs_in 815 (by decide +kernel) (by decide +kernel)
theorem zw816 : Jvm.Cond.code ⟨"RankWheelsModel", "mayBe", "(I)Z"⟩ prog_10_method_11_code 3 (some .boolean) ∈ zTs := zTs_in 816 (by decide +kernel) (by decide +kernel)
theorem zw817 : Jvm.Cond.methodLink "RankWheelsModel" 88 ⟨"RankWheelsModel", "lawOf", "(I)I"⟩ ∈ zTs := zTs_in 817 (by decide +kernel) (by decide +kernel)
theorem zw818 : Jvm.Cond.static ⟨"RankWheelsModel", "lawOf", "(I)I"⟩ ∈ zTs := zTs_in 818 (by decide +kernel) (by decide +kernel)
theorem zw819 : Jvm.Cond.code ⟨"RankWheelsModel", "lawOf", "(I)I"⟩ prog_10_method_10_code 1 (some .int) ∈ zTs := zTs_in 819 (by decide +kernel) (by decide +kernel)
theorem zw820 : Jvm.Cond.methodLink "RankWheelsModel" 84 ⟨"RankWheelsModel", "due", "(Z)I"⟩ ∈ zTs := zTs_in 820 (by decide +kernel) (by decide +kernel)
theorem zw822 : Jvm.Cond.instanceMethod ⟨"RankWheelsModel", "due", "(Z)I"⟩ ∈ zTs := zTs_in 822 (by decide +kernel) (by decide +kernel)
theorem zw823 : Jvm.Cond.code ⟨"RankWheelsModel", "due", "(Z)I"⟩ prog_10_method_8_code 3 (some .int) ∈ zTs := zTs_in 823 (by decide +kernel) (by decide +kernel)
theorem zw824 : Jvm.Cond.methodLink "RankWheelsModel" 106 ⟨"RankWheelsModel", "readRow", "(I)V"⟩ ∈ zTs := zTs_in 824 (by decide +kernel) (by decide +kernel)
theorem zw826 : Jvm.Cond.instanceMethod ⟨"RankWheelsModel", "readRow", "(I)V"⟩ ∈ zTs := zTs_in 826 (by decide +kernel) (by decide +kernel)
theorem zw827 : Jvm.Cond.code ⟨"RankWheelsModel", "readRow", "(I)V"⟩ prog_10_method_12_code 3 none ∈ zTs := zTs_in 827 (by decide +kernel) (by decide +kernel)
theorem zw828 : Jvm.Cond.methodLink "RankWheelsModel" 95 ⟨"RankWheelsModel", "number", "(II)I"⟩ ∈ zTs := zTs_in 828 (by decide +kernel) (by decide +kernel)
theorem zw830 : Jvm.Cond.instanceMethod ⟨"RankWheelsModel", "number", "(II)I"⟩ ∈ zTs := zTs_in 830 (by decide +kernel) (by decide +kernel)
theorem zw831 : Jvm.Cond.code ⟨"RankWheelsModel", "number", "(II)I"⟩ prog_10_method_9_code 3 (some .int) ∈ zTs := zTs_in 831 (by decide +kernel) (by decide +kernel)
theorem zw836 : Jvm.Cond.methodLink "RankWheelsModel" 110 ⟨"RankWheelsModel", "isPlace", "(I)Z"⟩ ∈ zTs := zTs_in 836 (by decide +kernel) (by decide +kernel)
theorem zw838 : Jvm.Cond.instanceMethod ⟨"RankWheelsModel", "isPlace", "(I)Z"⟩ ∈ zTs := zTs_in 838 (by decide +kernel) (by decide +kernel)
theorem zw839 : Jvm.Cond.code ⟨"RankWheelsModel", "isPlace", "(I)Z"⟩ prog_10_method_16_code 2 (some .boolean) ∈ zTs := zTs_in 839 (by decide +kernel) (by decide +kernel)
theorem zw844 : Jvm.Cond.methodLink "RankWheelsModel" 113 ⟨"RankWheelsModel", "wants", "([III)I"⟩ ∈ zTs := zTs_in 844 (by decide +kernel) (by decide +kernel)
theorem zw845 : Jvm.Cond.static ⟨"RankWheelsModel", "wants", "([III)I"⟩ ∈ zTs := zTs_in 845 (by decide +kernel) (by decide +kernel)
theorem zw846 : Jvm.Cond.code ⟨"RankWheelsModel", "wants", "([III)I"⟩ prog_10_method_17_code 3 (some .int) ∈ zTs := zTs_in 846 (by decide +kernel) (by decide +kernel)
theorem zw851 : Jvm.Cond.methodLink "RankWheelsModel" 132 ⟨"RankWheelsModel", "know", "()V"⟩ ∈ zTs := zTs_in 851 (by decide +kernel) (by decide +kernel)
theorem zw853 : Jvm.Cond.instanceMethod ⟨"RankWheelsModel", "know", "()V"⟩ ∈ zTs := zTs_in 853 (by decide +kernel) (by decide +kernel)
theorem zw854 : Jvm.Cond.code ⟨"RankWheelsModel", "know", "()V"⟩ prog_10_method_27_code 2 none ∈ zTs := zTs_in 854 (by decide +kernel) (by decide +kernel)
theorem zw855 : Jvm.Cond.methodLink "RankWheelsModel" 135 ⟨"RankWheelsModel", "pace", "([II)V"⟩ ∈ zTs := zTs_in 855 (by decide +kernel) (by decide +kernel)
theorem zw857 : Jvm.Cond.instanceMethod ⟨"RankWheelsModel", "pace", "([II)V"⟩ ∈ zTs := zTs_in 857 (by decide +kernel) (by decide +kernel)
theorem zw858 : Jvm.Cond.code ⟨"RankWheelsModel", "pace", "([II)V"⟩ prog_10_method_22_code 10 none ∈ zTs := zTs_in 858 (by decide +kernel) (by decide +kernel)
theorem zw859 : Jvm.Cond.methodLink "RankWheelsModel" 117 ⟨"RankWheelsModel", "held", "(I)I"⟩ ∈ zTs := zTs_in 859 (by decide +kernel) (by decide +kernel)
theorem zw860 : Jvm.Cond.static ⟨"RankWheelsModel", "held", "(I)I"⟩ ∈ zTs := zTs_in 860 (by decide +kernel) (by decide +kernel)
theorem zw861 : Jvm.Cond.code ⟨"RankWheelsModel", "held", "(I)I"⟩ prog_10_method_21_code 1 (some .int) ∈ zTs := zTs_in 861 (by decide +kernel) (by decide +kernel)
theorem zw862 : Jvm.Cond.methodLink "RankWheelsModel" 120 ⟨"RankWheelsModel", "hopAll", "([I)V"⟩ ∈ zTs := zTs_in 862 (by decide +kernel) (by decide +kernel)
theorem zw864 : Jvm.Cond.instanceMethod ⟨"RankWheelsModel", "hopAll", "([I)V"⟩ ∈ zTs := zTs_in 864 (by decide +kernel) (by decide +kernel)
theorem zw865 : Jvm.Cond.code ⟨"RankWheelsModel", "hopAll", "([I)V"⟩ prog_10_method_23_code 6 none ∈ zTs := zTs_in 865 (by decide +kernel) (by decide +kernel)
theorem zw866 : Jvm.Cond.methodLink "RankWheelsModel" 128 ⟨"RankWheelsModel", "bulge", "([I)I"⟩ ∈ zTs := zTs_in 866 (by decide +kernel) (by decide +kernel)
theorem zw868 : Jvm.Cond.instanceMethod ⟨"RankWheelsModel", "bulge", "([I)I"⟩ ∈ zTs := zTs_in 868 (by decide +kernel) (by decide +kernel)
theorem zw869 : Jvm.Cond.code ⟨"RankWheelsModel", "bulge", "([I)I"⟩ prog_10_method_25_code 4 (some .int) ∈ zTs := zTs_in 869 (by decide +kernel) (by decide +kernel)
theorem zw870 : Jvm.Cond.methodLink "RankWheelsModel" 124 ⟨"RankWheelsModel", "apart", "([II)I"⟩ ∈ zTs := zTs_in 870 (by decide +kernel) (by decide +kernel)
theorem zw871 : Jvm.Cond.static ⟨"RankWheelsModel", "apart", "([II)I"⟩ ∈ zTs := zTs_in 871 (by decide +kernel) (by decide +kernel)
theorem zw872 : Jvm.Cond.code ⟨"RankWheelsModel", "apart", "([II)I"⟩ prog_10_method_24_code 3 (some .int) ∈ zTs := zTs_in 872 (by decide +kernel) (by decide +kernel)
theorem zw901 : Jvm.Cond.methodLink "RankWheelsModel" 139 ⟨"RankWheelsModel", "bulgeAt", "([I)I"⟩ ∈ zTs := zTs_in 901 (by decide +kernel) (by decide +kernel)
theorem zw903 : Jvm.Cond.instanceMethod ⟨"RankWheelsModel", "bulgeAt", "([I)I"⟩ ∈ zTs := zTs_in 903 (by decide +kernel) (by decide +kernel)
theorem zw904 : Jvm.Cond.code ⟨"RankWheelsModel", "bulgeAt", "([I)I"⟩ prog_10_method_26_code 3 (some .int) ∈ zTs := zTs_in 904 (by decide +kernel) (by decide +kernel)
theorem zw909 : Jvm.Cond.methodLink "RankWheelsModel" 149 ⟨"RankWheelsModel", "dressedBy", "(II)I"⟩ ∈ zTs := zTs_in 909 (by decide +kernel) (by decide +kernel)
theorem zw911 : Jvm.Cond.instanceMethod ⟨"RankWheelsModel", "dressedBy", "(II)I"⟩ ∈ zTs := zTs_in 911 (by decide +kernel) (by decide +kernel)
theorem zw912 : Jvm.Cond.code ⟨"RankWheelsModel", "dressedBy", "(II)I"⟩ prog_10_method_37_code 4 (some .int) ∈ zTs := zTs_in 912 (by decide +kernel) (by decide +kernel)
theorem zw913 : Jvm.Cond.methodLink "RankWheelsModel" 142 ⟨"RankWheelsModel", "take", "()V"⟩ ∈ zTs := zTs_in 913 (by decide +kernel) (by decide +kernel)
theorem zw915 : Jvm.Cond.instanceMethod ⟨"RankWheelsModel", "take", "()V"⟩ ∈ zTs := zTs_in 915 (by decide +kernel) (by decide +kernel)
theorem zw916 : Jvm.Cond.code ⟨"RankWheelsModel", "take", "()V"⟩ prog_10_method_20_code 2 none ∈ zTs := zTs_in 916 (by decide +kernel) (by decide +kernel)
theorem zw917 : Jvm.Cond.methodLink "RankWheelsModel" 145 ⟨"RankWheelsModel", "isDressed", "()Z"⟩ ∈ zTs := zTs_in 917 (by decide +kernel) (by decide +kernel)
theorem zw919 : Jvm.Cond.instanceMethod ⟨"RankWheelsModel", "isDressed", "()Z"⟩ ∈ zTs := zTs_in 919 (by decide +kernel) (by decide +kernel)
theorem zw920 : Jvm.Cond.code ⟨"RankWheelsModel", "isDressed", "()Z"⟩ prog_10_method_36_code 3 (some .boolean) ∈ zTs := zTs_in 920 (by decide +kernel) (by decide +kernel)
theorem zw937 : Jvm.Cond.methodLink "RankWheelsModel" 161 ⟨"RankWheelsModel", "look", "(I)V"⟩ ∈ zTs := zTs_in 937 (by decide +kernel) (by decide +kernel)
theorem zw939 : Jvm.Cond.instanceMethod ⟨"RankWheelsModel", "look", "(I)V"⟩ ∈ zTs := zTs_in 939 (by decide +kernel) (by decide +kernel)
theorem zw940 : Jvm.Cond.code ⟨"RankWheelsModel", "look", "(I)V"⟩ prog_10_method_42_code 12 none ∈ zTs := zTs_in 940 (by decide +kernel) (by decide +kernel)
theorem zw969 : Jvm.Cond.methodLink "RankWheelsModel" 164 ⟨"RankWheelsModel", "isSo", "(II)Z"⟩ ∈ zTs := zTs_in 969 (by decide +kernel) (by decide +kernel)
theorem zw971 : Jvm.Cond.instanceMethod ⟨"RankWheelsModel", "isSo", "(II)Z"⟩ ∈ zTs := zTs_in 971 (by decide +kernel) (by decide +kernel)
theorem zw972 : Jvm.Cond.code ⟨"RankWheelsModel", "isSo", "(II)Z"⟩ prog_10_method_50_code 6 (some .boolean) ∈ zTs := zTs_in 972 (by decide +kernel) (by decide +kernel)
theorem zw977 : Jvm.Cond.constant "RankWheelsModel" 168 (-1000000) ∈ zTs := zTs_in 977 (by decide +kernel) (by decide +kernel)
theorem zw978 : Jvm.Cond.constantLong "RankWheelsModel" 173 11 ∈ zTs := zTs_in 978 (by decide +kernel) (by decide +kernel)
theorem zw979 : Jvm.Cond.constantLong "RankWheelsModel" 175 101 ∈ zTs := zTs_in 979 (by decide +kernel) (by decide +kernel)
theorem zw980 : Jvm.Cond.constantLong "RankWheelsModel" 177 1011 ∈ zTs := zTs_in 980 (by decide +kernel) (by decide +kernel)
theorem zw981 : Jvm.Cond.constantLong "RankWheelsModel" 179 10101 ∈ zTs := zTs_in 981 (by decide +kernel) (by decide +kernel)
theorem zw982 : Jvm.Cond.constantLong "RankWheelsModel" 181 100001 ∈ zTs := zTs_in 982 (by decide +kernel) (by decide +kernel)
end
section
def iX1_formUp : List (Option zI) := [some (.iconst 0, 0, 1, []), some (.istore 4, 0, 3, []), none, some (.iload 4, 0, 5, []), none, some (.bipush 7, 7, 7, []), none, some (.if_icmp .ge 34, 0, 10, [41]), none, none, some (.aload_n 0, 0, 11, []), some (.getfield 9, 0, 14, []), none, none, some (.iload 4, 0, 16, []), none, some (.iload 4, 0, 18, []), none, some (.iastore, 0, 19, []), some (.aload_n 0, 0, 20, []), some (.getfield 15, 0, 23, []), none, none, some (.iload 4, 0, 25, []), none, some (.iconst 0, 0, 26, []), some (.iastore, 0, 27, []), some (.aload_n 0, 0, 28, []), some (.getfield 18, 0, 31, []), none, none, some (.iload 4, 0, 33, []), none, some (.iconst 0, 0, 34, []), some (.iastore, 0, 35, []), some (.iinc 4 1, 1, 38, []), none, none, some (.goto (-35), 0, 41, [3]), none, none, some (.aload_n 0, 0, 42, []), some (.iload_n 1, 0, 43, []), some (.putfield 25, 0, 46, []), none, none, some (.aload_n 0, 0, 47, []), some (.iload_n 2, 0, 48, []), some (.putfield 29, 0, 51, []), none, none, some (.aload_n 0, 0, 52, []), some (.iload_n 3, 0, 53, []), some (.putfield 32, 0, 56, []), none, none, some (.aload_n 0, 0, 57, []), some (.iconst 0, 0, 58, []), some (.putfield 35, 0, 61, []), none, none, some (.return_, 0, 62, [])]
def mX1_formUp : zM := (iX1_formUp, [(9, 1, 1, (.array .int)), (15, 1, 2, (.array .int)), (18, 1, 3, (.array .int))], [(25, 1, 4, .int), (29, 1, 5, .int), (32, 1, 6, .int), (35, 1, 7, .int)], [], [], [], [], [])
theorem kX1_formUp : zchkL cX1_formUp 0 iX1_formUp = true := by decide +kernel
set_option maxRecDepth 20000 in
theorem gX1_formUp : zGood mX1_formUp cX1_formUp yX1_formUp.cls (zwd yX1_formUp cX1_formUp 5 (zret 0)) := ⟨fun pc x h => by
    have h1 := zchkL_at kX1_formUp pc x h
    rw [Nat.zero_add] at h1
    exact h1, zlookF (fin := false) [(9, 1, 1, (.array .int)), (15, 1, 2, (.array .int)), (18, 1, 3, (.array .int))] (List.forall_mem_cons.mpr ⟨⟨(RX1, TX1, 8), rfl, by decide, List.mem_cons_of_mem _ zw155, fun w h => List.mem_cons_of_mem _ (zX1 w h), by decide +kernel, fun h => by cases h⟩, List.forall_mem_cons.mpr ⟨⟨(RX1, TX1, 8), rfl, by decide, List.mem_cons_of_mem _ zw157, fun w h => List.mem_cons_of_mem _ (zX1 w h), by decide +kernel, fun h => by cases h⟩, List.forall_mem_cons.mpr ⟨⟨(RX1, TX1, 8), rfl, by decide, List.mem_cons_of_mem _ zw160, fun w h => List.mem_cons_of_mem _ (zX1 w h), by decide +kernel, fun h => by cases h⟩, fun _ h => absurd h List.not_mem_nil⟩⟩⟩), zlookF (fin := true) [(25, 1, 4, .int), (29, 1, 5, .int), (32, 1, 6, .int), (35, 1, 7, .int)] (List.forall_mem_cons.mpr ⟨⟨(RX1, TX1, 8), rfl, by decide, List.mem_cons_of_mem _ zw162, fun w h => List.mem_cons_of_mem _ (zX1 w h), by decide +kernel, fun _ => rfl⟩, List.forall_mem_cons.mpr ⟨⟨(RX1, TX1, 8), rfl, by decide, List.mem_cons_of_mem _ zw164, fun w h => List.mem_cons_of_mem _ (zX1 w h), by decide +kernel, fun _ => rfl⟩, List.forall_mem_cons.mpr ⟨⟨(RX1, TX1, 8), rfl, by decide, List.mem_cons_of_mem _ zw166, fun w h => List.mem_cons_of_mem _ (zX1 w h), by decide +kernel, fun _ => rfl⟩, List.forall_mem_cons.mpr ⟨⟨(RX1, TX1, 8), rfl, by decide, List.mem_cons_of_mem _ zw168, fun w h => List.mem_cons_of_mem _ (zX1 w h), by decide +kernel, fun _ => rfl⟩, fun _ h => absurd h List.not_mem_nil⟩⟩⟩⟩), zlookup (β := Int32) (L := []) (P := fun ix b => Jvm.Cond.constant yX1_formUp.cls ix b ∈ (zwd yX1_formUp cX1_formUp 5 (zret 0))) (fun _ h => absurd h List.not_mem_nil), zlookup (β := Int64) (L := []) (P := fun ix b => Jvm.Cond.constantLong yX1_formUp.cls ix b ∈ (zwd yX1_formUp cX1_formUp 5 (zret 0))) (fun _ h => absurd h List.not_mem_nil), zlookup (β := Nat) (L := []) (P := fun ix b => zmok yX1_formUp.cls (zwd yX1_formUp cX1_formUp 5 (zret 0)) ix b) (fun _ h => absurd h List.not_mem_nil)⟩
set_option maxRecDepth 20000 in
theorem sX1_formUp (l : Launch) : ∀ (as : List Value) (ws : zW) (K : zP), zFr 4 (zGoes mX1_formUp 0 5) as ws K → zMet l yX1_formUp (zwd yX1_formUp cX1_formUp 5 (zret 0)) { frames := 1, cells := 0, slots := 0, locals := 200 } 0 as ws K := zFr_met (by decide +kernel) (by decide) (by decide) gX1_formUp (fun p e s m args below meth c D cy ad A n0 Q S hKK hA => ⟨fun ix n G h => zlookup (β := Nat × zG) (L := []) (P := fun ix b => zCO p l e { frames := 1, cells := 0, slots := 0, locals := 200 } s m args below meth c cX1_formUp 5 D cy ad A n0 0 0 Q (.invokevirtual ix) b.1 b.2) (fun _ h => absurd h List.not_mem_nil) ix (n, G) h, fun ix n G h => zlookup (β := Nat × zG) (L := []) (P := fun ix b => zCO p l e { frames := 1, cells := 0, slots := 0, locals := 200 } s m args below meth c cX1_formUp 5 D cy ad A n0 0 0 Q (.invokestatic ix) b.1 b.2) (fun _ h => absurd h List.not_mem_nil) ix (n, G) h⟩) (by decide)
def iX1_copyFrom : List (Option zI) := [some (.aload_n 1, 0, 1, []), some (.getfield 9, 0, 4, []), none, none, some (.iconst 0, 0, 5, []), some (.aload_n 0, 0, 6, []), some (.getfield 9, 0, 9, []), none, none, some (.iconst 0, 0, 10, []), some (.bipush 7, 7, 12, []), none, some (.invokestatic 38, 0, 15, []), none, none, some (.aload_n 1, 0, 16, []), some (.getfield 15, 0, 19, []), none, none, some (.iconst 0, 0, 20, []), some (.aload_n 0, 0, 21, []), some (.getfield 15, 0, 24, []), none, none, some (.iconst 0, 0, 25, []), some (.bipush 7, 7, 27, []), none, some (.invokestatic 38, 0, 30, []), none, none, some (.aload_n 1, 0, 31, []), some (.getfield 18, 0, 34, []), none, none, some (.iconst 0, 0, 35, []), some (.aload_n 0, 0, 36, []), some (.getfield 18, 0, 39, []), none, none, some (.iconst 0, 0, 40, []), some (.bipush 7, 7, 42, []), none, some (.invokestatic 38, 0, 45, []), none, none, some (.aload_n 0, 0, 46, []), some (.aload_n 1, 0, 47, []), some (.getfield 25, 0, 50, []), none, none, some (.putfield 25, 0, 53, []), none, none, some (.aload_n 0, 0, 54, []), some (.aload_n 1, 0, 55, []), some (.getfield 29, 0, 58, []), none, none, some (.putfield 29, 0, 61, []), none, none, some (.aload_n 0, 0, 62, []), some (.aload_n 1, 0, 63, []), some (.getfield 32, 0, 66, []), none, none, some (.putfield 32, 0, 69, []), none, none, some (.aload_n 0, 0, 70, []), some (.aload_n 1, 0, 71, []), some (.getfield 35, 0, 74, []), none, none, some (.putfield 35, 0, 77, []), none, none, some (.return_, 0, 78, [])]
def mX1_copyFrom : zM := (iX1_copyFrom, [(9, 1, 1, (.array .int)), (15, 1, 2, (.array .int)), (18, 1, 3, (.array .int)), (25, 1, 4, .int), (29, 1, 5, .int), (32, 1, 6, .int), (35, 1, 7, .int)], [(25, 1, 4, .int), (29, 1, 5, .int), (32, 1, 6, .int), (35, 1, 7, .int)], [], [], [(38, 3)], [], [])
theorem kX1_copyFrom : zchkL cX1_copyFrom 0 iX1_copyFrom = true := by decide +kernel
set_option maxRecDepth 20000 in
theorem gX1_copyFrom : zGood mX1_copyFrom cX1_copyFrom yX1_copyFrom.cls (zwd yX1_copyFrom cX1_copyFrom 2 (zret 0)) := ⟨fun pc x h => by
    have h1 := zchkL_at kX1_copyFrom pc x h
    rw [Nat.zero_add] at h1
    exact h1, zlookF (fin := false) [(9, 1, 1, (.array .int)), (15, 1, 2, (.array .int)), (18, 1, 3, (.array .int)), (25, 1, 4, .int), (29, 1, 5, .int), (32, 1, 6, .int), (35, 1, 7, .int)] (List.forall_mem_cons.mpr ⟨⟨(RX1, TX1, 8), rfl, by decide, List.mem_cons_of_mem _ zw155, fun w h => List.mem_cons_of_mem _ (zX1 w h), by decide +kernel, fun h => by cases h⟩, List.forall_mem_cons.mpr ⟨⟨(RX1, TX1, 8), rfl, by decide, List.mem_cons_of_mem _ zw157, fun w h => List.mem_cons_of_mem _ (zX1 w h), by decide +kernel, fun h => by cases h⟩, List.forall_mem_cons.mpr ⟨⟨(RX1, TX1, 8), rfl, by decide, List.mem_cons_of_mem _ zw160, fun w h => List.mem_cons_of_mem _ (zX1 w h), by decide +kernel, fun h => by cases h⟩, List.forall_mem_cons.mpr ⟨⟨(RX1, TX1, 8), rfl, by decide, List.mem_cons_of_mem _ zw162, fun w h => List.mem_cons_of_mem _ (zX1 w h), by decide +kernel, fun h => by cases h⟩, List.forall_mem_cons.mpr ⟨⟨(RX1, TX1, 8), rfl, by decide, List.mem_cons_of_mem _ zw164, fun w h => List.mem_cons_of_mem _ (zX1 w h), by decide +kernel, fun h => by cases h⟩, List.forall_mem_cons.mpr ⟨⟨(RX1, TX1, 8), rfl, by decide, List.mem_cons_of_mem _ zw166, fun w h => List.mem_cons_of_mem _ (zX1 w h), by decide +kernel, fun h => by cases h⟩, List.forall_mem_cons.mpr ⟨⟨(RX1, TX1, 8), rfl, by decide, List.mem_cons_of_mem _ zw168, fun w h => List.mem_cons_of_mem _ (zX1 w h), by decide +kernel, fun h => by cases h⟩, fun _ h => absurd h List.not_mem_nil⟩⟩⟩⟩⟩⟩⟩), zlookF (fin := true) [(25, 1, 4, .int), (29, 1, 5, .int), (32, 1, 6, .int), (35, 1, 7, .int)] (List.forall_mem_cons.mpr ⟨⟨(RX1, TX1, 8), rfl, by decide, List.mem_cons_of_mem _ zw162, fun w h => List.mem_cons_of_mem _ (zX1 w h), by decide +kernel, fun _ => rfl⟩, List.forall_mem_cons.mpr ⟨⟨(RX1, TX1, 8), rfl, by decide, List.mem_cons_of_mem _ zw164, fun w h => List.mem_cons_of_mem _ (zX1 w h), by decide +kernel, fun _ => rfl⟩, List.forall_mem_cons.mpr ⟨⟨(RX1, TX1, 8), rfl, by decide, List.mem_cons_of_mem _ zw166, fun w h => List.mem_cons_of_mem _ (zX1 w h), by decide +kernel, fun _ => rfl⟩, List.forall_mem_cons.mpr ⟨⟨(RX1, TX1, 8), rfl, by decide, List.mem_cons_of_mem _ zw168, fun w h => List.mem_cons_of_mem _ (zX1 w h), by decide +kernel, fun _ => rfl⟩, fun _ h => absurd h List.not_mem_nil⟩⟩⟩⟩), zlookup (β := Int32) (L := []) (P := fun ix b => Jvm.Cond.constant yX1_copyFrom.cls ix b ∈ (zwd yX1_copyFrom cX1_copyFrom 2 (zret 0))) (fun _ h => absurd h List.not_mem_nil), zlookup (β := Int64) (L := []) (P := fun ix b => Jvm.Cond.constantLong yX1_copyFrom.cls ix b ∈ (zwd yX1_copyFrom cX1_copyFrom 2 (zret 0))) (fun _ h => absurd h List.not_mem_nil), zlookup (β := Nat) (L := [(38, 3)]) (P := fun ix b => zmok yX1_copyFrom.cls (zwd yX1_copyFrom cX1_copyFrom 2 (zret 0)) ix b) (List.forall_mem_cons.mpr ⟨⟨List.mem_cons_of_mem _ zw432, List.mem_cons_of_mem _ zw388, List.mem_cons_of_mem _ zw387, List.mem_cons_of_mem _ zw59⟩, fun _ h => absurd h List.not_mem_nil⟩)⟩
set_option maxRecDepth 20000 in
theorem sX1_copyFrom (l : Launch) : ∀ (as : List Value) (ws : zW) (K : zP), zFr 2 (zGoes mX1_copyFrom 0 2) as ws K → zMet l yX1_copyFrom (zwd yX1_copyFrom cX1_copyFrom 2 (zret 0)) { frames := 1, cells := 0, slots := 0, locals := 200 } 0 as ws K := zFr_met (by decide +kernel) (by decide) (by decide) gX1_copyFrom (fun p e s m args below meth c D cy ad A n0 Q S hKK hA => ⟨fun ix n G h => zlookup (β := Nat × zG) (L := []) (P := fun ix b => zCO p l e { frames := 1, cells := 0, slots := 0, locals := 200 } s m args below meth c cX1_copyFrom 2 D cy ad A n0 0 0 Q (.invokevirtual ix) b.1 b.2) (fun _ h => absurd h List.not_mem_nil) ix (n, G) h, fun ix n G h => zlookup (β := Nat × zG) (L := []) (P := fun ix b => zCO p l e { frames := 1, cells := 0, slots := 0, locals := 200 } s m args below meth c cX1_copyFrom 2 D cy ad A n0 0 0 Q (.invokestatic ix) b.1 b.2) (fun _ h => absurd h List.not_mem_nil) ix (n, G) h⟩) (by decide)
def iX1_placeOf : List (Option zI) := [some (.iconst 0, 0, 1, []), some (.istore_n 2, 0, 2, []), some (.iload_n 2, 0, 3, []), some (.aload_n 0, 0, 4, []), some (.getfield 21, 0, 7, []), none, none, some (.getfield 44, 0, 10, []), none, none, some (.if_icmp .ge 21, 0, 13, [31]), none, none, some (.aload_n 0, 0, 14, []), some (.getfield 9, 0, 17, []), none, none, some (.iload_n 2, 0, 18, []), some (.iaload, 0, 19, []), some (.iload_n 1, 0, 20, []), some (.if_icmp .ne 5, 0, 23, [25]), none, none, some (.iload_n 2, 0, 24, []), some (.ireturn, 0, 25, []), some (.iinc 2 1, 1, 28, []), none, none, some (.goto (-26), 0, 31, [2]), none, none, some (.sipush (-1001), (-1001), 34, []), none, none, some (.ireturn, 0, 35, [])]
def mX1_placeOf : zM := (iX1_placeOf, [(9, 1, 1, (.array .int)), (21, 1, 0, (.object "RankWheels$Men")), (44, 2, 0, .int)], [], [], [], [], [], [])
theorem kX1_placeOf : zchkL cX1_placeOf 0 iX1_placeOf = true := by decide +kernel
set_option maxRecDepth 20000 in
theorem gX1_placeOf : zGood mX1_placeOf cX1_placeOf yX1_placeOf.cls (zwd yX1_placeOf cX1_placeOf 3 (zret 1)) := ⟨fun pc x h => by
    have h1 := zchkL_at kX1_placeOf pc x h
    rw [Nat.zero_add] at h1
    exact h1, zlookF (fin := false) [(9, 1, 1, (.array .int)), (21, 1, 0, (.object "RankWheels$Men")), (44, 2, 0, .int)] (List.forall_mem_cons.mpr ⟨⟨(RX1, TX1, 8), rfl, by decide, List.mem_cons_of_mem _ zw155, fun w h => List.mem_cons_of_mem _ (zX1 w h), by decide +kernel, fun h => by cases h⟩, List.forall_mem_cons.mpr ⟨⟨(RX1, TX1, 8), rfl, by decide, List.mem_cons_of_mem _ zw154, fun w h => List.mem_cons_of_mem _ (zX1 w h), by decide +kernel, fun h => by cases h⟩, List.forall_mem_cons.mpr ⟨⟨(RX2, TX2, 3), rfl, by decide, List.mem_cons_of_mem _ zw82, fun w h => List.mem_cons_of_mem _ (zX2 w h), by decide +kernel, fun h => by cases h⟩, fun _ h => absurd h List.not_mem_nil⟩⟩⟩), zlookF (fin := true) [] (fun _ h => absurd h List.not_mem_nil), zlookup (β := Int32) (L := []) (P := fun ix b => Jvm.Cond.constant yX1_placeOf.cls ix b ∈ (zwd yX1_placeOf cX1_placeOf 3 (zret 1))) (fun _ h => absurd h List.not_mem_nil), zlookup (β := Int64) (L := []) (P := fun ix b => Jvm.Cond.constantLong yX1_placeOf.cls ix b ∈ (zwd yX1_placeOf cX1_placeOf 3 (zret 1))) (fun _ h => absurd h List.not_mem_nil), zlookup (β := Nat) (L := []) (P := fun ix b => zmok yX1_placeOf.cls (zwd yX1_placeOf cX1_placeOf 3 (zret 1)) ix b) (fun _ h => absurd h List.not_mem_nil)⟩
set_option maxRecDepth 20000 in
theorem sX1_placeOf (l : Launch) : ∀ (as : List Value) (ws : zW) (K : zP), zFr 2 (zGoes mX1_placeOf 1 3) as ws K → zMet l yX1_placeOf (zwd yX1_placeOf cX1_placeOf 3 (zret 1)) { frames := 1, cells := 0, slots := 0, locals := 200 } 1 as ws K := zFr_met (by decide +kernel) (by decide) (by decide) gX1_placeOf (fun p e s m args below meth c D cy ad A n0 Q S hKK hA => ⟨fun ix n G h => zlookup (β := Nat × zG) (L := []) (P := fun ix b => zCO p l e { frames := 1, cells := 0, slots := 0, locals := 200 } s m args below meth c cX1_placeOf 3 D cy ad A n0 0 0 Q (.invokevirtual ix) b.1 b.2) (fun _ h => absurd h List.not_mem_nil) ix (n, G) h, fun ix n G h => zlookup (β := Nat × zG) (L := []) (P := fun ix b => zCO p l e { frames := 1, cells := 0, slots := 0, locals := 200 } s m args below meth c cX1_placeOf 3 D cy ad A n0 0 0 Q (.invokestatic ix) b.1 b.2) (fun _ h => absurd h List.not_mem_nil) ix (n, G) h⟩) (by decide)
def iX1_legAt : List (Option zI) := [some (.aload_n 0, 0, 1, []), some (.getfield 21, 0, 4, []), none, none, some (.getfield 49, 0, 7, []), none, none, some (.aload_n 0, 0, 8, []), some (.getfield 9, 0, 11, []), none, none, some (.iload_n 1, 0, 12, []), some (.iaload, 0, 13, []), some (.iaload, 0, 14, []), some (.ireturn, 0, 15, [])]
def mX1_legAt : zM := (iX1_legAt, [(9, 1, 1, (.array .int)), (21, 1, 0, (.object "RankWheels$Men")), (49, 2, 1, (.array .int))], [], [], [], [], [], [])
theorem kX1_legAt : zchkL cX1_legAt 0 iX1_legAt = true := by decide +kernel
set_option maxRecDepth 20000 in
theorem gX1_legAt : zGood mX1_legAt cX1_legAt yX1_legAt.cls (zwd yX1_legAt cX1_legAt 2 (zret 1)) := ⟨fun pc x h => by
    have h1 := zchkL_at kX1_legAt pc x h
    rw [Nat.zero_add] at h1
    exact h1, zlookF (fin := false) [(9, 1, 1, (.array .int)), (21, 1, 0, (.object "RankWheels$Men")), (49, 2, 1, (.array .int))] (List.forall_mem_cons.mpr ⟨⟨(RX1, TX1, 8), rfl, by decide, List.mem_cons_of_mem _ zw155, fun w h => List.mem_cons_of_mem _ (zX1 w h), by decide +kernel, fun h => by cases h⟩, List.forall_mem_cons.mpr ⟨⟨(RX1, TX1, 8), rfl, by decide, List.mem_cons_of_mem _ zw154, fun w h => List.mem_cons_of_mem _ (zX1 w h), by decide +kernel, fun h => by cases h⟩, List.forall_mem_cons.mpr ⟨⟨(RX2, TX2, 3), rfl, by decide, List.mem_cons_of_mem _ zw87, fun w h => List.mem_cons_of_mem _ (zX2 w h), by decide +kernel, fun h => by cases h⟩, fun _ h => absurd h List.not_mem_nil⟩⟩⟩), zlookF (fin := true) [] (fun _ h => absurd h List.not_mem_nil), zlookup (β := Int32) (L := []) (P := fun ix b => Jvm.Cond.constant yX1_legAt.cls ix b ∈ (zwd yX1_legAt cX1_legAt 2 (zret 1))) (fun _ h => absurd h List.not_mem_nil), zlookup (β := Int64) (L := []) (P := fun ix b => Jvm.Cond.constantLong yX1_legAt.cls ix b ∈ (zwd yX1_legAt cX1_legAt 2 (zret 1))) (fun _ h => absurd h List.not_mem_nil), zlookup (β := Nat) (L := []) (P := fun ix b => zmok yX1_legAt.cls (zwd yX1_legAt cX1_legAt 2 (zret 1)) ix b) (fun _ h => absurd h List.not_mem_nil)⟩
set_option maxRecDepth 20000 in
theorem sX1_legAt (l : Launch) : ∀ (as : List Value) (ws : zW) (K : zP), zFr 2 (zGoes mX1_legAt 1 2) as ws K → zMet l yX1_legAt (zwd yX1_legAt cX1_legAt 2 (zret 1)) { frames := 1, cells := 0, slots := 0, locals := 200 } 1 as ws K := zFr_met (by decide +kernel) (by decide) (by decide) gX1_legAt (fun p e s m args below meth c D cy ad A n0 Q S hKK hA => ⟨fun ix n G h => zlookup (β := Nat × zG) (L := []) (P := fun ix b => zCO p l e { frames := 1, cells := 0, slots := 0, locals := 200 } s m args below meth c cX1_legAt 2 D cy ad A n0 0 0 Q (.invokevirtual ix) b.1 b.2) (fun _ h => absurd h List.not_mem_nil) ix (n, G) h, fun ix n G h => zlookup (β := Nat × zG) (L := []) (P := fun ix b => zCO p l e { frames := 1, cells := 0, slots := 0, locals := 200 } s m args below meth c cX1_legAt 2 D cy ad A n0 0 0 Q (.invokestatic ix) b.1 b.2) (fun _ h => absurd h List.not_mem_nil) ix (n, G) h⟩) (by decide)
def iX7_wanted : List (Option zI) := [some (.iload_n 2, 0, 1, []), some (.iconst 2, 2, 2, []), some (.if_icmp .ge 7, 0, 5, [9]), none, none, some (.iconst 0, 0, 6, []), some (.goto 10, 0, 9, [16]), none, none, some (.iload_n 0, 0, 10, []), some (.iload_n 1, 0, 11, []), some (.imul, 0, 12, []), some (.iload_n 2, 0, 13, []), some (.iconst 1, 1, 14, []), some (.isub, 0, 15, []), some (.idiv, 0, 16, []), some (.ireturn, 0, 17, [])]
def mX7_wanted : zM := (iX7_wanted, [], [], [], [], [], [], [])
theorem kX7_wanted : zchkL cX7_wanted 0 iX7_wanted = true := by decide +kernel
set_option maxRecDepth 20000 in
theorem gX7_wanted : zGood mX7_wanted cX7_wanted yX7_wanted.cls (zwd yX7_wanted cX7_wanted 3 (zret 1)) := ⟨fun pc x h => by
    have h1 := zchkL_at kX7_wanted pc x h
    rw [Nat.zero_add] at h1
    exact h1, zlookF (fin := false) [] (fun _ h => absurd h List.not_mem_nil), zlookF (fin := true) [] (fun _ h => absurd h List.not_mem_nil), zlookup (β := Int32) (L := []) (P := fun ix b => Jvm.Cond.constant yX7_wanted.cls ix b ∈ (zwd yX7_wanted cX7_wanted 3 (zret 1))) (fun _ h => absurd h List.not_mem_nil), zlookup (β := Int64) (L := []) (P := fun ix b => Jvm.Cond.constantLong yX7_wanted.cls ix b ∈ (zwd yX7_wanted cX7_wanted 3 (zret 1))) (fun _ h => absurd h List.not_mem_nil), zlookup (β := Nat) (L := []) (P := fun ix b => zmok yX7_wanted.cls (zwd yX7_wanted cX7_wanted 3 (zret 1)) ix b) (fun _ h => absurd h List.not_mem_nil)⟩
set_option maxRecDepth 20000 in
theorem sX7_wanted (l : Launch) : ∀ (as : List Value) (ws : zW) (K : zP), zFr 3 (zGoes mX7_wanted 1 3) as ws K → zMet l yX7_wanted (zwd yX7_wanted cX7_wanted 3 (zret 1)) { frames := 1, cells := 0, slots := 0, locals := 200 } 1 as ws K := zFr_met (by decide +kernel) (by decide) (by decide) gX7_wanted (fun p e s m args below meth c D cy ad A n0 Q S hKK hA => ⟨fun ix n G h => zlookup (β := Nat × zG) (L := []) (P := fun ix b => zCO p l e { frames := 1, cells := 0, slots := 0, locals := 200 } s m args below meth c cX7_wanted 3 D cy ad A n0 0 0 Q (.invokevirtual ix) b.1 b.2) (fun _ h => absurd h List.not_mem_nil) ix (n, G) h, fun ix n G h => zlookup (β := Nat × zG) (L := []) (P := fun ix b => zCO p l e { frames := 1, cells := 0, slots := 0, locals := 200 } s m args below meth c cX7_wanted 3 D cy ad A n0 0 0 Q (.invokestatic ix) b.1 b.2) (fun _ h => absurd h List.not_mem_nil) ix (n, G) h⟩) (by decide)
def iX1_wants : List (Option zI) := [some (.aload_n 0, 0, 1, []), some (.getfield 25, 0, 4, []), none, none, some (.iload_n 1, 0, 5, []), some (.aload_n 0, 0, 6, []), some (.getfield 21, 0, 9, []), none, none, some (.getfield 44, 0, 12, []), none, none, some (.invokestatic 52, 0, 15, []), none, none, some (.ireturn, 0, 16, [])]
def mX1_wants : zM := (iX1_wants, [(21, 1, 0, (.object "RankWheels$Men")), (25, 1, 4, .int), (44, 2, 0, .int)], [], [], [], [], [], [(52, 3, zFr 3 (zGoes mX7_wanted 1 3))])
theorem kX1_wants : zchkL cX1_wants 0 iX1_wants = true := by decide +kernel
set_option maxRecDepth 20000 in
theorem gX1_wants : zGood mX1_wants cX1_wants yX1_wants.cls (zwd yX1_wants cX1_wants 2 (zret 1)) := ⟨fun pc x h => by
    have h1 := zchkL_at kX1_wants pc x h
    rw [Nat.zero_add] at h1
    exact h1, zlookF (fin := false) [(21, 1, 0, (.object "RankWheels$Men")), (25, 1, 4, .int), (44, 2, 0, .int)] (List.forall_mem_cons.mpr ⟨⟨(RX1, TX1, 8), rfl, by decide, List.mem_cons_of_mem _ zw154, fun w h => List.mem_cons_of_mem _ (zX1 w h), by decide +kernel, fun h => by cases h⟩, List.forall_mem_cons.mpr ⟨⟨(RX1, TX1, 8), rfl, by decide, List.mem_cons_of_mem _ zw162, fun w h => List.mem_cons_of_mem _ (zX1 w h), by decide +kernel, fun h => by cases h⟩, List.forall_mem_cons.mpr ⟨⟨(RX2, TX2, 3), rfl, by decide, List.mem_cons_of_mem _ zw82, fun w h => List.mem_cons_of_mem _ (zX2 w h), by decide +kernel, fun h => by cases h⟩, fun _ h => absurd h List.not_mem_nil⟩⟩⟩), zlookF (fin := true) [] (fun _ h => absurd h List.not_mem_nil), zlookup (β := Int32) (L := []) (P := fun ix b => Jvm.Cond.constant yX1_wants.cls ix b ∈ (zwd yX1_wants cX1_wants 2 (zret 1))) (fun _ h => absurd h List.not_mem_nil), zlookup (β := Int64) (L := []) (P := fun ix b => Jvm.Cond.constantLong yX1_wants.cls ix b ∈ (zwd yX1_wants cX1_wants 2 (zret 1))) (fun _ h => absurd h List.not_mem_nil), zlookup (β := Nat) (L := []) (P := fun ix b => zmok yX1_wants.cls (zwd yX1_wants cX1_wants 2 (zret 1)) ix b) (fun _ h => absurd h List.not_mem_nil)⟩
set_option maxRecDepth 20000 in
theorem sX1_wants (l : Launch) : ∀ (as : List Value) (ws : zW) (K : zP), zFr 2 (zGoes mX1_wants 1 2) as ws K → zMet l yX1_wants (zwd yX1_wants cX1_wants 2 (zret 1)) { frames := 2, cells := 0, slots := 0, locals := 400 } 1 as ws K := zFr_met (by decide +kernel) (by decide) (by decide) gX1_wants (fun p e s m args below meth c D cy ad A n0 Q S hKK hA => ⟨fun ix n G h => zlookup (β := Nat × zG) (L := []) (P := fun ix b => zCO p l e { frames := 2, cells := 0, slots := 0, locals := 400 } s m args below meth c cX1_wants 2 D cy ad A n0 0 0 Q (.invokevirtual ix) b.1 b.2) (fun _ h => absurd h List.not_mem_nil) ix (n, G) h, fun ix n G h => zlookup (β := Nat × zG) (L := [(52, 3, zFr 3 (zGoes mX7_wanted 1 3))]) (P := fun ix b => zCO p l e { frames := 2, cells := 0, slots := 0, locals := 400 } s m args below meth c cX1_wants 2 D cy ad A n0 0 0 Q (.invokestatic ix) b.1 b.2) (List.forall_mem_cons.mpr ⟨zco_N (host := RX7) S hKK hA ⟨Nat.zero_le _, Nat.zero_le _⟩ ⟨va_cnB 3 S.2.2.2.2 (zgoodN zw415) rfl rfl rfl (hKK.2 _ (List.mem_of_getElem? (i := 3) rfl)) (S.2.2.2.2 _ (List.mem_cons_of_mem _ zw49)) (by decide +kernel) (by decide +kernel), S.2.2.2.2 _ (List.mem_cons_of_mem _ zw414), trivial⟩ (sX7_wanted l), fun _ h => absurd h List.not_mem_nil⟩) ix (n, G) h⟩) (by decide)
def iX1_lose : List (Option zI) := [some (.aload_n 0, 0, 1, []), some (.getfield 15, 0, 4, []), none, none, some (.iload_n 1, 0, 5, []), some (.sipush (-999), (-999), 8, []), none, none, some (.aload_n 0, 0, 9, []), some (.getfield 15, 0, 12, []), none, none, some (.iload_n 1, 0, 13, []), some (.iaload, 0, 14, []), some (.iload_n 2, 0, 15, []), some (.isub, 0, 16, []), some (.invokestatic 56, 0, 19, []), none, none, some (.iastore, 0, 20, []), some (.return_, 0, 21, [])]
def mX1_lose : zM := (iX1_lose, [(15, 1, 2, (.array .int))], [], [], [], [(56, 0)], [], [])
theorem kX1_lose : zchkL cX1_lose 0 iX1_lose = true := by decide +kernel
set_option maxRecDepth 20000 in
theorem gX1_lose : zGood mX1_lose cX1_lose yX1_lose.cls (zwd yX1_lose cX1_lose 3 (zret 0)) := ⟨fun pc x h => by
    have h1 := zchkL_at kX1_lose pc x h
    rw [Nat.zero_add] at h1
    exact h1, zlookF (fin := false) [(15, 1, 2, (.array .int))] (List.forall_mem_cons.mpr ⟨⟨(RX1, TX1, 8), rfl, by decide, List.mem_cons_of_mem _ zw157, fun w h => List.mem_cons_of_mem _ (zX1 w h), by decide +kernel, fun h => by cases h⟩, fun _ h => absurd h List.not_mem_nil⟩), zlookF (fin := true) [] (fun _ h => absurd h List.not_mem_nil), zlookup (β := Int32) (L := []) (P := fun ix b => Jvm.Cond.constant yX1_lose.cls ix b ∈ (zwd yX1_lose cX1_lose 3 (zret 0))) (fun _ h => absurd h List.not_mem_nil), zlookup (β := Int64) (L := []) (P := fun ix b => Jvm.Cond.constantLong yX1_lose.cls ix b ∈ (zwd yX1_lose cX1_lose 3 (zret 0))) (fun _ h => absurd h List.not_mem_nil), zlookup (β := Nat) (L := [(56, 0)]) (P := fun ix b => zmok yX1_lose.cls (zwd yX1_lose cX1_lose 3 (zret 0)) ix b) (List.forall_mem_cons.mpr ⟨⟨List.mem_cons_of_mem _ zw450, List.mem_cons_of_mem _ zw451, List.mem_cons_of_mem _ zw58, List.mem_cons_of_mem _ zw452⟩, fun _ h => absurd h List.not_mem_nil⟩)⟩
set_option maxRecDepth 20000 in
theorem sX1_lose (l : Launch) : ∀ (as : List Value) (ws : zW) (K : zP), zFr 3 (zGoes mX1_lose 0 3) as ws K → zMet l yX1_lose (zwd yX1_lose cX1_lose 3 (zret 0)) { frames := 1, cells := 0, slots := 0, locals := 200 } 0 as ws K := zFr_met (by decide +kernel) (by decide) (by decide) gX1_lose (fun p e s m args below meth c D cy ad A n0 Q S hKK hA => ⟨fun ix n G h => zlookup (β := Nat × zG) (L := []) (P := fun ix b => zCO p l e { frames := 1, cells := 0, slots := 0, locals := 200 } s m args below meth c cX1_lose 3 D cy ad A n0 0 0 Q (.invokevirtual ix) b.1 b.2) (fun _ h => absurd h List.not_mem_nil) ix (n, G) h, fun ix n G h => zlookup (β := Nat × zG) (L := []) (P := fun ix b => zCO p l e { frames := 1, cells := 0, slots := 0, locals := 200 } s m args below meth c cX1_lose 3 D cy ad A n0 0 0 Q (.invokestatic ix) b.1 b.2) (fun _ h => absurd h List.not_mem_nil) ix (n, G) h⟩) (by decide)
def iX1_stepOf : List (Option zI) := [some (.iload_n 2, 0, 1, []), some (.aload_n 0, 0, 2, []), some (.getfield 29, 0, 5, []), none, none, some (.iload_n 3, 0, 6, []), some (.imul, 0, 7, []), some (.bipush 10, 10, 9, []), none, some (.idiv, 0, 10, []), some (.iadd, 0, 11, []), some (.aload_n 0, 0, 12, []), some (.getfield 32, 0, 15, []), none, none, some (.iload 4, 0, 17, []), none, some (.imul, 0, 18, []), some (.bipush 10, 10, 20, []), none, some (.idiv, 0, 21, []), some (.iadd, 0, 22, []), some (.istore 5, 0, 24, []), none, some (.aload_n 0, 0, 25, []), some (.iload_n 1, 0, 26, []), some (.invokevirtual 80, 0, 29, []), none, none, some (.iconst 0, 0, 30, []), some (.iload 5, 0, 32, []), none, some (.invokestatic 56, 0, 35, []), none, none, some (.invokestatic 77, 0, 38, []), none, none, some (.ireturn, 0, 39, [])]
def mX1_stepOf : zM := (iX1_stepOf, [(29, 1, 5, .int), (32, 1, 6, .int)], [], [], [], [(56, 0), (77, 1)], [(80, 2, zFV 1 2 (zGoes mX1_legAt 1 2))], [])
theorem kX1_stepOf : zchkL cX1_stepOf 0 iX1_stepOf = true := by decide +kernel
set_option maxRecDepth 20000 in
theorem gX1_stepOf : zGood mX1_stepOf cX1_stepOf yX1_stepOf.cls (zwd yX1_stepOf cX1_stepOf 6 (zret 1)) := ⟨fun pc x h => by
    have h1 := zchkL_at kX1_stepOf pc x h
    rw [Nat.zero_add] at h1
    exact h1, zlookF (fin := false) [(29, 1, 5, .int), (32, 1, 6, .int)] (List.forall_mem_cons.mpr ⟨⟨(RX1, TX1, 8), rfl, by decide, List.mem_cons_of_mem _ zw164, fun w h => List.mem_cons_of_mem _ (zX1 w h), by decide +kernel, fun h => by cases h⟩, List.forall_mem_cons.mpr ⟨⟨(RX1, TX1, 8), rfl, by decide, List.mem_cons_of_mem _ zw166, fun w h => List.mem_cons_of_mem _ (zX1 w h), by decide +kernel, fun h => by cases h⟩, fun _ h => absurd h List.not_mem_nil⟩⟩), zlookF (fin := true) [] (fun _ h => absurd h List.not_mem_nil), zlookup (β := Int32) (L := []) (P := fun ix b => Jvm.Cond.constant yX1_stepOf.cls ix b ∈ (zwd yX1_stepOf cX1_stepOf 6 (zret 1))) (fun _ h => absurd h List.not_mem_nil), zlookup (β := Int64) (L := []) (P := fun ix b => Jvm.Cond.constantLong yX1_stepOf.cls ix b ∈ (zwd yX1_stepOf cX1_stepOf 6 (zret 1))) (fun _ h => absurd h List.not_mem_nil), zlookup (β := Nat) (L := [(56, 0), (77, 1)]) (P := fun ix b => zmok yX1_stepOf.cls (zwd yX1_stepOf cX1_stepOf 6 (zret 1)) ix b) (List.forall_mem_cons.mpr ⟨⟨List.mem_cons_of_mem _ zw450, List.mem_cons_of_mem _ zw451, List.mem_cons_of_mem _ zw58, List.mem_cons_of_mem _ zw452⟩, List.forall_mem_cons.mpr ⟨⟨List.mem_cons_of_mem _ zw453, List.mem_cons_of_mem _ zw337, List.mem_cons_of_mem _ zw58, List.mem_cons_of_mem _ zw338⟩, fun _ h => absurd h List.not_mem_nil⟩⟩)⟩
set_option maxRecDepth 20000 in
theorem sX1_stepOf (l : Launch) : ∀ (as : List Value) (ws : zW) (K : zP), zFr 5 (zGoes mX1_stepOf 1 6) as ws K → zMet l yX1_stepOf (zwd yX1_stepOf cX1_stepOf 6 (zret 1)) { frames := 2, cells := 0, slots := 0, locals := 400 } 1 as ws K := zFr_met (by decide +kernel) (by decide) (by decide) gX1_stepOf (fun p e s m args below meth c D cy ad A n0 Q S hKK hA => ⟨fun ix n G h => zlookup (β := Nat × zG) (L := [(80, 2, zFV 1 2 (zGoes mX1_legAt 1 2))]) (P := fun ix b => zCO p l e { frames := 2, cells := 0, slots := 0, locals := 400 } s m args below meth c cX1_stepOf 6 D cy ad A n0 0 0 Q (.invokevirtual ix) b.1 b.2) (List.forall_mem_cons.mpr ⟨zco_V (ci := 1) S hKK hA ⟨Nat.zero_le _, Nat.zero_le _⟩ (cwV 1 S.2.2.2.2 (zgoodV zw446 zw447 zw448 zw52 zw449) rfl rfl rfl (by decide +kernel) (by decide +kernel)) rfl rfl (sX1_legAt l), fun _ h => absurd h List.not_mem_nil⟩) ix (n, G) h, fun ix n G h => zlookup (β := Nat × zG) (L := []) (P := fun ix b => zCO p l e { frames := 2, cells := 0, slots := 0, locals := 400 } s m args below meth c cX1_stepOf 6 D cy ad A n0 0 0 Q (.invokestatic ix) b.1 b.2) (fun _ h => absurd h List.not_mem_nil) ix (n, G) h⟩) (by decide)
def iX1_moveAll : List (Option zI) := [some (.iconst 0, 0, 1, []), some (.istore_n 2, 0, 2, []), some (.iconst 0, 0, 3, []), some (.istore_n 3, 0, 4, []), some (.iconst 0, 0, 5, []), some (.istore 4, 0, 7, []), none, some (.iload 4, 0, 9, []), none, some (.aload_n 0, 0, 10, []), some (.getfield 21, 0, 13, []), none, none, some (.getfield 44, 0, 16, []), none, none, some (.if_icmp .ge 153, 0, 19, [169]), none, none, some (.aload_n 0, 0, 20, []), some (.getfield 15, 0, 23, []), none, none, some (.iload 4, 0, 25, []), none, some (.iaload, 0, 26, []), some (.istore 5, 0, 28, []), none, some (.aload_n 0, 0, 29, []), some (.iload 4, 0, 31, []), none, some (.invokevirtual 69, 0, 34, []), none, none, some (.istore 6, 0, 36, []), none, some (.iload 4, 0, 38, []), none, some (.iconst 1, 1, 39, []), some (.iadd, 0, 40, []), some (.aload_n 0, 0, 41, []), some (.getfield 21, 0, 44, []), none, none, some (.getfield 44, 0, 47, []), none, none, some (.if_icmp .ge 18, 0, 50, [65]), none, none, some (.aload_n 0, 0, 51, []), some (.getfield 15, 0, 54, []), none, none, some (.iload 4, 0, 56, []), none, some (.iconst 1, 1, 57, []), some (.iadd, 0, 58, []), some (.iaload, 0, 59, []), some (.iload 5, 0, 61, []), none, some (.isub, 0, 62, []), some (.goto 4, 0, 65, [66]), none, none, some (.iconst 0, 0, 66, []), some (.istore 7, 0, 68, []), none, some (.iload 4, 0, 70, []), none, some (.ifCond .le 10, 0, 73, [80]), none, none, some (.iload_n 3, 0, 74, []), some (.iload 5, 0, 76, []), none, some (.isub, 0, 77, []), some (.goto 4, 0, 80, [81]), none, none, some (.iconst 0, 0, 81, []), some (.istore 8, 0, 83, []), none, some (.iload 4, 0, 85, []), none, some (.iload_n 1, 0, 86, []), some (.if_icmp .ne 7, 0, 89, [93]), none, none, some (.iconst 0, 0, 90, []), some (.goto 15, 0, 93, [105]), none, none, some (.aload_n 0, 0, 94, []), some (.iload 4, 0, 96, []), none, some (.iload 6, 0, 98, []), none, some (.iload 7, 0, 100, []), none, some (.iload 8, 0, 102, []), none, some (.invokevirtual 73, 0, 105, []), none, none, some (.istore 9, 0, 107, []), none, some (.iload 5, 0, 109, []), none, some (.iload 9, 0, 111, []), none, some (.iadd, 0, 112, []), some (.iload 6, 0, 114, []), none, some (.isub, 0, 115, []), some (.istore 10, 0, 117, []), none, some (.aload_n 0, 0, 118, []), some (.getfield 15, 0, 121, []), none, none, some (.iload 4, 0, 123, []), none, some (.sipush (-999), (-999), 126, []), none, none, some (.sipush 999, 999, 129, []), none, none, some (.iload 10, 0, 131, []), none, some (.invokestatic 77, 0, 134, []), none, none, some (.invokestatic 56, 0, 137, []), none, none, some (.iastore, 0, 138, []), some (.iload_n 2, 0, 139, []), some (.ifCond .ne 15, 0, 142, [154]), none, none, some (.aload_n 0, 0, 143, []), some (.getfield 15, 0, 146, []), none, none, some (.iload 4, 0, 148, []), none, some (.iaload, 0, 149, []), some (.iload 5, 0, 151, []), none, some (.if_icmp .eq 7, 0, 154, [158]), none, none, some (.iconst 1, 1, 155, []), some (.goto 4, 0, 158, [159]), none, none, some (.iconst 0, 0, 159, []), some (.istore_n 2, 0, 160, []), some (.iload 5, 0, 162, []), none, some (.istore_n 3, 0, 163, []), some (.iinc 4 1, 1, 166, []), none, none, some (.goto (-159), 0, 169, [7]), none, none, some (.iload_n 2, 0, 170, []), some (.ireturn, 0, 171, [])]
def mX1_moveAll : zM := (iX1_moveAll, [(15, 1, 2, (.array .int)), (21, 1, 0, (.object "RankWheels$Men")), (44, 2, 0, .int)], [], [], [], [(77, 1), (56, 0)], [(69, 2, zFV 1 2 (zGoes mX1_wants 1 2)), (73, 5, zFV 1 5 (zGoes mX1_stepOf 1 6))], [])
theorem kX1_moveAll : zchkL cX1_moveAll 0 iX1_moveAll = true := by decide +kernel
set_option maxRecDepth 20000 in
theorem gX1_moveAll : zGood mX1_moveAll cX1_moveAll yX1_moveAll.cls (zwd yX1_moveAll cX1_moveAll 11 (zret 3)) := ⟨fun pc x h => by
    have h1 := zchkL_at kX1_moveAll pc x h
    rw [Nat.zero_add] at h1
    exact h1, zlookF (fin := false) [(15, 1, 2, (.array .int)), (21, 1, 0, (.object "RankWheels$Men")), (44, 2, 0, .int)] (List.forall_mem_cons.mpr ⟨⟨(RX1, TX1, 8), rfl, by decide, List.mem_cons_of_mem _ zw157, fun w h => List.mem_cons_of_mem _ (zX1 w h), by decide +kernel, fun h => by cases h⟩, List.forall_mem_cons.mpr ⟨⟨(RX1, TX1, 8), rfl, by decide, List.mem_cons_of_mem _ zw154, fun w h => List.mem_cons_of_mem _ (zX1 w h), by decide +kernel, fun h => by cases h⟩, List.forall_mem_cons.mpr ⟨⟨(RX2, TX2, 3), rfl, by decide, List.mem_cons_of_mem _ zw82, fun w h => List.mem_cons_of_mem _ (zX2 w h), by decide +kernel, fun h => by cases h⟩, fun _ h => absurd h List.not_mem_nil⟩⟩⟩), zlookF (fin := true) [] (fun _ h => absurd h List.not_mem_nil), zlookup (β := Int32) (L := []) (P := fun ix b => Jvm.Cond.constant yX1_moveAll.cls ix b ∈ (zwd yX1_moveAll cX1_moveAll 11 (zret 3))) (fun _ h => absurd h List.not_mem_nil), zlookup (β := Int64) (L := []) (P := fun ix b => Jvm.Cond.constantLong yX1_moveAll.cls ix b ∈ (zwd yX1_moveAll cX1_moveAll 11 (zret 3))) (fun _ h => absurd h List.not_mem_nil), zlookup (β := Nat) (L := [(77, 1), (56, 0)]) (P := fun ix b => zmok yX1_moveAll.cls (zwd yX1_moveAll cX1_moveAll 11 (zret 3)) ix b) (List.forall_mem_cons.mpr ⟨⟨List.mem_cons_of_mem _ zw453, List.mem_cons_of_mem _ zw337, List.mem_cons_of_mem _ zw58, List.mem_cons_of_mem _ zw338⟩, List.forall_mem_cons.mpr ⟨⟨List.mem_cons_of_mem _ zw450, List.mem_cons_of_mem _ zw451, List.mem_cons_of_mem _ zw58, List.mem_cons_of_mem _ zw452⟩, fun _ h => absurd h List.not_mem_nil⟩⟩)⟩
set_option maxRecDepth 20000 in
theorem sX1_moveAll (l : Launch) : ∀ (as : List Value) (ws : zW) (K : zP), zFr 2 (zGoes mX1_moveAll 3 11) as ws K → zMet l yX1_moveAll (zwd yX1_moveAll cX1_moveAll 11 (zret 3)) { frames := 3, cells := 0, slots := 0, locals := 600 } 3 as ws K := zFr_met (by decide +kernel) (by decide) (by decide) gX1_moveAll (fun p e s m args below meth c D cy ad A n0 Q S hKK hA => ⟨fun ix n G h => zlookup (β := Nat × zG) (L := [(69, 2, zFV 1 2 (zGoes mX1_wants 1 2)), (73, 5, zFV 1 5 (zGoes mX1_stepOf 1 6))]) (P := fun ix b => zCO p l e { frames := 3, cells := 0, slots := 0, locals := 600 } s m args below meth c cX1_moveAll 11 D cy ad A n0 0 0 Q (.invokevirtual ix) b.1 b.2) (List.forall_mem_cons.mpr ⟨zco_V (ci := 1) S hKK hA ⟨Nat.zero_le _, Nat.zero_le _⟩ (cwV 1 S.2.2.2.2 (zgoodV zw441 zw410 zw411 zw52 zw412) rfl rfl rfl (by decide +kernel) (by decide +kernel)) rfl rfl (sX1_wants l), List.forall_mem_cons.mpr ⟨zco_V (ci := 1) S hKK hA ⟨Nat.zero_le _, Nat.zero_le _⟩ (cwV 4 S.2.2.2.2 (zgoodV zw442 zw444 zw12 zw52 zw445) rfl rfl rfl (by decide +kernel) (by decide +kernel)) rfl rfl (sX1_stepOf l), fun _ h => absurd h List.not_mem_nil⟩⟩) ix (n, G) h, fun ix n G h => zlookup (β := Nat × zG) (L := []) (P := fun ix b => zCO p l e { frames := 3, cells := 0, slots := 0, locals := 600 } s m args below meth c cX1_moveAll 11 D cy ad A n0 0 0 Q (.invokestatic ix) b.1 b.2) (fun _ h => absurd h List.not_mem_nil) ix (n, G) h⟩) (by decide)
def iX1_changeFeet : List (Option zI) := [some (.iconst 0, 0, 1, []), some (.istore_n 1, 0, 2, []), some (.iconst 0, 0, 3, []), some (.istore_n 2, 0, 4, []), some (.iload_n 2, 0, 5, []), some (.aload_n 0, 0, 6, []), some (.getfield 21, 0, 9, []), none, none, some (.getfield 44, 0, 12, []), none, none, some (.if_icmp .ge 96, 0, 15, [108]), none, none, some (.aload_n 0, 0, 16, []), some (.getfield 18, 0, 19, []), none, none, some (.iload_n 2, 0, 20, []), some (.iaload, 0, 21, []), some (.istore_n 3, 0, 22, []), some (.iload_n 2, 0, 23, []), some (.ifCond .eq 8, 0, 26, [31]), none, none, some (.iload_n 1, 0, 27, []), some (.iload_n 3, 0, 28, []), some (.if_icmp .eq 7, 0, 31, [35]), none, none, some (.iconst 1, 1, 32, []), some (.goto 4, 0, 35, [36]), none, none, some (.iconst 0, 0, 36, []), some (.istore 4, 0, 38, []), none, some (.iload_n 2, 0, 39, []), some (.iconst 1, 1, 40, []), some (.iadd, 0, 41, []), some (.aload_n 0, 0, 42, []), some (.getfield 21, 0, 45, []), none, none, some (.getfield 44, 0, 48, []), none, none, some (.if_icmp .ge 15, 0, 51, [63]), none, none, some (.aload_n 0, 0, 52, []), some (.getfield 18, 0, 55, []), none, none, some (.iload_n 2, 0, 56, []), some (.iconst 1, 1, 57, []), some (.iadd, 0, 58, []), some (.iaload, 0, 59, []), some (.iload_n 3, 0, 60, []), some (.if_icmp .eq 7, 0, 63, [67]), none, none, some (.iconst 1, 1, 64, []), some (.goto 4, 0, 67, [68]), none, none, some (.iconst 0, 0, 68, []), some (.istore 5, 0, 70, []), none, some (.aload_n 0, 0, 71, []), some (.getfield 21, 0, 74, []), none, none, some (.getfield 44, 0, 77, []), none, none, some (.iconst 1, 1, 78, []), some (.if_icmp .le 22, 0, 81, [100]), none, none, some (.iload 4, 0, 83, []), none, some (.ifCond .eq 17, 0, 86, [100]), none, none, some (.iload 5, 0, 88, []), none, some (.ifCond .eq 12, 0, 91, [100]), none, none, some (.aload_n 0, 0, 92, []), some (.getfield 18, 0, 95, []), none, none, some (.iload_n 2, 0, 96, []), some (.iconst 1, 1, 97, []), some (.iload_n 3, 0, 98, []), some (.isub, 0, 99, []), some (.iastore, 0, 100, []), some (.iload_n 3, 0, 101, []), some (.istore_n 1, 0, 102, []), some (.iinc 2 1, 1, 105, []), none, none, some (.goto (-101), 0, 108, [4]), none, none, some (.return_, 0, 109, [])]
def mX1_changeFeet : zM := (iX1_changeFeet, [(18, 1, 3, (.array .int)), (21, 1, 0, (.object "RankWheels$Men")), (44, 2, 0, .int)], [], [], [], [], [], [])
theorem kX1_changeFeet : zchkL cX1_changeFeet 0 iX1_changeFeet = true := by decide +kernel
set_option maxRecDepth 20000 in
theorem gX1_changeFeet : zGood mX1_changeFeet cX1_changeFeet yX1_changeFeet.cls (zwd yX1_changeFeet cX1_changeFeet 6 (zret 0)) := ⟨fun pc x h => by
    have h1 := zchkL_at kX1_changeFeet pc x h
    rw [Nat.zero_add] at h1
    exact h1, zlookF (fin := false) [(18, 1, 3, (.array .int)), (21, 1, 0, (.object "RankWheels$Men")), (44, 2, 0, .int)] (List.forall_mem_cons.mpr ⟨⟨(RX1, TX1, 8), rfl, by decide, List.mem_cons_of_mem _ zw160, fun w h => List.mem_cons_of_mem _ (zX1 w h), by decide +kernel, fun h => by cases h⟩, List.forall_mem_cons.mpr ⟨⟨(RX1, TX1, 8), rfl, by decide, List.mem_cons_of_mem _ zw154, fun w h => List.mem_cons_of_mem _ (zX1 w h), by decide +kernel, fun h => by cases h⟩, List.forall_mem_cons.mpr ⟨⟨(RX2, TX2, 3), rfl, by decide, List.mem_cons_of_mem _ zw82, fun w h => List.mem_cons_of_mem _ (zX2 w h), by decide +kernel, fun h => by cases h⟩, fun _ h => absurd h List.not_mem_nil⟩⟩⟩), zlookF (fin := true) [] (fun _ h => absurd h List.not_mem_nil), zlookup (β := Int32) (L := []) (P := fun ix b => Jvm.Cond.constant yX1_changeFeet.cls ix b ∈ (zwd yX1_changeFeet cX1_changeFeet 6 (zret 0))) (fun _ h => absurd h List.not_mem_nil), zlookup (β := Int64) (L := []) (P := fun ix b => Jvm.Cond.constantLong yX1_changeFeet.cls ix b ∈ (zwd yX1_changeFeet cX1_changeFeet 6 (zret 0))) (fun _ h => absurd h List.not_mem_nil), zlookup (β := Nat) (L := []) (P := fun ix b => zmok yX1_changeFeet.cls (zwd yX1_changeFeet cX1_changeFeet 6 (zret 0)) ix b) (fun _ h => absurd h List.not_mem_nil)⟩
set_option maxRecDepth 20000 in
theorem sX1_changeFeet (l : Launch) : ∀ (as : List Value) (ws : zW) (K : zP), zFr 1 (zGoes mX1_changeFeet 0 6) as ws K → zMet l yX1_changeFeet (zwd yX1_changeFeet cX1_changeFeet 6 (zret 0)) { frames := 1, cells := 0, slots := 0, locals := 200 } 0 as ws K := zFr_met (by decide +kernel) (by decide) (by decide) gX1_changeFeet (fun p e s m args below meth c D cy ad A n0 Q S hKK hA => ⟨fun ix n G h => zlookup (β := Nat × zG) (L := []) (P := fun ix b => zCO p l e { frames := 1, cells := 0, slots := 0, locals := 200 } s m args below meth c cX1_changeFeet 6 D cy ad A n0 0 0 Q (.invokevirtual ix) b.1 b.2) (fun _ h => absurd h List.not_mem_nil) ix (n, G) h, fun ix n G h => zlookup (β := Nat × zG) (L := []) (P := fun ix b => zCO p l e { frames := 1, cells := 0, slots := 0, locals := 200 } s m args below meth c cX1_changeFeet 6 D cy ad A n0 0 0 Q (.invokestatic ix) b.1 b.2) (fun _ h => absurd h List.not_mem_nil) ix (n, G) h⟩) (by decide)
def iX1_wheelOnce : List (Option zI) := [some (.aload_n 0, 0, 1, []), some (.iload_n 1, 0, 2, []), some (.invokevirtual 62, 0, 5, []), none, none, some (.istore_n 2, 0, 6, []), some (.aload_n 0, 0, 7, []), some (.invokevirtual 66, 0, 10, []), none, none, some (.iload_n 2, 0, 11, []), some (.ireturn, 0, 12, [])]
def mX1_wheelOnce : zM := (iX1_wheelOnce, [], [], [], [], [], [(62, 2, zFV 1 2 (zGoes mX1_moveAll 3 11)), (66, 1, zFV 1 1 (zGoes mX1_changeFeet 0 6))], [])
theorem kX1_wheelOnce : zchkL cX1_wheelOnce 0 iX1_wheelOnce = true := by decide +kernel
set_option maxRecDepth 20000 in
theorem gX1_wheelOnce : zGood mX1_wheelOnce cX1_wheelOnce yX1_wheelOnce.cls (zwd yX1_wheelOnce cX1_wheelOnce 3 (zret 3)) := ⟨fun pc x h => by
    have h1 := zchkL_at kX1_wheelOnce pc x h
    rw [Nat.zero_add] at h1
    exact h1, zlookF (fin := false) [] (fun _ h => absurd h List.not_mem_nil), zlookF (fin := true) [] (fun _ h => absurd h List.not_mem_nil), zlookup (β := Int32) (L := []) (P := fun ix b => Jvm.Cond.constant yX1_wheelOnce.cls ix b ∈ (zwd yX1_wheelOnce cX1_wheelOnce 3 (zret 3))) (fun _ h => absurd h List.not_mem_nil), zlookup (β := Int64) (L := []) (P := fun ix b => Jvm.Cond.constantLong yX1_wheelOnce.cls ix b ∈ (zwd yX1_wheelOnce cX1_wheelOnce 3 (zret 3))) (fun _ h => absurd h List.not_mem_nil), zlookup (β := Nat) (L := []) (P := fun ix b => zmok yX1_wheelOnce.cls (zwd yX1_wheelOnce cX1_wheelOnce 3 (zret 3)) ix b) (fun _ h => absurd h List.not_mem_nil)⟩
set_option maxRecDepth 20000 in
theorem sX1_wheelOnce (l : Launch) : ∀ (as : List Value) (ws : zW) (K : zP), zFr 2 (zGoes mX1_wheelOnce 3 3) as ws K → zMet l yX1_wheelOnce (zwd yX1_wheelOnce cX1_wheelOnce 3 (zret 3)) { frames := 4, cells := 0, slots := 0, locals := 800 } 3 as ws K := zFr_met (by decide +kernel) (by decide) (by decide) gX1_wheelOnce (fun p e s m args below meth c D cy ad A n0 Q S hKK hA => ⟨fun ix n G h => zlookup (β := Nat × zG) (L := [(62, 2, zFV 1 2 (zGoes mX1_moveAll 3 11)), (66, 1, zFV 1 1 (zGoes mX1_changeFeet 0 6))]) (P := fun ix b => zCO p l e { frames := 4, cells := 0, slots := 0, locals := 800 } s m args below meth c cX1_wheelOnce 3 D cy ad A n0 0 0 Q (.invokevirtual ix) b.1 b.2) (List.forall_mem_cons.mpr ⟨zco_V (ci := 1) S hKK hA ⟨Nat.zero_le _, Nat.zero_le _⟩ (cwV 1 S.2.2.2.2 (zgoodV zw437 zw439 zw11 zw52 zw440) rfl rfl rfl (by decide +kernel) (by decide +kernel)) rfl rfl (sX1_moveAll l), List.forall_mem_cons.mpr ⟨zco_V (ci := 1) S hKK hA ⟨Nat.zero_le _, Nat.zero_le _⟩ (cwV 0 S.2.2.2.2 (zgoodV zw454 zw456 zw13 zw52 zw457) rfl rfl rfl (by decide +kernel) (by decide +kernel)) rfl rfl (sX1_changeFeet l), fun _ h => absurd h List.not_mem_nil⟩⟩) ix (n, G) h, fun ix n G h => zlookup (β := Nat × zG) (L := []) (P := fun ix b => zCO p l e { frames := 4, cells := 0, slots := 0, locals := 800 } s m args below meth c cX1_wheelOnce 3 D cy ad A n0 0 0 Q (.invokestatic ix) b.1 b.2) (fun _ h => absurd h List.not_mem_nil) ix (n, G) h⟩) (by decide)
def iX1_gapAt : List (Option zI) := [some (.aload_n 0, 0, 1, []), some (.getfield 15, 0, 4, []), none, none, some (.iload_n 1, 0, 5, []), some (.iconst 1, 1, 6, []), some (.iadd, 0, 7, []), some (.iaload, 0, 8, []), some (.aload_n 0, 0, 9, []), some (.getfield 15, 0, 12, []), none, none, some (.iload_n 1, 0, 13, []), some (.iaload, 0, 14, []), some (.isub, 0, 15, []), some (.invokestatic 90, 0, 18, []), none, none, some (.ireturn, 0, 19, [])]
def mX1_gapAt : zM := (iX1_gapAt, [(15, 1, 2, (.array .int))], [], [], [], [(90, 2)], [], [])
theorem kX1_gapAt : zchkL cX1_gapAt 0 iX1_gapAt = true := by decide +kernel
set_option maxRecDepth 20000 in
theorem gX1_gapAt : zGood mX1_gapAt cX1_gapAt yX1_gapAt.cls (zwd yX1_gapAt cX1_gapAt 2 (zret 1)) := ⟨fun pc x h => by
    have h1 := zchkL_at kX1_gapAt pc x h
    rw [Nat.zero_add] at h1
    exact h1, zlookF (fin := false) [(15, 1, 2, (.array .int))] (List.forall_mem_cons.mpr ⟨⟨(RX1, TX1, 8), rfl, by decide, List.mem_cons_of_mem _ zw157, fun w h => List.mem_cons_of_mem _ (zX1 w h), by decide +kernel, fun h => by cases h⟩, fun _ h => absurd h List.not_mem_nil⟩), zlookF (fin := true) [] (fun _ h => absurd h List.not_mem_nil), zlookup (β := Int32) (L := []) (P := fun ix b => Jvm.Cond.constant yX1_gapAt.cls ix b ∈ (zwd yX1_gapAt cX1_gapAt 2 (zret 1))) (fun _ h => absurd h List.not_mem_nil), zlookup (β := Int64) (L := []) (P := fun ix b => Jvm.Cond.constantLong yX1_gapAt.cls ix b ∈ (zwd yX1_gapAt cX1_gapAt 2 (zret 1))) (fun _ h => absurd h List.not_mem_nil), zlookup (β := Nat) (L := [(90, 2)]) (P := fun ix b => zmok yX1_gapAt.cls (zwd yX1_gapAt cX1_gapAt 2 (zret 1)) ix b) (List.forall_mem_cons.mpr ⟨⟨List.mem_cons_of_mem _ zw466, List.mem_cons_of_mem _ zw467, List.mem_cons_of_mem _ zw58, List.mem_cons_of_mem _ zw468⟩, fun _ h => absurd h List.not_mem_nil⟩)⟩
set_option maxRecDepth 20000 in
theorem sX1_gapAt (l : Launch) : ∀ (as : List Value) (ws : zW) (K : zP), zFr 2 (zGoes mX1_gapAt 1 2) as ws K → zMet l yX1_gapAt (zwd yX1_gapAt cX1_gapAt 2 (zret 1)) { frames := 1, cells := 0, slots := 0, locals := 200 } 1 as ws K := zFr_met (by decide +kernel) (by decide) (by decide) gX1_gapAt (fun p e s m args below meth c D cy ad A n0 Q S hKK hA => ⟨fun ix n G h => zlookup (β := Nat × zG) (L := []) (P := fun ix b => zCO p l e { frames := 1, cells := 0, slots := 0, locals := 200 } s m args below meth c cX1_gapAt 2 D cy ad A n0 0 0 Q (.invokevirtual ix) b.1 b.2) (fun _ h => absurd h List.not_mem_nil) ix (n, G) h, fun ix n G h => zlookup (β := Nat × zG) (L := []) (P := fun ix b => zCO p l e { frames := 1, cells := 0, slots := 0, locals := 200 } s m args below meth c cX1_gapAt 2 D cy ad A n0 0 0 Q (.invokestatic ix) b.1 b.2) (fun _ h => absurd h List.not_mem_nil) ix (n, G) h⟩) (by decide)
def iX1_bulge : List (Option zI) := [some (.iconst 0, 0, 1, []), some (.istore_n 1, 0, 2, []), some (.iconst 0, 0, 3, []), some (.istore_n 2, 0, 4, []), some (.iload_n 2, 0, 5, []), some (.iconst 1, 1, 6, []), some (.iadd, 0, 7, []), some (.aload_n 0, 0, 8, []), some (.getfield 21, 0, 11, []), none, none, some (.getfield 44, 0, 14, []), none, none, some (.if_icmp .ge 19, 0, 17, [33]), none, none, some (.iload_n 1, 0, 18, []), some (.aload_n 0, 0, 19, []), some (.iload_n 2, 0, 20, []), some (.invokevirtual 83, 0, 23, []), none, none, some (.invokestatic 56, 0, 26, []), none, none, some (.istore_n 1, 0, 27, []), some (.iinc 2 1, 1, 30, []), none, none, some (.goto (-26), 0, 33, [4]), none, none, some (.iload_n 1, 0, 34, []), some (.ireturn, 0, 35, [])]
def mX1_bulge : zM := (iX1_bulge, [(21, 1, 0, (.object "RankWheels$Men")), (44, 2, 0, .int)], [], [], [], [(56, 0)], [(83, 2, zFV 1 2 (zGoes mX1_gapAt 1 2))], [])
theorem kX1_bulge : zchkL cX1_bulge 0 iX1_bulge = true := by decide +kernel
set_option maxRecDepth 20000 in
theorem gX1_bulge : zGood mX1_bulge cX1_bulge yX1_bulge.cls (zwd yX1_bulge cX1_bulge 3 (zret 1)) := ⟨fun pc x h => by
    have h1 := zchkL_at kX1_bulge pc x h
    rw [Nat.zero_add] at h1
    exact h1, zlookF (fin := false) [(21, 1, 0, (.object "RankWheels$Men")), (44, 2, 0, .int)] (List.forall_mem_cons.mpr ⟨⟨(RX1, TX1, 8), rfl, by decide, List.mem_cons_of_mem _ zw154, fun w h => List.mem_cons_of_mem _ (zX1 w h), by decide +kernel, fun h => by cases h⟩, List.forall_mem_cons.mpr ⟨⟨(RX2, TX2, 3), rfl, by decide, List.mem_cons_of_mem _ zw82, fun w h => List.mem_cons_of_mem _ (zX2 w h), by decide +kernel, fun h => by cases h⟩, fun _ h => absurd h List.not_mem_nil⟩⟩), zlookF (fin := true) [] (fun _ h => absurd h List.not_mem_nil), zlookup (β := Int32) (L := []) (P := fun ix b => Jvm.Cond.constant yX1_bulge.cls ix b ∈ (zwd yX1_bulge cX1_bulge 3 (zret 1))) (fun _ h => absurd h List.not_mem_nil), zlookup (β := Int64) (L := []) (P := fun ix b => Jvm.Cond.constantLong yX1_bulge.cls ix b ∈ (zwd yX1_bulge cX1_bulge 3 (zret 1))) (fun _ h => absurd h List.not_mem_nil), zlookup (β := Nat) (L := [(56, 0)]) (P := fun ix b => zmok yX1_bulge.cls (zwd yX1_bulge cX1_bulge 3 (zret 1)) ix b) (List.forall_mem_cons.mpr ⟨⟨List.mem_cons_of_mem _ zw450, List.mem_cons_of_mem _ zw451, List.mem_cons_of_mem _ zw58, List.mem_cons_of_mem _ zw452⟩, fun _ h => absurd h List.not_mem_nil⟩)⟩
set_option maxRecDepth 20000 in
theorem sX1_bulge (l : Launch) : ∀ (as : List Value) (ws : zW) (K : zP), zFr 1 (zGoes mX1_bulge 1 3) as ws K → zMet l yX1_bulge (zwd yX1_bulge cX1_bulge 3 (zret 1)) { frames := 2, cells := 0, slots := 0, locals := 400 } 1 as ws K := zFr_met (by decide +kernel) (by decide) (by decide) gX1_bulge (fun p e s m args below meth c D cy ad A n0 Q S hKK hA => ⟨fun ix n G h => zlookup (β := Nat × zG) (L := [(83, 2, zFV 1 2 (zGoes mX1_gapAt 1 2))]) (P := fun ix b => zCO p l e { frames := 2, cells := 0, slots := 0, locals := 400 } s m args below meth c cX1_bulge 3 D cy ad A n0 0 0 Q (.invokevirtual ix) b.1 b.2) (List.forall_mem_cons.mpr ⟨zco_V (ci := 1) S hKK hA ⟨Nat.zero_le _, Nat.zero_le _⟩ (cwV 1 S.2.2.2.2 (zgoodV zw462 zw464 zw14 zw52 zw465) rfl rfl rfl (by decide +kernel) (by decide +kernel)) rfl rfl (sX1_gapAt l), fun _ h => absurd h List.not_mem_nil⟩) ix (n, G) h, fun ix n G h => zlookup (β := Nat × zG) (L := []) (P := fun ix b => zCO p l e { frames := 2, cells := 0, slots := 0, locals := 400 } s m args below meth c cX1_bulge 3 D cy ad A n0 0 0 Q (.invokestatic ix) b.1 b.2) (fun _ h => absurd h List.not_mem_nil) ix (n, G) h⟩) (by decide)
def iX1_bulgePlace : List (Option zI) := [some (.aload_n 0, 0, 1, []), some (.invokevirtual 86, 0, 4, []), none, none, some (.istore_n 1, 0, 5, []), some (.iconst 0, 0, 6, []), some (.istore_n 2, 0, 7, []), some (.iload_n 2, 0, 8, []), some (.iconst 1, 1, 9, []), some (.iadd, 0, 10, []), some (.aload_n 0, 0, 11, []), some (.getfield 21, 0, 14, []), none, none, some (.getfield 44, 0, 17, []), none, none, some (.if_icmp .ge 20, 0, 20, [37]), none, none, some (.aload_n 0, 0, 21, []), some (.iload_n 2, 0, 22, []), some (.invokevirtual 83, 0, 25, []), none, none, some (.iload_n 1, 0, 26, []), some (.if_icmp .ne 5, 0, 29, [31]), none, none, some (.iload_n 2, 0, 30, []), some (.ireturn, 0, 31, []), some (.iinc 2 1, 1, 34, []), none, none, some (.goto (-27), 0, 37, [7]), none, none, some (.sipush (-1009), (-1009), 40, []), none, none, some (.ireturn, 0, 41, [])]
def mX1_bulgePlace : zM := (iX1_bulgePlace, [(21, 1, 0, (.object "RankWheels$Men")), (44, 2, 0, .int)], [], [], [], [], [(83, 2, zFV 1 2 (zGoes mX1_gapAt 1 2)), (86, 1, zFV 1 1 (zGoes mX1_bulge 1 3))], [])
theorem kX1_bulgePlace : zchkL cX1_bulgePlace 0 iX1_bulgePlace = true := by decide +kernel
set_option maxRecDepth 20000 in
theorem gX1_bulgePlace : zGood mX1_bulgePlace cX1_bulgePlace yX1_bulgePlace.cls (zwd yX1_bulgePlace cX1_bulgePlace 3 (zret 1)) := ⟨fun pc x h => by
    have h1 := zchkL_at kX1_bulgePlace pc x h
    rw [Nat.zero_add] at h1
    exact h1, zlookF (fin := false) [(21, 1, 0, (.object "RankWheels$Men")), (44, 2, 0, .int)] (List.forall_mem_cons.mpr ⟨⟨(RX1, TX1, 8), rfl, by decide, List.mem_cons_of_mem _ zw154, fun w h => List.mem_cons_of_mem _ (zX1 w h), by decide +kernel, fun h => by cases h⟩, List.forall_mem_cons.mpr ⟨⟨(RX2, TX2, 3), rfl, by decide, List.mem_cons_of_mem _ zw82, fun w h => List.mem_cons_of_mem _ (zX2 w h), by decide +kernel, fun h => by cases h⟩, fun _ h => absurd h List.not_mem_nil⟩⟩), zlookF (fin := true) [] (fun _ h => absurd h List.not_mem_nil), zlookup (β := Int32) (L := []) (P := fun ix b => Jvm.Cond.constant yX1_bulgePlace.cls ix b ∈ (zwd yX1_bulgePlace cX1_bulgePlace 3 (zret 1))) (fun _ h => absurd h List.not_mem_nil), zlookup (β := Int64) (L := []) (P := fun ix b => Jvm.Cond.constantLong yX1_bulgePlace.cls ix b ∈ (zwd yX1_bulgePlace cX1_bulgePlace 3 (zret 1))) (fun _ h => absurd h List.not_mem_nil), zlookup (β := Nat) (L := []) (P := fun ix b => zmok yX1_bulgePlace.cls (zwd yX1_bulgePlace cX1_bulgePlace 3 (zret 1)) ix b) (fun _ h => absurd h List.not_mem_nil)⟩
set_option maxRecDepth 20000 in
theorem sX1_bulgePlace (l : Launch) : ∀ (as : List Value) (ws : zW) (K : zP), zFr 1 (zGoes mX1_bulgePlace 1 3) as ws K → zMet l yX1_bulgePlace (zwd yX1_bulgePlace cX1_bulgePlace 3 (zret 1)) { frames := 3, cells := 0, slots := 0, locals := 600 } 1 as ws K := zFr_met (by decide +kernel) (by decide) (by decide) gX1_bulgePlace (fun p e s m args below meth c D cy ad A n0 Q S hKK hA => ⟨fun ix n G h => zlookup (β := Nat × zG) (L := [(83, 2, zFV 1 2 (zGoes mX1_gapAt 1 2)), (86, 1, zFV 1 1 (zGoes mX1_bulge 1 3))]) (P := fun ix b => zCO p l e { frames := 3, cells := 0, slots := 0, locals := 600 } s m args below meth c cX1_bulgePlace 3 D cy ad A n0 0 0 Q (.invokevirtual ix) b.1 b.2) (List.forall_mem_cons.mpr ⟨zco_V (ci := 1) S hKK hA ⟨Nat.zero_le _, Nat.zero_le _⟩ (cwV 1 S.2.2.2.2 (zgoodV zw462 zw464 zw14 zw52 zw465) rfl rfl rfl (by decide +kernel) (by decide +kernel)) rfl rfl (sX1_gapAt l), List.forall_mem_cons.mpr ⟨zco_V (ci := 1) S hKK hA ⟨Nat.zero_le _, Nat.zero_le _⟩ (cwV 0 S.2.2.2.2 (zgoodV zw512 zw459 zw460 zw52 zw461) rfl rfl rfl (by decide +kernel) (by decide +kernel)) rfl rfl (sX1_bulge l), fun _ h => absurd h List.not_mem_nil⟩⟩) ix (n, G) h, fun ix n G h => zlookup (β := Nat × zG) (L := []) (P := fun ix b => zCO p l e { frames := 3, cells := 0, slots := 0, locals := 600 } s m args below meth c cX1_bulgePlace 3 D cy ad A n0 0 0 Q (.invokestatic ix) b.1 b.2) (fun _ h => absurd h List.not_mem_nil) ix (n, G) h⟩) (by decide)
def iX1_feet : List (Option zI) := [some (.iconst 0, 0, 1, []), some (.istore_n 1, 0, 2, []), some (.iconst 0, 0, 3, []), some (.istore_n 2, 0, 4, []), some (.iload_n 2, 0, 5, []), some (.aload_n 0, 0, 6, []), some (.getfield 21, 0, 9, []), none, none, some (.getfield 44, 0, 12, []), none, none, some (.if_icmp .ge 20, 0, 15, [32]), none, none, some (.iload_n 1, 0, 16, []), some (.aload_n 0, 0, 17, []), some (.getfield 18, 0, 20, []), none, none, some (.iload_n 2, 0, 21, []), some (.iaload, 0, 22, []), some (.iload_n 2, 0, 23, []), some (.ishl, 0, 24, []), some (.ior, 0, 25, []), some (.istore_n 1, 0, 26, []), some (.iinc 2 1, 1, 29, []), none, none, some (.goto (-25), 0, 32, [4]), none, none, some (.iload_n 1, 0, 33, []), some (.ireturn, 0, 34, [])]
def mX1_feet : zM := (iX1_feet, [(18, 1, 3, (.array .int)), (21, 1, 0, (.object "RankWheels$Men")), (44, 2, 0, .int)], [], [], [], [], [], [])
theorem kX1_feet : zchkL cX1_feet 0 iX1_feet = true := by decide +kernel
set_option maxRecDepth 20000 in
theorem gX1_feet : zGood mX1_feet cX1_feet yX1_feet.cls (zwd yX1_feet cX1_feet 3 (zret 1)) := ⟨fun pc x h => by
    have h1 := zchkL_at kX1_feet pc x h
    rw [Nat.zero_add] at h1
    exact h1, zlookF (fin := false) [(18, 1, 3, (.array .int)), (21, 1, 0, (.object "RankWheels$Men")), (44, 2, 0, .int)] (List.forall_mem_cons.mpr ⟨⟨(RX1, TX1, 8), rfl, by decide, List.mem_cons_of_mem _ zw160, fun w h => List.mem_cons_of_mem _ (zX1 w h), by decide +kernel, fun h => by cases h⟩, List.forall_mem_cons.mpr ⟨⟨(RX1, TX1, 8), rfl, by decide, List.mem_cons_of_mem _ zw154, fun w h => List.mem_cons_of_mem _ (zX1 w h), by decide +kernel, fun h => by cases h⟩, List.forall_mem_cons.mpr ⟨⟨(RX2, TX2, 3), rfl, by decide, List.mem_cons_of_mem _ zw82, fun w h => List.mem_cons_of_mem _ (zX2 w h), by decide +kernel, fun h => by cases h⟩, fun _ h => absurd h List.not_mem_nil⟩⟩⟩), zlookF (fin := true) [] (fun _ h => absurd h List.not_mem_nil), zlookup (β := Int32) (L := []) (P := fun ix b => Jvm.Cond.constant yX1_feet.cls ix b ∈ (zwd yX1_feet cX1_feet 3 (zret 1))) (fun _ h => absurd h List.not_mem_nil), zlookup (β := Int64) (L := []) (P := fun ix b => Jvm.Cond.constantLong yX1_feet.cls ix b ∈ (zwd yX1_feet cX1_feet 3 (zret 1))) (fun _ h => absurd h List.not_mem_nil), zlookup (β := Nat) (L := []) (P := fun ix b => zmok yX1_feet.cls (zwd yX1_feet cX1_feet 3 (zret 1)) ix b) (fun _ h => absurd h List.not_mem_nil)⟩
set_option maxRecDepth 20000 in
theorem sX1_feet (l : Launch) : ∀ (as : List Value) (ws : zW) (K : zP), zFr 1 (zGoes mX1_feet 1 3) as ws K → zMet l yX1_feet (zwd yX1_feet cX1_feet 3 (zret 1)) { frames := 1, cells := 0, slots := 0, locals := 200 } 1 as ws K := zFr_met (by decide +kernel) (by decide) (by decide) gX1_feet (fun p e s m args below meth c D cy ad A n0 Q S hKK hA => ⟨fun ix n G h => zlookup (β := Nat × zG) (L := []) (P := fun ix b => zCO p l e { frames := 1, cells := 0, slots := 0, locals := 200 } s m args below meth c cX1_feet 3 D cy ad A n0 0 0 Q (.invokevirtual ix) b.1 b.2) (fun _ h => absurd h List.not_mem_nil) ix (n, G) h, fun ix n G h => zlookup (β := Nat × zG) (L := []) (P := fun ix b => zCO p l e { frames := 1, cells := 0, slots := 0, locals := 200 } s m args below meth c cX1_feet 3 D cy ad A n0 0 0 Q (.invokestatic ix) b.1 b.2) (fun _ h => absurd h List.not_mem_nil) ix (n, G) h⟩) (by decide)
def iX1_feetAlike : List (Option zI) := [some (.iconst 0, 0, 1, []), some (.istore_n 1, 0, 2, []), some (.iload_n 1, 0, 3, []), some (.iconst 1, 1, 4, []), some (.iadd, 0, 5, []), some (.aload_n 0, 0, 6, []), some (.getfield 21, 0, 9, []), none, none, some (.getfield 44, 0, 12, []), none, none, some (.if_icmp .ge 28, 0, 15, [40]), none, none, some (.aload_n 0, 0, 16, []), some (.getfield 18, 0, 19, []), none, none, some (.iload_n 1, 0, 20, []), some (.iaload, 0, 21, []), some (.aload_n 0, 0, 22, []), some (.getfield 18, 0, 25, []), none, none, some (.iload_n 1, 0, 26, []), some (.iconst 1, 1, 27, []), some (.iadd, 0, 28, []), some (.iaload, 0, 29, []), some (.if_icmp .eq 5, 0, 32, [34]), none, none, some (.iconst 0, 0, 33, []), some (.ireturn, 0, 34, []), some (.iinc 1 1, 1, 37, []), none, none, some (.goto (-35), 0, 40, [2]), none, none, some (.iconst 1, 1, 41, []), some (.ireturn, 0, 42, [])]
def mX1_feetAlike : zM := (iX1_feetAlike, [(18, 1, 3, (.array .int)), (21, 1, 0, (.object "RankWheels$Men")), (44, 2, 0, .int)], [], [], [], [], [], [])
theorem kX1_feetAlike : zchkL cX1_feetAlike 0 iX1_feetAlike = true := by decide +kernel
set_option maxRecDepth 20000 in
theorem gX1_feetAlike : zGood mX1_feetAlike cX1_feetAlike yX1_feetAlike.cls (zwd yX1_feetAlike cX1_feetAlike 2 (zret 3)) := ⟨fun pc x h => by
    have h1 := zchkL_at kX1_feetAlike pc x h
    rw [Nat.zero_add] at h1
    exact h1, zlookF (fin := false) [(18, 1, 3, (.array .int)), (21, 1, 0, (.object "RankWheels$Men")), (44, 2, 0, .int)] (List.forall_mem_cons.mpr ⟨⟨(RX1, TX1, 8), rfl, by decide, List.mem_cons_of_mem _ zw160, fun w h => List.mem_cons_of_mem _ (zX1 w h), by decide +kernel, fun h => by cases h⟩, List.forall_mem_cons.mpr ⟨⟨(RX1, TX1, 8), rfl, by decide, List.mem_cons_of_mem _ zw154, fun w h => List.mem_cons_of_mem _ (zX1 w h), by decide +kernel, fun h => by cases h⟩, List.forall_mem_cons.mpr ⟨⟨(RX2, TX2, 3), rfl, by decide, List.mem_cons_of_mem _ zw82, fun w h => List.mem_cons_of_mem _ (zX2 w h), by decide +kernel, fun h => by cases h⟩, fun _ h => absurd h List.not_mem_nil⟩⟩⟩), zlookF (fin := true) [] (fun _ h => absurd h List.not_mem_nil), zlookup (β := Int32) (L := []) (P := fun ix b => Jvm.Cond.constant yX1_feetAlike.cls ix b ∈ (zwd yX1_feetAlike cX1_feetAlike 2 (zret 3))) (fun _ h => absurd h List.not_mem_nil), zlookup (β := Int64) (L := []) (P := fun ix b => Jvm.Cond.constantLong yX1_feetAlike.cls ix b ∈ (zwd yX1_feetAlike cX1_feetAlike 2 (zret 3))) (fun _ h => absurd h List.not_mem_nil), zlookup (β := Nat) (L := []) (P := fun ix b => zmok yX1_feetAlike.cls (zwd yX1_feetAlike cX1_feetAlike 2 (zret 3)) ix b) (fun _ h => absurd h List.not_mem_nil)⟩
set_option maxRecDepth 20000 in
theorem sX1_feetAlike (l : Launch) : ∀ (as : List Value) (ws : zW) (K : zP), zFr 1 (zGoes mX1_feetAlike 3 2) as ws K → zMet l yX1_feetAlike (zwd yX1_feetAlike cX1_feetAlike 2 (zret 3)) { frames := 1, cells := 0, slots := 0, locals := 200 } 3 as ws K := zFr_met (by decide +kernel) (by decide) (by decide) gX1_feetAlike (fun p e s m args below meth c D cy ad A n0 Q S hKK hA => ⟨fun ix n G h => zlookup (β := Nat × zG) (L := []) (P := fun ix b => zCO p l e { frames := 1, cells := 0, slots := 0, locals := 200 } s m args below meth c cX1_feetAlike 2 D cy ad A n0 0 0 Q (.invokevirtual ix) b.1 b.2) (fun _ h => absurd h List.not_mem_nil) ix (n, G) h, fun ix n G h => zlookup (β := Nat × zG) (L := []) (P := fun ix b => zCO p l e { frames := 1, cells := 0, slots := 0, locals := 200 } s m args below meth c cX1_feetAlike 2 D cy ad A n0 0 0 Q (.invokestatic ix) b.1 b.2) (fun _ h => absurd h List.not_mem_nil) ix (n, G) h⟩) (by decide)
def iX1_placesInLine : List (Option zI) := [some (.iconst 0, 0, 1, []), some (.istore_n 1, 0, 2, []), some (.iconst 0, 0, 3, []), some (.istore_n 2, 0, 4, []), some (.iload_n 2, 0, 5, []), some (.aload_n 0, 0, 6, []), some (.getfield 21, 0, 9, []), none, none, some (.getfield 44, 0, 12, []), none, none, some (.if_icmp .ge 21, 0, 15, [33]), none, none, some (.aload_n 0, 0, 16, []), some (.getfield 15, 0, 19, []), none, none, some (.iload_n 2, 0, 20, []), some (.iaload, 0, 21, []), some (.ifCond .ne 6, 0, 24, [27]), none, none, some (.iinc 1 1, 1, 27, []), none, none, some (.iinc 2 1, 1, 30, []), none, none, some (.goto (-26), 0, 33, [4]), none, none, some (.iload_n 1, 0, 34, []), some (.ireturn, 0, 35, [])]
def mX1_placesInLine : zM := (iX1_placesInLine, [(15, 1, 2, (.array .int)), (21, 1, 0, (.object "RankWheels$Men")), (44, 2, 0, .int)], [], [], [], [], [], [])
theorem kX1_placesInLine : zchkL cX1_placesInLine 0 iX1_placesInLine = true := by decide +kernel
set_option maxRecDepth 20000 in
theorem gX1_placesInLine : zGood mX1_placesInLine cX1_placesInLine yX1_placesInLine.cls (zwd yX1_placesInLine cX1_placesInLine 3 (zret 1)) := ⟨fun pc x h => by
    have h1 := zchkL_at kX1_placesInLine pc x h
    rw [Nat.zero_add] at h1
    exact h1, zlookF (fin := false) [(15, 1, 2, (.array .int)), (21, 1, 0, (.object "RankWheels$Men")), (44, 2, 0, .int)] (List.forall_mem_cons.mpr ⟨⟨(RX1, TX1, 8), rfl, by decide, List.mem_cons_of_mem _ zw157, fun w h => List.mem_cons_of_mem _ (zX1 w h), by decide +kernel, fun h => by cases h⟩, List.forall_mem_cons.mpr ⟨⟨(RX1, TX1, 8), rfl, by decide, List.mem_cons_of_mem _ zw154, fun w h => List.mem_cons_of_mem _ (zX1 w h), by decide +kernel, fun h => by cases h⟩, List.forall_mem_cons.mpr ⟨⟨(RX2, TX2, 3), rfl, by decide, List.mem_cons_of_mem _ zw82, fun w h => List.mem_cons_of_mem _ (zX2 w h), by decide +kernel, fun h => by cases h⟩, fun _ h => absurd h List.not_mem_nil⟩⟩⟩), zlookF (fin := true) [] (fun _ h => absurd h List.not_mem_nil), zlookup (β := Int32) (L := []) (P := fun ix b => Jvm.Cond.constant yX1_placesInLine.cls ix b ∈ (zwd yX1_placesInLine cX1_placesInLine 3 (zret 1))) (fun _ h => absurd h List.not_mem_nil), zlookup (β := Int64) (L := []) (P := fun ix b => Jvm.Cond.constantLong yX1_placesInLine.cls ix b ∈ (zwd yX1_placesInLine cX1_placesInLine 3 (zret 1))) (fun _ h => absurd h List.not_mem_nil), zlookup (β := Nat) (L := []) (P := fun ix b => zmok yX1_placesInLine.cls (zwd yX1_placesInLine cX1_placesInLine 3 (zret 1)) ix b) (fun _ h => absurd h List.not_mem_nil)⟩
set_option maxRecDepth 20000 in
theorem sX1_placesInLine (l : Launch) : ∀ (as : List Value) (ws : zW) (K : zP), zFr 1 (zGoes mX1_placesInLine 1 3) as ws K → zMet l yX1_placesInLine (zwd yX1_placesInLine cX1_placesInLine 3 (zret 1)) { frames := 1, cells := 0, slots := 0, locals := 200 } 1 as ws K := zFr_met (by decide +kernel) (by decide) (by decide) gX1_placesInLine (fun p e s m args below meth c D cy ad A n0 Q S hKK hA => ⟨fun ix n G h => zlookup (β := Nat × zG) (L := []) (P := fun ix b => zCO p l e { frames := 1, cells := 0, slots := 0, locals := 200 } s m args below meth c cX1_placesInLine 3 D cy ad A n0 0 0 Q (.invokevirtual ix) b.1 b.2) (fun _ h => absurd h List.not_mem_nil) ix (n, G) h, fun ix n G h => zlookup (β := Nat × zG) (L := []) (P := fun ix b => zCO p l e { frames := 1, cells := 0, slots := 0, locals := 200 } s m args below meth c cX1_placesInLine 3 D cy ad A n0 0 0 Q (.invokestatic ix) b.1 b.2) (fun _ h => absurd h List.not_mem_nil) ix (n, G) h⟩) (by decide)
def iX1_pacesBehind : List (Option zI) := [some (.iconst 0, 0, 1, []), some (.istore_n 2, 0, 2, []), some (.iconst 0, 0, 3, []), some (.istore_n 3, 0, 4, []), some (.iload_n 3, 0, 5, []), some (.aload_n 0, 0, 6, []), some (.getfield 21, 0, 9, []), none, none, some (.getfield 44, 0, 12, []), none, none, some (.if_icmp .ge 48, 0, 15, [60]), none, none, some (.aload_n 0, 0, 16, []), some (.iload_n 3, 0, 17, []), some (.invokevirtual 69, 0, 20, []), none, none, some (.istore 4, 0, 22, []), none, some (.iload_n 1, 0, 23, []), some (.aload_n 0, 0, 24, []), some (.getfield 15, 0, 27, []), none, none, some (.iload_n 3, 0, 28, []), some (.iaload, 0, 29, []), some (.isub, 0, 30, []), some (.istore 5, 0, 32, []), none, some (.iload 4, 0, 34, []), none, some (.ifCond .le 20, 0, 37, [54]), none, none, some (.iload 5, 0, 39, []), none, some (.ifCond .lt 15, 0, 42, [54]), none, none, some (.iload_n 2, 0, 43, []), some (.iload 5, 0, 45, []), none, some (.iload 4, 0, 47, []), none, some (.idiv, 0, 48, []), some (.iconst 1, 1, 49, []), some (.iadd, 0, 50, []), some (.invokestatic 56, 0, 53, []), none, none, some (.istore_n 2, 0, 54, []), some (.iinc 3 1, 1, 57, []), none, none, some (.goto (-53), 0, 60, [4]), none, none, some (.iload_n 2, 0, 61, []), some (.ireturn, 0, 62, [])]
def mX1_pacesBehind : zM := (iX1_pacesBehind, [(15, 1, 2, (.array .int)), (21, 1, 0, (.object "RankWheels$Men")), (44, 2, 0, .int)], [], [], [], [(56, 0)], [(69, 2, zFV 1 2 (zGoes mX1_wants 1 2))], [])
theorem kX1_pacesBehind : zchkL cX1_pacesBehind 0 iX1_pacesBehind = true := by decide +kernel
set_option maxRecDepth 20000 in
theorem gX1_pacesBehind : zGood mX1_pacesBehind cX1_pacesBehind yX1_pacesBehind.cls (zwd yX1_pacesBehind cX1_pacesBehind 6 (zret 1)) := ⟨fun pc x h => by
    have h1 := zchkL_at kX1_pacesBehind pc x h
    rw [Nat.zero_add] at h1
    exact h1, zlookF (fin := false) [(15, 1, 2, (.array .int)), (21, 1, 0, (.object "RankWheels$Men")), (44, 2, 0, .int)] (List.forall_mem_cons.mpr ⟨⟨(RX1, TX1, 8), rfl, by decide, List.mem_cons_of_mem _ zw157, fun w h => List.mem_cons_of_mem _ (zX1 w h), by decide +kernel, fun h => by cases h⟩, List.forall_mem_cons.mpr ⟨⟨(RX1, TX1, 8), rfl, by decide, List.mem_cons_of_mem _ zw154, fun w h => List.mem_cons_of_mem _ (zX1 w h), by decide +kernel, fun h => by cases h⟩, List.forall_mem_cons.mpr ⟨⟨(RX2, TX2, 3), rfl, by decide, List.mem_cons_of_mem _ zw82, fun w h => List.mem_cons_of_mem _ (zX2 w h), by decide +kernel, fun h => by cases h⟩, fun _ h => absurd h List.not_mem_nil⟩⟩⟩), zlookF (fin := true) [] (fun _ h => absurd h List.not_mem_nil), zlookup (β := Int32) (L := []) (P := fun ix b => Jvm.Cond.constant yX1_pacesBehind.cls ix b ∈ (zwd yX1_pacesBehind cX1_pacesBehind 6 (zret 1))) (fun _ h => absurd h List.not_mem_nil), zlookup (β := Int64) (L := []) (P := fun ix b => Jvm.Cond.constantLong yX1_pacesBehind.cls ix b ∈ (zwd yX1_pacesBehind cX1_pacesBehind 6 (zret 1))) (fun _ h => absurd h List.not_mem_nil), zlookup (β := Nat) (L := [(56, 0)]) (P := fun ix b => zmok yX1_pacesBehind.cls (zwd yX1_pacesBehind cX1_pacesBehind 6 (zret 1)) ix b) (List.forall_mem_cons.mpr ⟨⟨List.mem_cons_of_mem _ zw450, List.mem_cons_of_mem _ zw451, List.mem_cons_of_mem _ zw58, List.mem_cons_of_mem _ zw452⟩, fun _ h => absurd h List.not_mem_nil⟩)⟩
set_option maxRecDepth 20000 in
theorem sX1_pacesBehind (l : Launch) : ∀ (as : List Value) (ws : zW) (K : zP), zFr 2 (zGoes mX1_pacesBehind 1 6) as ws K → zMet l yX1_pacesBehind (zwd yX1_pacesBehind cX1_pacesBehind 6 (zret 1)) { frames := 3, cells := 0, slots := 0, locals := 600 } 1 as ws K := zFr_met (by decide +kernel) (by decide) (by decide) gX1_pacesBehind (fun p e s m args below meth c D cy ad A n0 Q S hKK hA => ⟨fun ix n G h => zlookup (β := Nat × zG) (L := [(69, 2, zFV 1 2 (zGoes mX1_wants 1 2))]) (P := fun ix b => zCO p l e { frames := 3, cells := 0, slots := 0, locals := 600 } s m args below meth c cX1_pacesBehind 6 D cy ad A n0 0 0 Q (.invokevirtual ix) b.1 b.2) (List.forall_mem_cons.mpr ⟨zco_V (ci := 1) S hKK hA ⟨Nat.zero_le _, Nat.zero_le _⟩ (cwV 1 S.2.2.2.2 (zgoodV zw441 zw410 zw411 zw52 zw412) rfl rfl rfl (by decide +kernel) (by decide +kernel)) rfl rfl (sX1_wants l), fun _ h => absurd h List.not_mem_nil⟩) ix (n, G) h, fun ix n G h => zlookup (β := Nat × zG) (L := []) (P := fun ix b => zCO p l e { frames := 3, cells := 0, slots := 0, locals := 600 } s m args below meth c cX1_pacesBehind 6 D cy ad A n0 0 0 Q (.invokestatic ix) b.1 b.2) (fun _ h => absurd h List.not_mem_nil) ix (n, G) h⟩) (by decide)
def iX2_join : List (Option zI) := [some (.aload_n 0, 0, 1, []), some (.getfield 18, 0, 4, []), none, none, some (.bipush 7, 7, 6, []), none, some (.if_icmp .ge 33, 0, 9, [39]), none, none, some (.aload_n 0, 0, 10, []), some (.getfield 9, 0, 13, []), none, none, some (.aload_n 0, 0, 14, []), some (.getfield 18, 0, 17, []), none, none, some (.iload_n 1, 0, 18, []), some (.iastore, 0, 19, []), some (.aload_n 0, 0, 20, []), some (.getfield 15, 0, 23, []), none, none, some (.aload_n 0, 0, 24, []), some (.getfield 18, 0, 27, []), none, none, some (.iload_n 2, 0, 28, []), some (.iastore, 0, 29, []), some (.aload_n 0, 0, 30, []), some (.dup, 0, 31, []), some (.getfield 18, 0, 34, []), none, none, some (.iconst 1, 1, 35, []), some (.iadd, 0, 36, []), some (.putfield 18, 0, 39, []), none, none, some (.return_, 0, 40, [])]
def mX2_join : zM := (iX2_join, [(9, 2, 1, (.array .int)), (15, 2, 2, (.array .int)), (18, 2, 0, .int)], [(18, 2, 0, .int)], [], [], [], [], [])
theorem kX2_join : zchkL cX2_join 0 iX2_join = true := by decide +kernel
set_option maxRecDepth 20000 in
theorem gX2_join : zGood mX2_join cX2_join yX2_join.cls (zwd yX2_join cX2_join 3 (zret 0)) := ⟨fun pc x h => by
    have h1 := zchkL_at kX2_join pc x h
    rw [Nat.zero_add] at h1
    exact h1, zlookF (fin := false) [(9, 2, 1, (.array .int)), (15, 2, 2, (.array .int)), (18, 2, 0, .int)] (List.forall_mem_cons.mpr ⟨⟨(RX2, TX2, 3), rfl, by decide, List.mem_cons_of_mem _ zw85, fun w h => List.mem_cons_of_mem _ (zX2 w h), by decide +kernel, fun h => by cases h⟩, List.forall_mem_cons.mpr ⟨⟨(RX2, TX2, 3), rfl, by decide, List.mem_cons_of_mem _ zw89, fun w h => List.mem_cons_of_mem _ (zX2 w h), by decide +kernel, fun h => by cases h⟩, List.forall_mem_cons.mpr ⟨⟨(RX2, TX2, 3), rfl, by decide, List.mem_cons_of_mem _ zw80, fun w h => List.mem_cons_of_mem _ (zX2 w h), by decide +kernel, fun h => by cases h⟩, fun _ h => absurd h List.not_mem_nil⟩⟩⟩), zlookF (fin := true) [(18, 2, 0, .int)] (List.forall_mem_cons.mpr ⟨⟨(RX2, TX2, 3), rfl, by decide, List.mem_cons_of_mem _ zw80, fun w h => List.mem_cons_of_mem _ (zX2 w h), by decide +kernel, fun _ => rfl⟩, fun _ h => absurd h List.not_mem_nil⟩), zlookup (β := Int32) (L := []) (P := fun ix b => Jvm.Cond.constant yX2_join.cls ix b ∈ (zwd yX2_join cX2_join 3 (zret 0))) (fun _ h => absurd h List.not_mem_nil), zlookup (β := Int64) (L := []) (P := fun ix b => Jvm.Cond.constantLong yX2_join.cls ix b ∈ (zwd yX2_join cX2_join 3 (zret 0))) (fun _ h => absurd h List.not_mem_nil), zlookup (β := Nat) (L := []) (P := fun ix b => zmok yX2_join.cls (zwd yX2_join cX2_join 3 (zret 0)) ix b) (fun _ h => absurd h List.not_mem_nil)⟩
set_option maxRecDepth 20000 in
theorem sX2_join (l : Launch) : ∀ (as : List Value) (ws : zW) (K : zP), zFr 3 (zGoes mX2_join 0 3) as ws K → zMet l yX2_join (zwd yX2_join cX2_join 3 (zret 0)) { frames := 1, cells := 0, slots := 0, locals := 200 } 0 as ws K := zFr_met (by decide +kernel) (by decide) (by decide) gX2_join (fun p e s m args below meth c D cy ad A n0 Q S hKK hA => ⟨fun ix n G h => zlookup (β := Nat × zG) (L := []) (P := fun ix b => zCO p l e { frames := 1, cells := 0, slots := 0, locals := 200 } s m args below meth c cX2_join 3 D cy ad A n0 0 0 Q (.invokevirtual ix) b.1 b.2) (fun _ h => absurd h List.not_mem_nil) ix (n, G) h, fun ix n G h => zlookup (β := Nat × zG) (L := []) (P := fun ix b => zCO p l e { frames := 1, cells := 0, slots := 0, locals := 200 } s m args below meth c cX2_join 3 D cy ad A n0 0 0 Q (.invokestatic ix) b.1 b.2) (fun _ h => absurd h List.not_mem_nil) ix (n, G) h⟩) (by decide)
def iX2_copyFrom : List (Option zI) := [some (.aload_n 0, 0, 1, []), some (.aload_n 1, 0, 2, []), some (.getfield 18, 0, 5, []), none, none, some (.putfield 18, 0, 8, []), none, none, some (.aload_n 1, 0, 9, []), some (.getfield 9, 0, 12, []), none, none, some (.iconst 0, 0, 13, []), some (.aload_n 0, 0, 14, []), some (.getfield 9, 0, 17, []), none, none, some (.iconst 0, 0, 18, []), some (.bipush 7, 7, 20, []), none, some (.invokestatic 22, 0, 23, []), none, none, some (.aload_n 1, 0, 24, []), some (.getfield 15, 0, 27, []), none, none, some (.iconst 0, 0, 28, []), some (.aload_n 0, 0, 29, []), some (.getfield 15, 0, 32, []), none, none, some (.iconst 0, 0, 33, []), some (.bipush 7, 7, 35, []), none, some (.invokestatic 22, 0, 38, []), none, none, some (.return_, 0, 39, [])]
def mX2_copyFrom : zM := (iX2_copyFrom, [(9, 2, 1, (.array .int)), (15, 2, 2, (.array .int)), (18, 2, 0, .int)], [(18, 2, 0, .int)], [], [], [(22, 3)], [], [])
theorem kX2_copyFrom : zchkL cX2_copyFrom 0 iX2_copyFrom = true := by decide +kernel
set_option maxRecDepth 20000 in
theorem gX2_copyFrom : zGood mX2_copyFrom cX2_copyFrom yX2_copyFrom.cls (zwd yX2_copyFrom cX2_copyFrom 2 (zret 0)) := ⟨fun pc x h => by
    have h1 := zchkL_at kX2_copyFrom pc x h
    rw [Nat.zero_add] at h1
    exact h1, zlookF (fin := false) [(9, 2, 1, (.array .int)), (15, 2, 2, (.array .int)), (18, 2, 0, .int)] (List.forall_mem_cons.mpr ⟨⟨(RX2, TX2, 3), rfl, by decide, List.mem_cons_of_mem _ zw85, fun w h => List.mem_cons_of_mem _ (zX2 w h), by decide +kernel, fun h => by cases h⟩, List.forall_mem_cons.mpr ⟨⟨(RX2, TX2, 3), rfl, by decide, List.mem_cons_of_mem _ zw89, fun w h => List.mem_cons_of_mem _ (zX2 w h), by decide +kernel, fun h => by cases h⟩, List.forall_mem_cons.mpr ⟨⟨(RX2, TX2, 3), rfl, by decide, List.mem_cons_of_mem _ zw80, fun w h => List.mem_cons_of_mem _ (zX2 w h), by decide +kernel, fun h => by cases h⟩, fun _ h => absurd h List.not_mem_nil⟩⟩⟩), zlookF (fin := true) [(18, 2, 0, .int)] (List.forall_mem_cons.mpr ⟨⟨(RX2, TX2, 3), rfl, by decide, List.mem_cons_of_mem _ zw80, fun w h => List.mem_cons_of_mem _ (zX2 w h), by decide +kernel, fun _ => rfl⟩, fun _ h => absurd h List.not_mem_nil⟩), zlookup (β := Int32) (L := []) (P := fun ix b => Jvm.Cond.constant yX2_copyFrom.cls ix b ∈ (zwd yX2_copyFrom cX2_copyFrom 2 (zret 0))) (fun _ h => absurd h List.not_mem_nil), zlookup (β := Int64) (L := []) (P := fun ix b => Jvm.Cond.constantLong yX2_copyFrom.cls ix b ∈ (zwd yX2_copyFrom cX2_copyFrom 2 (zret 0))) (fun _ h => absurd h List.not_mem_nil), zlookup (β := Nat) (L := [(22, 3)]) (P := fun ix b => zmok yX2_copyFrom.cls (zwd yX2_copyFrom cX2_copyFrom 2 (zret 0)) ix b) (List.forall_mem_cons.mpr ⟨⟨List.mem_cons_of_mem _ zw386, List.mem_cons_of_mem _ zw388, List.mem_cons_of_mem _ zw387, List.mem_cons_of_mem _ zw59⟩, fun _ h => absurd h List.not_mem_nil⟩)⟩
set_option maxRecDepth 20000 in
theorem sX2_copyFrom (l : Launch) : ∀ (as : List Value) (ws : zW) (K : zP), zFr 2 (zGoes mX2_copyFrom 0 2) as ws K → zMet l yX2_copyFrom (zwd yX2_copyFrom cX2_copyFrom 2 (zret 0)) { frames := 1, cells := 0, slots := 0, locals := 200 } 0 as ws K := zFr_met (by decide +kernel) (by decide) (by decide) gX2_copyFrom (fun p e s m args below meth c D cy ad A n0 Q S hKK hA => ⟨fun ix n G h => zlookup (β := Nat × zG) (L := []) (P := fun ix b => zCO p l e { frames := 1, cells := 0, slots := 0, locals := 200 } s m args below meth c cX2_copyFrom 2 D cy ad A n0 0 0 Q (.invokevirtual ix) b.1 b.2) (fun _ h => absurd h List.not_mem_nil) ix (n, G) h, fun ix n G h => zlookup (β := Nat × zG) (L := []) (P := fun ix b => zCO p l e { frames := 1, cells := 0, slots := 0, locals := 200 } s m args below meth c cX2_copyFrom 2 D cy ad A n0 0 0 Q (.invokestatic ix) b.1 b.2) (fun _ h => absurd h List.not_mem_nil) ix (n, G) h⟩) (by decide)
def iX3_isBetter : List (Option zI) := [some (.iload_n 1, 0, 1, []), some (.aload_n 0, 0, 2, []), some (.getfield 29, 0, 5, []), none, none, some (.if_icmp .lt 19, 0, 8, [24]), none, none, some (.iload_n 1, 0, 9, []), some (.aload_n 0, 0, 10, []), some (.getfield 29, 0, 13, []), none, none, some (.if_icmp .ne 15, 0, 16, [28]), none, none, some (.iload_n 2, 0, 17, []), some (.aload_n 0, 0, 18, []), some (.getfield 32, 0, 21, []), none, none, some (.if_icmp .ge 7, 0, 24, [28]), none, none, some (.iconst 1, 1, 25, []), some (.goto 4, 0, 28, [29]), none, none, some (.iconst 0, 0, 29, []), some (.ireturn, 0, 30, [])]
def mX3_isBetter : zM := (iX3_isBetter, [(29, 3, 4, .int), (32, 3, 5, .int)], [], [], [], [], [], [])
theorem kX3_isBetter : zchkL cX3_isBetter 0 iX3_isBetter = true := by decide +kernel
set_option maxRecDepth 20000 in
theorem gX3_isBetter : zGood mX3_isBetter cX3_isBetter yX3_isBetter.cls (zwd yX3_isBetter cX3_isBetter 3 (zret 3)) := ⟨fun pc x h => by
    have h1 := zchkL_at kX3_isBetter pc x h
    rw [Nat.zero_add] at h1
    exact h1, zlookF (fin := false) [(29, 3, 4, .int), (32, 3, 5, .int)] (List.forall_mem_cons.mpr ⟨⟨(RX3, TX3, 6), rfl, by decide, List.mem_cons_of_mem _ zw237, fun w h => List.mem_cons_of_mem _ (zX3 w h), by decide +kernel, fun h => by cases h⟩, List.forall_mem_cons.mpr ⟨⟨(RX3, TX3, 6), rfl, by decide, List.mem_cons_of_mem _ zw239, fun w h => List.mem_cons_of_mem _ (zX3 w h), by decide +kernel, fun h => by cases h⟩, fun _ h => absurd h List.not_mem_nil⟩⟩), zlookF (fin := true) [] (fun _ h => absurd h List.not_mem_nil), zlookup (β := Int32) (L := []) (P := fun ix b => Jvm.Cond.constant yX3_isBetter.cls ix b ∈ (zwd yX3_isBetter cX3_isBetter 3 (zret 3))) (fun _ h => absurd h List.not_mem_nil), zlookup (β := Int64) (L := []) (P := fun ix b => Jvm.Cond.constantLong yX3_isBetter.cls ix b ∈ (zwd yX3_isBetter cX3_isBetter 3 (zret 3))) (fun _ h => absurd h List.not_mem_nil), zlookup (β := Nat) (L := []) (P := fun ix b => zmok yX3_isBetter.cls (zwd yX3_isBetter cX3_isBetter 3 (zret 3)) ix b) (fun _ h => absurd h List.not_mem_nil)⟩
set_option maxRecDepth 20000 in
theorem sX3_isBetter (l : Launch) : ∀ (as : List Value) (ws : zW) (K : zP), zFr 3 (zGoes mX3_isBetter 3 3) as ws K → zMet l yX3_isBetter (zwd yX3_isBetter cX3_isBetter 3 (zret 3)) { frames := 1, cells := 0, slots := 0, locals := 200 } 3 as ws K := zFr_met (by decide +kernel) (by decide) (by decide) gX3_isBetter (fun p e s m args below meth c D cy ad A n0 Q S hKK hA => ⟨fun ix n G h => zlookup (β := Nat × zG) (L := []) (P := fun ix b => zCO p l e { frames := 1, cells := 0, slots := 0, locals := 200 } s m args below meth c cX3_isBetter 3 D cy ad A n0 0 0 Q (.invokevirtual ix) b.1 b.2) (fun _ h => absurd h List.not_mem_nil) ix (n, G) h, fun ix n G h => zlookup (β := Nat × zG) (L := []) (P := fun ix b => zCO p l e { frames := 1, cells := 0, slots := 0, locals := 200 } s m args below meth c cX3_isBetter 3 D cy ad A n0 0 0 Q (.invokestatic ix) b.1 b.2) (fun _ h => absurd h List.not_mem_nil) ix (n, G) h⟩) (by decide)
def iX3_becomeBest : List (Option zI) := [some (.aload_n 0, 0, 1, []), some (.iload_n 1, 0, 2, []), some (.putfield 29, 0, 5, []), none, none, some (.aload_n 0, 0, 6, []), some (.iload_n 2, 0, 7, []), some (.putfield 32, 0, 10, []), none, none, some (.aload_n 0, 0, 11, []), some (.getfield 9, 0, 14, []), none, none, some (.iconst 0, 0, 15, []), some (.aload_n 0, 0, 16, []), some (.getfield 15, 0, 19, []), none, none, some (.iconst 0, 0, 20, []), some (.bipush 7, 7, 22, []), none, some (.invokestatic 78, 0, 25, []), none, none, some (.return_, 0, 26, [])]
def mX3_becomeBest : zM := (iX3_becomeBest, [(9, 3, 1, (.array .int)), (15, 3, 3, (.array .int))], [(29, 3, 4, .int), (32, 3, 5, .int)], [], [], [(78, 3)], [], [])
theorem kX3_becomeBest : zchkL cX3_becomeBest 0 iX3_becomeBest = true := by decide +kernel
set_option maxRecDepth 20000 in
theorem gX3_becomeBest : zGood mX3_becomeBest cX3_becomeBest yX3_becomeBest.cls (zwd yX3_becomeBest cX3_becomeBest 3 (zret 0)) := ⟨fun pc x h => by
    have h1 := zchkL_at kX3_becomeBest pc x h
    rw [Nat.zero_add] at h1
    exact h1, zlookF (fin := false) [(9, 3, 1, (.array .int)), (15, 3, 3, (.array .int))] (List.forall_mem_cons.mpr ⟨⟨(RX3, TX3, 6), rfl, by decide, List.mem_cons_of_mem _ zw233, fun w h => List.mem_cons_of_mem _ (zX3 w h), by decide +kernel, fun h => by cases h⟩, List.forall_mem_cons.mpr ⟨⟨(RX3, TX3, 6), rfl, by decide, List.mem_cons_of_mem _ zw235, fun w h => List.mem_cons_of_mem _ (zX3 w h), by decide +kernel, fun h => by cases h⟩, fun _ h => absurd h List.not_mem_nil⟩⟩), zlookF (fin := true) [(29, 3, 4, .int), (32, 3, 5, .int)] (List.forall_mem_cons.mpr ⟨⟨(RX3, TX3, 6), rfl, by decide, List.mem_cons_of_mem _ zw237, fun w h => List.mem_cons_of_mem _ (zX3 w h), by decide +kernel, fun _ => rfl⟩, List.forall_mem_cons.mpr ⟨⟨(RX3, TX3, 6), rfl, by decide, List.mem_cons_of_mem _ zw239, fun w h => List.mem_cons_of_mem _ (zX3 w h), by decide +kernel, fun _ => rfl⟩, fun _ h => absurd h List.not_mem_nil⟩⟩), zlookup (β := Int32) (L := []) (P := fun ix b => Jvm.Cond.constant yX3_becomeBest.cls ix b ∈ (zwd yX3_becomeBest cX3_becomeBest 3 (zret 0))) (fun _ h => absurd h List.not_mem_nil), zlookup (β := Int64) (L := []) (P := fun ix b => Jvm.Cond.constantLong yX3_becomeBest.cls ix b ∈ (zwd yX3_becomeBest cX3_becomeBest 3 (zret 0))) (fun _ h => absurd h List.not_mem_nil), zlookup (β := Nat) (L := [(78, 3)]) (P := fun ix b => zmok yX3_becomeBest.cls (zwd yX3_becomeBest cX3_becomeBest 3 (zret 0)) ix b) (List.forall_mem_cons.mpr ⟨⟨List.mem_cons_of_mem _ zw572, List.mem_cons_of_mem _ zw388, List.mem_cons_of_mem _ zw387, List.mem_cons_of_mem _ zw59⟩, fun _ h => absurd h List.not_mem_nil⟩)⟩
set_option maxRecDepth 20000 in
theorem sX3_becomeBest (l : Launch) : ∀ (as : List Value) (ws : zW) (K : zP), zFr 3 (zGoes mX3_becomeBest 0 3) as ws K → zMet l yX3_becomeBest (zwd yX3_becomeBest cX3_becomeBest 3 (zret 0)) { frames := 1, cells := 0, slots := 0, locals := 200 } 0 as ws K := zFr_met (by decide +kernel) (by decide) (by decide) gX3_becomeBest (fun p e s m args below meth c D cy ad A n0 Q S hKK hA => ⟨fun ix n G h => zlookup (β := Nat × zG) (L := []) (P := fun ix b => zCO p l e { frames := 1, cells := 0, slots := 0, locals := 200 } s m args below meth c cX3_becomeBest 3 D cy ad A n0 0 0 Q (.invokevirtual ix) b.1 b.2) (fun _ h => absurd h List.not_mem_nil) ix (n, G) h, fun ix n G h => zlookup (β := Nat × zG) (L := []) (P := fun ix b => zCO p l e { frames := 1, cells := 0, slots := 0, locals := 200 } s m args below meth c cX3_becomeBest 3 D cy ad A n0 0 0 Q (.invokestatic ix) b.1 b.2) (fun _ h => absurd h List.not_mem_nil) ix (n, G) h⟩) (by decide)
def iX3_aboveLegAt : List (Option zI) := [some (.iconst 0, 0, 1, []), some (.aload_n 0, 0, 2, []), some (.getfield 22, 0, 5, []), none, none, some (.iload_n 1, 0, 6, []), some (.aload_n 0, 0, 7, []), some (.getfield 18, 0, 10, []), none, none, some (.getfield 43, 0, 13, []), none, none, some (.invokestatic 59, 0, 16, []), none, none, some (.aload_n 0, 0, 17, []), some (.getfield 18, 0, 20, []), none, none, some (.getfield 63, 0, 23, []), none, none, some (.aload_n 0, 0, 24, []), some (.getfield 9, 0, 27, []), none, none, some (.iload_n 1, 0, 28, []), some (.iaload, 0, 29, []), some (.iaload, 0, 30, []), some (.isub, 0, 31, []), some (.invokestatic 66, 0, 34, []), none, none, some (.ireturn, 0, 35, [])]
def mX3_aboveLegAt : zM := (iX3_aboveLegAt, [(9, 3, 1, (.array .int)), (18, 3, 0, (.object "RankWheels$Men")), (22, 3, 2, .int), (43, 2, 0, .int), (63, 2, 1, (.array .int))], [], [], [], [(66, 0)], [], [(59, 3, zFr 3 (zGoes mX7_wanted 1 3))])
theorem kX3_aboveLegAt : zchkL cX3_aboveLegAt 0 iX3_aboveLegAt = true := by decide +kernel
set_option maxRecDepth 20000 in
theorem gX3_aboveLegAt : zGood mX3_aboveLegAt cX3_aboveLegAt yX3_aboveLegAt.cls (zwd yX3_aboveLegAt cX3_aboveLegAt 2 (zret 1)) := ⟨fun pc x h => by
    have h1 := zchkL_at kX3_aboveLegAt pc x h
    rw [Nat.zero_add] at h1
    exact h1, zlookF (fin := false) [(9, 3, 1, (.array .int)), (18, 3, 0, (.object "RankWheels$Men")), (22, 3, 2, .int), (43, 2, 0, .int), (63, 2, 1, (.array .int))] (List.forall_mem_cons.mpr ⟨⟨(RX3, TX3, 6), rfl, by decide, List.mem_cons_of_mem _ zw233, fun w h => List.mem_cons_of_mem _ (zX3 w h), by decide +kernel, fun h => by cases h⟩, List.forall_mem_cons.mpr ⟨⟨(RX3, TX3, 6), rfl, by decide, List.mem_cons_of_mem _ zw232, fun w h => List.mem_cons_of_mem _ (zX3 w h), by decide +kernel, fun h => by cases h⟩, List.forall_mem_cons.mpr ⟨⟨(RX3, TX3, 6), rfl, by decide, List.mem_cons_of_mem _ zw234, fun w h => List.mem_cons_of_mem _ (zX3 w h), by decide +kernel, fun h => by cases h⟩, List.forall_mem_cons.mpr ⟨⟨(RX2, TX2, 3), rfl, by decide, List.mem_cons_of_mem _ zw81, fun w h => List.mem_cons_of_mem _ (zX2 w h), by decide +kernel, fun h => by cases h⟩, List.forall_mem_cons.mpr ⟨⟨(RX2, TX2, 3), rfl, by decide, List.mem_cons_of_mem _ zw86, fun w h => List.mem_cons_of_mem _ (zX2 w h), by decide +kernel, fun h => by cases h⟩, fun _ h => absurd h List.not_mem_nil⟩⟩⟩⟩⟩), zlookF (fin := true) [] (fun _ h => absurd h List.not_mem_nil), zlookup (β := Int32) (L := []) (P := fun ix b => Jvm.Cond.constant yX3_aboveLegAt.cls ix b ∈ (zwd yX3_aboveLegAt cX3_aboveLegAt 2 (zret 1))) (fun _ h => absurd h List.not_mem_nil), zlookup (β := Int64) (L := []) (P := fun ix b => Jvm.Cond.constantLong yX3_aboveLegAt.cls ix b ∈ (zwd yX3_aboveLegAt cX3_aboveLegAt 2 (zret 1))) (fun _ h => absurd h List.not_mem_nil), zlookup (β := Nat) (L := [(66, 0)]) (P := fun ix b => zmok yX3_aboveLegAt.cls (zwd yX3_aboveLegAt cX3_aboveLegAt 2 (zret 1)) ix b) (List.forall_mem_cons.mpr ⟨⟨List.mem_cons_of_mem _ zw578, List.mem_cons_of_mem _ zw451, List.mem_cons_of_mem _ zw58, List.mem_cons_of_mem _ zw452⟩, fun _ h => absurd h List.not_mem_nil⟩)⟩
set_option maxRecDepth 20000 in
theorem sX3_aboveLegAt (l : Launch) : ∀ (as : List Value) (ws : zW) (K : zP), zFr 2 (zGoes mX3_aboveLegAt 1 2) as ws K → zMet l yX3_aboveLegAt (zwd yX3_aboveLegAt cX3_aboveLegAt 2 (zret 1)) { frames := 2, cells := 0, slots := 0, locals := 400 } 1 as ws K := zFr_met (by decide +kernel) (by decide) (by decide) gX3_aboveLegAt (fun p e s m args below meth c D cy ad A n0 Q S hKK hA => ⟨fun ix n G h => zlookup (β := Nat × zG) (L := []) (P := fun ix b => zCO p l e { frames := 2, cells := 0, slots := 0, locals := 400 } s m args below meth c cX3_aboveLegAt 2 D cy ad A n0 0 0 Q (.invokevirtual ix) b.1 b.2) (fun _ h => absurd h List.not_mem_nil) ix (n, G) h, fun ix n G h => zlookup (β := Nat × zG) (L := [(59, 3, zFr 3 (zGoes mX7_wanted 1 3))]) (P := fun ix b => zCO p l e { frames := 2, cells := 0, slots := 0, locals := 400 } s m args below meth c cX3_aboveLegAt 2 D cy ad A n0 0 0 Q (.invokestatic ix) b.1 b.2) (List.forall_mem_cons.mpr ⟨zco_N (host := RX7) S hKK hA ⟨Nat.zero_le _, Nat.zero_le _⟩ ⟨va_cnB 3 S.2.2.2.2 (zgoodN zw415) rfl rfl rfl (hKK.2 _ (List.mem_of_getElem? (i := 4) rfl)) (S.2.2.2.2 _ (List.mem_cons_of_mem _ zw49)) (by decide +kernel) (by decide +kernel), S.2.2.2.2 _ (List.mem_cons_of_mem _ zw414), trivial⟩ (sX7_wanted l), fun _ h => absurd h List.not_mem_nil⟩) ix (n, G) h⟩) (by decide)
def iX3_apartInwardOf : List (Option zI) := [some (.iload_n 1, 0, 1, []), some (.ifCond .ne 7, 0, 4, [8]), none, none, some (.iconst 0, 0, 5, []), some (.goto 37, 0, 8, [42]), none, none, some (.aload_n 0, 0, 9, []), some (.getfield 18, 0, 12, []), none, none, some (.getfield 72, 0, 15, []), none, none, some (.aload_n 0, 0, 16, []), some (.getfield 9, 0, 19, []), none, none, some (.iload_n 1, 0, 20, []), some (.iaload, 0, 21, []), some (.iaload, 0, 22, []), some (.aload_n 0, 0, 23, []), some (.getfield 18, 0, 26, []), none, none, some (.getfield 72, 0, 29, []), none, none, some (.aload_n 0, 0, 30, []), some (.getfield 9, 0, 33, []), none, none, some (.iload_n 1, 0, 34, []), some (.iconst 1, 1, 35, []), some (.isub, 0, 36, []), some (.iaload, 0, 37, []), some (.iaload, 0, 38, []), some (.isub, 0, 39, []), some (.invokestatic 75, 0, 42, []), none, none, some (.ireturn, 0, 43, [])]
def mX3_apartInwardOf : zM := (iX3_apartInwardOf, [(9, 3, 1, (.array .int)), (18, 3, 0, (.object "RankWheels$Men")), (72, 2, 2, (.array .int))], [], [], [], [(75, 2)], [], [])
theorem kX3_apartInwardOf : zchkL cX3_apartInwardOf 0 iX3_apartInwardOf = true := by decide +kernel
set_option maxRecDepth 20000 in
theorem gX3_apartInwardOf : zGood mX3_apartInwardOf cX3_apartInwardOf yX3_apartInwardOf.cls (zwd yX3_apartInwardOf cX3_apartInwardOf 2 (zret 1)) := ⟨fun pc x h => by
    have h1 := zchkL_at kX3_apartInwardOf pc x h
    rw [Nat.zero_add] at h1
    exact h1, zlookF (fin := false) [(9, 3, 1, (.array .int)), (18, 3, 0, (.object "RankWheels$Men")), (72, 2, 2, (.array .int))] (List.forall_mem_cons.mpr ⟨⟨(RX3, TX3, 6), rfl, by decide, List.mem_cons_of_mem _ zw233, fun w h => List.mem_cons_of_mem _ (zX3 w h), by decide +kernel, fun h => by cases h⟩, List.forall_mem_cons.mpr ⟨⟨(RX3, TX3, 6), rfl, by decide, List.mem_cons_of_mem _ zw232, fun w h => List.mem_cons_of_mem _ (zX3 w h), by decide +kernel, fun h => by cases h⟩, List.forall_mem_cons.mpr ⟨⟨(RX2, TX2, 3), rfl, by decide, List.mem_cons_of_mem _ zw90, fun w h => List.mem_cons_of_mem _ (zX2 w h), by decide +kernel, fun h => by cases h⟩, fun _ h => absurd h List.not_mem_nil⟩⟩⟩), zlookF (fin := true) [] (fun _ h => absurd h List.not_mem_nil), zlookup (β := Int32) (L := []) (P := fun ix b => Jvm.Cond.constant yX3_apartInwardOf.cls ix b ∈ (zwd yX3_apartInwardOf cX3_apartInwardOf 2 (zret 1))) (fun _ h => absurd h List.not_mem_nil), zlookup (β := Int64) (L := []) (P := fun ix b => Jvm.Cond.constantLong yX3_apartInwardOf.cls ix b ∈ (zwd yX3_apartInwardOf cX3_apartInwardOf 2 (zret 1))) (fun _ h => absurd h List.not_mem_nil), zlookup (β := Nat) (L := [(75, 2)]) (P := fun ix b => zmok yX3_apartInwardOf.cls (zwd yX3_apartInwardOf cX3_apartInwardOf 2 (zret 1)) ix b) (List.forall_mem_cons.mpr ⟨⟨List.mem_cons_of_mem _ zw583, List.mem_cons_of_mem _ zw467, List.mem_cons_of_mem _ zw58, List.mem_cons_of_mem _ zw468⟩, fun _ h => absurd h List.not_mem_nil⟩)⟩
set_option maxRecDepth 20000 in
theorem sX3_apartInwardOf (l : Launch) : ∀ (as : List Value) (ws : zW) (K : zP), zFr 2 (zGoes mX3_apartInwardOf 1 2) as ws K → zMet l yX3_apartInwardOf (zwd yX3_apartInwardOf cX3_apartInwardOf 2 (zret 1)) { frames := 1, cells := 0, slots := 0, locals := 200 } 1 as ws K := zFr_met (by decide +kernel) (by decide) (by decide) gX3_apartInwardOf (fun p e s m args below meth c D cy ad A n0 Q S hKK hA => ⟨fun ix n G h => zlookup (β := Nat × zG) (L := []) (P := fun ix b => zCO p l e { frames := 1, cells := 0, slots := 0, locals := 200 } s m args below meth c cX3_apartInwardOf 2 D cy ad A n0 0 0 Q (.invokevirtual ix) b.1 b.2) (fun _ h => absurd h List.not_mem_nil) ix (n, G) h, fun ix n G h => zlookup (β := Nat × zG) (L := []) (P := fun ix b => zCO p l e { frames := 1, cells := 0, slots := 0, locals := 200 } s m args below meth c cX3_apartInwardOf 2 D cy ad A n0 0 0 Q (.invokestatic ix) b.1 b.2) (fun _ h => absurd h List.not_mem_nil) ix (n, G) h⟩) (by decide)
def iX3_fillFrom : List (Option zI) := [some (.aload_n 0, 0, 1, []), some (.iload_n 3, 0, 2, []), some (.iload 4, 0, 4, []), none, some (.invokevirtual 39, 0, 7, []), none, none, some (.ifCond .ne 4, 0, 10, [11]), none, none, some (.return_, 0, 11, []), some (.iload_n 1, 0, 12, []), some (.aload_n 0, 0, 13, []), some (.getfield 18, 0, 16, []), none, none, some (.getfield 43, 0, 19, []), none, none, some (.if_icmp .lt 11, 0, 22, [30]), none, none, some (.aload_n 0, 0, 23, []), some (.iload_n 3, 0, 24, []), some (.iload 4, 0, 26, []), none, some (.invokevirtual 48, 0, 29, []), none, none, some (.return_, 0, 30, []), some (.iconst 0, 0, 31, []), some (.istore 5, 0, 33, []), none, some (.iload 5, 0, 35, []), none, some (.aload_n 0, 0, 36, []), some (.getfield 18, 0, 39, []), none, none, some (.getfield 43, 0, 42, []), none, none, some (.if_icmp .ge 54, 0, 45, [96]), none, none, some (.iload_n 2, 0, 46, []), some (.iconst 1, 1, 47, []), some (.iload 5, 0, 49, []), none, some (.ishl, 0, 50, []), some (.iand, 0, 51, []), some (.ifCond .ne 39, 0, 54, [90]), none, none, some (.aload_n 0, 0, 55, []), some (.getfield 9, 0, 58, []), none, none, some (.iload_n 1, 0, 59, []), some (.iload 5, 0, 61, []), none, some (.iastore, 0, 62, []), some (.aload_n 0, 0, 63, []), some (.iload_n 1, 0, 64, []), some (.iconst 1, 1, 65, []), some (.iadd, 0, 66, []), some (.iload_n 2, 0, 67, []), some (.iconst 1, 1, 68, []), some (.iload 5, 0, 70, []), none, some (.ishl, 0, 71, []), some (.ior, 0, 72, []), some (.iload_n 3, 0, 73, []), some (.aload_n 0, 0, 74, []), some (.iload_n 1, 0, 75, []), some (.invokevirtual 52, 0, 78, []), none, none, some (.iadd, 0, 79, []), some (.iload 4, 0, 81, []), none, some (.aload_n 0, 0, 82, []), some (.iload_n 1, 0, 83, []), some (.invokevirtual 56, 0, 86, []), none, none, some (.iadd, 0, 87, []), some (.invokestatic 35, 0, 90, []), none, none, some (.iinc 5 1, 1, 93, []), none, none, some (.goto (-60), 0, 96, [33]), none, none, some (.return_, 0, 97, [])]
def mX3_fillFrom : Nat → zM
  | 0 => (iX3_fillFrom, [(9, 3, 1, (.array .int)), (18, 3, 0, (.object "RankWheels$Men")), (43, 2, 0, .int)], [], [], [], [], [(39, 3, zFV 3 3 (zGoes mX3_isBetter 3 3)), (48, 3, zFV 3 3 (zGoes mX3_becomeBest 0 3)), (52, 2, zFV 3 2 (zGoes mX3_aboveLegAt 1 2)), (56, 2, zFV 3 2 (zGoes mX3_apartInwardOf 1 2))], [(35, 5, fun _ _ _ => False)])
  | d + 1 => (iX3_fillFrom, [(9, 3, 1, (.array .int)), (18, 3, 0, (.object "RankWheels$Men")), (43, 2, 0, .int)], [], [], [], [], [(39, 3, zFV 3 3 (zGoes mX3_isBetter 3 3)), (48, 3, zFV 3 3 (zGoes mX3_becomeBest 0 3)), (52, 2, zFV 3 2 (zGoes mX3_aboveLegAt 1 2)), (56, 2, zFV 3 2 (zGoes mX3_apartInwardOf 1 2))], [(35, 5, zFr 5 (zGoes (mX3_fillFrom d) 0 6))])
theorem kX3_fillFrom : zchkL cX3_fillFrom 0 iX3_fillFrom = true := by decide +kernel
set_option maxRecDepth 20000 in
theorem gX3_fillFrom (d : Nat) : zGood (mX3_fillFrom d) cX3_fillFrom yX3_fillFrom.cls (zwd yX3_fillFrom cX3_fillFrom 6 (zret 0)) := by
  cases d <;> exact ⟨fun pc x h => by
    have h1 := zchkL_at kX3_fillFrom pc x h
    rw [Nat.zero_add] at h1
    exact h1, zlookF (fin := false) [(9, 3, 1, (.array .int)), (18, 3, 0, (.object "RankWheels$Men")), (43, 2, 0, .int)] (List.forall_mem_cons.mpr ⟨⟨(RX3, TX3, 6), rfl, by decide, List.mem_cons_of_mem _ zw233, fun w h => List.mem_cons_of_mem _ (zX3 w h), by decide +kernel, fun h => by cases h⟩, List.forall_mem_cons.mpr ⟨⟨(RX3, TX3, 6), rfl, by decide, List.mem_cons_of_mem _ zw232, fun w h => List.mem_cons_of_mem _ (zX3 w h), by decide +kernel, fun h => by cases h⟩, List.forall_mem_cons.mpr ⟨⟨(RX2, TX2, 3), rfl, by decide, List.mem_cons_of_mem _ zw81, fun w h => List.mem_cons_of_mem _ (zX2 w h), by decide +kernel, fun h => by cases h⟩, fun _ h => absurd h List.not_mem_nil⟩⟩⟩), zlookF (fin := true) [] (fun _ h => absurd h List.not_mem_nil), zlookup (β := Int32) (L := []) (P := fun ix b => Jvm.Cond.constant yX3_fillFrom.cls ix b ∈ (zwd yX3_fillFrom cX3_fillFrom 6 (zret 0))) (fun _ h => absurd h List.not_mem_nil), zlookup (β := Int64) (L := []) (P := fun ix b => Jvm.Cond.constantLong yX3_fillFrom.cls ix b ∈ (zwd yX3_fillFrom cX3_fillFrom 6 (zret 0))) (fun _ h => absurd h List.not_mem_nil), zlookup (β := Nat) (L := []) (P := fun ix b => zmok yX3_fillFrom.cls (zwd yX3_fillFrom cX3_fillFrom 6 (zret 0)) ix b) (fun _ h => absurd h List.not_mem_nil)⟩
set_option maxRecDepth 20000 in
set_option maxHeartbeats 4000000 in
theorem sX3_fillFrom (l : Launch) : ∀ (d : Nat) (as : List Value) (ws : zW) (K : zP), zFr 5 (zGoes (mX3_fillFrom d) 0 6) as ws K → zMet l yX3_fillFrom (zwd yX3_fillFrom cX3_fillFrom 6 (zret 0)) { frames := 3 + d, cells := 0, slots := 0, locals := 200 * (3 + d) } 0 as ws K
  | 0 => zFr_met (by decide +kernel) ⟨by show 1 ≤ _; simp only []; omega, by show 150 ≤ _; simp only []; omega⟩ (by decide) (gX3_fillFrom 0) (fun p e s m args below meth c D cy ad A n0 Q S hKK hA => ⟨fun ix n G h => zlookup (β := Nat × zG) (L := [(39, 3, zFV 3 3 (zGoes mX3_isBetter 3 3)), (48, 3, zFV 3 3 (zGoes mX3_becomeBest 0 3)), (52, 2, zFV 3 2 (zGoes mX3_aboveLegAt 1 2)), (56, 2, zFV 3 2 (zGoes mX3_apartInwardOf 1 2))]) (P := fun ix b => zCO p l e { frames := 3 + 0, cells := 0, slots := 0, locals := 200 * (3 + 0) } s m args below meth c cX3_fillFrom 6 D cy ad A n0 0 0 Q (.invokevirtual ix) b.1 b.2) (List.forall_mem_cons.mpr ⟨zco_V (ci := 3) S hKK hA ⟨Nat.zero_le _, Nat.zero_le _⟩ (cwV 2 S.2.2.2.2 (zgoodV zw564 zw566 zw18 zw55 zw567) rfl rfl rfl (by decide +kernel) ⟨by show _ ≤ _; simp only []; omega, by show _ ≤ _; simp only []; omega⟩) rfl rfl (sX3_isBetter l), List.forall_mem_cons.mpr ⟨zco_V (ci := 3) S hKK hA ⟨Nat.zero_le _, Nat.zero_le _⟩ (cwV 2 S.2.2.2.2 (zgoodV zw568 zw570 zw19 zw55 zw571) rfl rfl rfl (by decide +kernel) ⟨by show _ ≤ _; simp only []; omega, by show _ ≤ _; simp only []; omega⟩) rfl rfl (sX3_becomeBest l), List.forall_mem_cons.mpr ⟨zco_V (ci := 3) S hKK hA ⟨Nat.zero_le _, Nat.zero_le _⟩ (cwV 1 S.2.2.2.2 (zgoodV zw573 zw575 zw20 zw55 zw576) rfl rfl rfl (by decide +kernel) ⟨by show _ ≤ _; simp only []; omega, by show _ ≤ _; simp only []; omega⟩) rfl rfl (sX3_aboveLegAt l), List.forall_mem_cons.mpr ⟨zco_V (ci := 3) S hKK hA ⟨Nat.zero_le _, Nat.zero_le _⟩ (cwV 1 S.2.2.2.2 (zgoodV zw579 zw581 zw21 zw55 zw582) rfl rfl rfl (by decide +kernel) ⟨by show _ ≤ _; simp only []; omega, by show _ ≤ _; simp only []; omega⟩) rfl rfl (sX3_apartInwardOf l), fun _ h => absurd h List.not_mem_nil⟩⟩⟩⟩) ix (n, G) h, fun ix n G h => zlookup (β := Nat × zG) (L := [(35, 5, fun _ _ _ => False)]) (P := fun ix b => zCO p l e { frames := 3 + 0, cells := 0, slots := 0, locals := 200 * (3 + 0) } s m args below meth c cX3_fillFrom 6 D cy ad A n0 0 0 Q (.invokestatic ix) b.1 b.2) (List.forall_mem_cons.mpr ⟨fun _ _ _ _ _ _ h => h.elim, fun _ h => absurd h List.not_mem_nil⟩) ix (n, G) h⟩) (by decide)
  | d + 1 => zFr_met (by decide +kernel) ⟨by show 1 ≤ _; simp only []; omega, by show 150 ≤ _; simp only []; omega⟩ (by decide) (gX3_fillFrom (d + 1)) (fun p e s m args below meth c D cy ad A n0 Q S hKK hA => ⟨fun ix n G h => zlookup (β := Nat × zG) (L := [(39, 3, zFV 3 3 (zGoes mX3_isBetter 3 3)), (48, 3, zFV 3 3 (zGoes mX3_becomeBest 0 3)), (52, 2, zFV 3 2 (zGoes mX3_aboveLegAt 1 2)), (56, 2, zFV 3 2 (zGoes mX3_apartInwardOf 1 2))]) (P := fun ix b => zCO p l e { frames := 3 + (d + 1), cells := 0, slots := 0, locals := 200 * (3 + (d + 1)) } s m args below meth c cX3_fillFrom 6 D cy ad A n0 0 0 Q (.invokevirtual ix) b.1 b.2) (List.forall_mem_cons.mpr ⟨zco_V (ci := 3) S hKK hA ⟨Nat.zero_le _, Nat.zero_le _⟩ (cwV 2 S.2.2.2.2 (zgoodV zw564 zw566 zw18 zw55 zw567) rfl rfl rfl (by decide +kernel) ⟨by show _ ≤ _; simp only []; omega, by show _ ≤ _; simp only []; omega⟩) rfl rfl (sX3_isBetter l), List.forall_mem_cons.mpr ⟨zco_V (ci := 3) S hKK hA ⟨Nat.zero_le _, Nat.zero_le _⟩ (cwV 2 S.2.2.2.2 (zgoodV zw568 zw570 zw19 zw55 zw571) rfl rfl rfl (by decide +kernel) ⟨by show _ ≤ _; simp only []; omega, by show _ ≤ _; simp only []; omega⟩) rfl rfl (sX3_becomeBest l), List.forall_mem_cons.mpr ⟨zco_V (ci := 3) S hKK hA ⟨Nat.zero_le _, Nat.zero_le _⟩ (cwV 1 S.2.2.2.2 (zgoodV zw573 zw575 zw20 zw55 zw576) rfl rfl rfl (by decide +kernel) ⟨by show _ ≤ _; simp only []; omega, by show _ ≤ _; simp only []; omega⟩) rfl rfl (sX3_aboveLegAt l), List.forall_mem_cons.mpr ⟨zco_V (ci := 3) S hKK hA ⟨Nat.zero_le _, Nat.zero_le _⟩ (cwV 1 S.2.2.2.2 (zgoodV zw579 zw581 zw21 zw55 zw582) rfl rfl rfl (by decide +kernel) ⟨by show _ ≤ _; simp only []; omega, by show _ ≤ _; simp only []; omega⟩) rfl rfl (sX3_apartInwardOf l), fun _ h => absurd h List.not_mem_nil⟩⟩⟩⟩) ix (n, G) h, fun ix n G h => zlookup (β := Nat × zG) (L := [(35, 5, zFr 5 (zGoes (mX3_fillFrom d) 0 6))]) (P := fun ix b => zCO p l e { frames := 3 + (d + 1), cells := 0, slots := 0, locals := 200 * (3 + (d + 1)) } s m args below meth c cX3_fillFrom 6 D cy ad A n0 0 0 Q (.invokestatic ix) b.1 b.2) (List.forall_mem_cons.mpr ⟨zco_S S hKK hA ⟨Nat.zero_le _, Nat.zero_le _⟩ (va_cwS 5 S.2.2.2.2 (zgoodS zw561 zw562 zw55 zw563) rfl rfl rfl (by decide +kernel) ⟨by show _ ≤ _; simp only []; omega, by show _ ≤ _; simp only []; omega⟩) (sX3_fillFrom l d), fun _ h => absurd h List.not_mem_nil⟩) ix (n, G) h⟩) (by decide)
def iX3_arrange : List (Option zI) := [some (.aload_n 0, 0, 1, []), some (.iload_n 1, 0, 2, []), some (.putfield 22, 0, 5, []), none, none, some (.aload_n 0, 0, 6, []), some (.ldc 28, 0, 8, []), none, some (.putfield 29, 0, 11, []), none, none, some (.aload_n 0, 0, 12, []), some (.ldc 28, 0, 14, []), none, some (.putfield 32, 0, 17, []), none, none, some (.aload_n 0, 0, 18, []), some (.iconst 0, 0, 19, []), some (.iconst 0, 0, 20, []), some (.iconst 0, 0, 21, []), some (.iconst 0, 0, 22, []), some (.invokestatic 35, 0, 25, []), none, none, some (.return_, 0, 26, [])]
def mX3_arrange : zM := (iX3_arrange, [], [(22, 3, 2, .int), (29, 3, 4, .int), (32, 3, 5, .int)], [(28, 2147483647)], [], [], [], [(35, 5, zFr 5 (zGoes (mX3_fillFrom 9) 0 6))])
theorem kX3_arrange : zchkL cX3_arrange 0 iX3_arrange = true := by decide +kernel
set_option maxRecDepth 20000 in
theorem gX3_arrange : zGood mX3_arrange cX3_arrange yX3_arrange.cls (zwd yX3_arrange cX3_arrange 2 (zret 0)) := ⟨fun pc x h => by
    have h1 := zchkL_at kX3_arrange pc x h
    rw [Nat.zero_add] at h1
    exact h1, zlookF (fin := false) [] (fun _ h => absurd h List.not_mem_nil), zlookF (fin := true) [(22, 3, 2, .int), (29, 3, 4, .int), (32, 3, 5, .int)] (List.forall_mem_cons.mpr ⟨⟨(RX3, TX3, 6), rfl, by decide, List.mem_cons_of_mem _ zw234, fun w h => List.mem_cons_of_mem _ (zX3 w h), by decide +kernel, fun _ => rfl⟩, List.forall_mem_cons.mpr ⟨⟨(RX3, TX3, 6), rfl, by decide, List.mem_cons_of_mem _ zw237, fun w h => List.mem_cons_of_mem _ (zX3 w h), by decide +kernel, fun _ => rfl⟩, List.forall_mem_cons.mpr ⟨⟨(RX3, TX3, 6), rfl, by decide, List.mem_cons_of_mem _ zw239, fun w h => List.mem_cons_of_mem _ (zX3 w h), by decide +kernel, fun _ => rfl⟩, fun _ h => absurd h List.not_mem_nil⟩⟩⟩), zlookup (β := Int32) (L := [(28, 2147483647)]) (P := fun ix b => Jvm.Cond.constant yX3_arrange.cls ix b ∈ (zwd yX3_arrange cX3_arrange 2 (zret 0))) (List.forall_mem_cons.mpr ⟨List.mem_cons_of_mem _ zw560, fun _ h => absurd h List.not_mem_nil⟩), zlookup (β := Int64) (L := []) (P := fun ix b => Jvm.Cond.constantLong yX3_arrange.cls ix b ∈ (zwd yX3_arrange cX3_arrange 2 (zret 0))) (fun _ h => absurd h List.not_mem_nil), zlookup (β := Nat) (L := []) (P := fun ix b => zmok yX3_arrange.cls (zwd yX3_arrange cX3_arrange 2 (zret 0)) ix b) (fun _ h => absurd h List.not_mem_nil)⟩
set_option maxRecDepth 20000 in
theorem sX3_arrange (l : Launch) : ∀ (as : List Value) (ws : zW) (K : zP), zFr 2 (zGoes mX3_arrange 0 2) as ws K → zMet l yX3_arrange (zwd yX3_arrange cX3_arrange 2 (zret 0)) { frames := 13, cells := 0, slots := 0, locals := 2600 } 0 as ws K := zFr_met (by decide +kernel) (by decide) (by decide) gX3_arrange (fun p e s m args below meth c D cy ad A n0 Q S hKK hA => ⟨fun ix n G h => zlookup (β := Nat × zG) (L := []) (P := fun ix b => zCO p l e { frames := 13, cells := 0, slots := 0, locals := 2600 } s m args below meth c cX3_arrange 2 D cy ad A n0 0 0 Q (.invokevirtual ix) b.1 b.2) (fun _ h => absurd h List.not_mem_nil) ix (n, G) h, fun ix n G h => zlookup (β := Nat × zG) (L := [(35, 5, zFr 5 (zGoes (mX3_fillFrom 9) 0 6))]) (P := fun ix b => zCO p l e { frames := 13, cells := 0, slots := 0, locals := 2600 } s m args below meth c cX3_arrange 2 D cy ad A n0 0 0 Q (.invokestatic ix) b.1 b.2) (List.forall_mem_cons.mpr ⟨zco_S S hKK hA ⟨Nat.zero_le _, Nat.zero_le _⟩ (va_cwS 5 S.2.2.2.2 (zgoodS zw561 zw562 zw55 zw563) rfl rfl rfl (by decide +kernel) (by decide +kernel)) (sX3_fillFrom l 9), fun _ h => absurd h List.not_mem_nil⟩) ix (n, G) h⟩) (by decide)
def iX4_loseOldest : List (Option zI) := [some (.aload_n 0, 0, 1, []), some (.getfield 11, 0, 4, []), none, none, some (.iconst 0, 0, 5, []), some (.aaload, 0, 6, []), some (.astore_n 1, 0, 7, []), some (.iconst 0, 0, 8, []), some (.istore_n 2, 0, 9, []), some (.iload_n 2, 0, 10, []), some (.iconst 1, 1, 11, []), some (.iadd, 0, 12, []), some (.bipush 10, 10, 14, []), none, some (.if_icmp .ge 23, 0, 17, [37]), none, none, some (.aload_n 0, 0, 18, []), some (.getfield 11, 0, 21, []), none, none, some (.iload_n 2, 0, 22, []), some (.aload_n 0, 0, 23, []), some (.getfield 11, 0, 26, []), none, none, some (.iload_n 2, 0, 27, []), some (.iconst 1, 1, 28, []), some (.iadd, 0, 29, []), some (.aaload, 0, 30, []), some (.aastore, 0, 31, []), some (.iinc 2 1, 1, 34, []), none, none, some (.goto (-25), 0, 37, [9]), none, none, some (.aload_n 0, 0, 38, []), some (.getfield 11, 0, 41, []), none, none, some (.bipush 9, 9, 43, []), none, some (.aload_n 1, 0, 44, []), some (.aastore, 0, 45, []), some (.aload_n 0, 0, 46, []), some (.bipush 9, 9, 48, []), none, some (.putfield 20, 0, 51, []), none, none, some (.return_, 0, 52, [])]
def mX4_loseOldest : zM := (iX4_loseOldest, [(11, 4, 0, (.array (.object "RankWheels$Line")))], [(20, 4, 1, .int)], [], [], [], [], [])
theorem kX4_loseOldest : zchkL cX4_loseOldest 0 iX4_loseOldest = true := by decide +kernel
set_option maxRecDepth 20000 in
theorem gX4_loseOldest : zGood mX4_loseOldest cX4_loseOldest yX4_loseOldest.cls (zwd yX4_loseOldest cX4_loseOldest 3 (zret 0)) := ⟨fun pc x h => by
    have h1 := zchkL_at kX4_loseOldest pc x h
    rw [Nat.zero_add] at h1
    exact h1, zlookF (fin := false) [(11, 4, 0, (.array (.object "RankWheels$Line")))] (List.forall_mem_cons.mpr ⟨⟨(RX4, TX4, 2), rfl, by decide, List.mem_cons_of_mem _ zw196, fun w h => List.mem_cons_of_mem _ (zX4 w h), by decide +kernel, fun h => by cases h⟩, fun _ h => absurd h List.not_mem_nil⟩), zlookF (fin := true) [(20, 4, 1, .int)] (List.forall_mem_cons.mpr ⟨⟨(RX4, TX4, 2), rfl, by decide, List.mem_cons_of_mem _ zw197, fun w h => List.mem_cons_of_mem _ (zX4 w h), by decide +kernel, fun _ => rfl⟩, fun _ h => absurd h List.not_mem_nil⟩), zlookup (β := Int32) (L := []) (P := fun ix b => Jvm.Cond.constant yX4_loseOldest.cls ix b ∈ (zwd yX4_loseOldest cX4_loseOldest 3 (zret 0))) (fun _ h => absurd h List.not_mem_nil), zlookup (β := Int64) (L := []) (P := fun ix b => Jvm.Cond.constantLong yX4_loseOldest.cls ix b ∈ (zwd yX4_loseOldest cX4_loseOldest 3 (zret 0))) (fun _ h => absurd h List.not_mem_nil), zlookup (β := Nat) (L := []) (P := fun ix b => zmok yX4_loseOldest.cls (zwd yX4_loseOldest cX4_loseOldest 3 (zret 0)) ix b) (fun _ h => absurd h List.not_mem_nil)⟩
set_option maxRecDepth 20000 in
theorem sX4_loseOldest (l : Launch) : ∀ (as : List Value) (ws : zW) (K : zP), zFr 1 (zGoes mX4_loseOldest 0 3) as ws K → zMet l yX4_loseOldest (zwd yX4_loseOldest cX4_loseOldest 3 (zret 0)) { frames := 1, cells := 0, slots := 0, locals := 200 } 0 as ws K := zFr_met (by decide +kernel) (by decide) (by decide) gX4_loseOldest (fun p e s m args below meth c D cy ad A n0 Q S hKK hA => ⟨fun ix n G h => zlookup (β := Nat × zG) (L := []) (P := fun ix b => zCO p l e { frames := 1, cells := 0, slots := 0, locals := 200 } s m args below meth c cX4_loseOldest 3 D cy ad A n0 0 0 Q (.invokevirtual ix) b.1 b.2) (fun _ h => absurd h List.not_mem_nil) ix (n, G) h, fun ix n G h => zlookup (β := Nat × zG) (L := []) (P := fun ix b => zCO p l e { frames := 1, cells := 0, slots := 0, locals := 200 } s m args below meth c cX4_loseOldest 3 D cy ad A n0 0 0 Q (.invokestatic ix) b.1 b.2) (fun _ h => absurd h List.not_mem_nil) ix (n, G) h⟩) (by decide)
def iX4_remember : List (Option zI) := [some (.aload_n 0, 0, 1, []), some (.getfield 20, 0, 4, []), none, none, some (.bipush 10, 10, 6, []), none, some (.if_icmp .lt 7, 0, 9, [13]), none, none, some (.aload_n 0, 0, 10, []), some (.invokevirtual 24, 0, 13, []), none, none, some (.aload_n 0, 0, 14, []), some (.getfield 11, 0, 17, []), none, none, some (.aload_n 0, 0, 18, []), some (.getfield 20, 0, 21, []), none, none, some (.aaload, 0, 22, []), some (.aload_n 1, 0, 23, []), some (.invokevirtual 27, 0, 26, []), none, none, some (.aload_n 0, 0, 27, []), some (.dup, 0, 28, []), some (.getfield 20, 0, 31, []), none, none, some (.iconst 1, 1, 32, []), some (.iadd, 0, 33, []), some (.putfield 20, 0, 36, []), none, none, some (.return_, 0, 37, [])]
def mX4_remember : zM := (iX4_remember, [(11, 4, 0, (.array (.object "RankWheels$Line"))), (20, 4, 1, .int)], [(20, 4, 1, .int)], [], [], [], [(24, 1, zFV 4 1 (zGoes mX4_loseOldest 0 3)), (27, 2, zFV 1 2 (zGoes mX1_copyFrom 0 2))], [])
theorem kX4_remember : zchkL cX4_remember 0 iX4_remember = true := by decide +kernel
set_option maxRecDepth 20000 in
theorem gX4_remember : zGood mX4_remember cX4_remember yX4_remember.cls (zwd yX4_remember cX4_remember 2 (zret 0)) := ⟨fun pc x h => by
    have h1 := zchkL_at kX4_remember pc x h
    rw [Nat.zero_add] at h1
    exact h1, zlookF (fin := false) [(11, 4, 0, (.array (.object "RankWheels$Line"))), (20, 4, 1, .int)] (List.forall_mem_cons.mpr ⟨⟨(RX4, TX4, 2), rfl, by decide, List.mem_cons_of_mem _ zw196, fun w h => List.mem_cons_of_mem _ (zX4 w h), by decide +kernel, fun h => by cases h⟩, List.forall_mem_cons.mpr ⟨⟨(RX4, TX4, 2), rfl, by decide, List.mem_cons_of_mem _ zw197, fun w h => List.mem_cons_of_mem _ (zX4 w h), by decide +kernel, fun h => by cases h⟩, fun _ h => absurd h List.not_mem_nil⟩⟩), zlookF (fin := true) [(20, 4, 1, .int)] (List.forall_mem_cons.mpr ⟨⟨(RX4, TX4, 2), rfl, by decide, List.mem_cons_of_mem _ zw197, fun w h => List.mem_cons_of_mem _ (zX4 w h), by decide +kernel, fun _ => rfl⟩, fun _ h => absurd h List.not_mem_nil⟩), zlookup (β := Int32) (L := []) (P := fun ix b => Jvm.Cond.constant yX4_remember.cls ix b ∈ (zwd yX4_remember cX4_remember 2 (zret 0))) (fun _ h => absurd h List.not_mem_nil), zlookup (β := Int64) (L := []) (P := fun ix b => Jvm.Cond.constantLong yX4_remember.cls ix b ∈ (zwd yX4_remember cX4_remember 2 (zret 0))) (fun _ h => absurd h List.not_mem_nil), zlookup (β := Nat) (L := []) (P := fun ix b => zmok yX4_remember.cls (zwd yX4_remember cX4_remember 2 (zret 0)) ix b) (fun _ h => absurd h List.not_mem_nil)⟩
set_option maxRecDepth 20000 in
theorem sX4_remember (l : Launch) : ∀ (as : List Value) (ws : zW) (K : zP), zFr 2 (zGoes mX4_remember 0 2) as ws K → zMet l yX4_remember (zwd yX4_remember cX4_remember 2 (zret 0)) { frames := 2, cells := 0, slots := 0, locals := 400 } 0 as ws K := zFr_met (by decide +kernel) (by decide) (by decide) gX4_remember (fun p e s m args below meth c D cy ad A n0 Q S hKK hA => ⟨fun ix n G h => zlookup (β := Nat × zG) (L := [(24, 1, zFV 4 1 (zGoes mX4_loseOldest 0 3)), (27, 2, zFV 1 2 (zGoes mX1_copyFrom 0 2))]) (P := fun ix b => zCO p l e { frames := 2, cells := 0, slots := 0, locals := 400 } s m args below meth c cX4_remember 2 D cy ad A n0 0 0 Q (.invokevirtual ix) b.1 b.2) (List.forall_mem_cons.mpr ⟨zco_V (ci := 4) S hKK hA ⟨Nat.zero_le _, Nat.zero_le _⟩ (cwV 0 S.2.2.2.2 (zgoodV zw424 zw426 zw10 zw53 zw427) rfl rfl rfl (by decide +kernel) (by decide +kernel)) rfl rfl (sX4_loseOldest l), List.forall_mem_cons.mpr ⟨zco_V (ci := 1) S hKK hA ⟨Nat.zero_le _, Nat.zero_le _⟩ (cwV 1 S.2.2.2.2 (zgoodV zw428 zw429 zw430 zw52 zw431) rfl rfl rfl (by decide +kernel) (by decide +kernel)) rfl rfl (sX1_copyFrom l), fun _ h => absurd h List.not_mem_nil⟩⟩) ix (n, G) h, fun ix n G h => zlookup (β := Nat × zG) (L := []) (P := fun ix b => zCO p l e { frames := 2, cells := 0, slots := 0, locals := 400 } s m args below meth c cX4_remember 2 D cy ad A n0 0 0 Q (.invokestatic ix) b.1 b.2) (fun _ h => absurd h List.not_mem_nil) ix (n, G) h⟩) (by decide)
def iX4_takeBack : List (Option zI) := [some (.aload_n 0, 0, 1, []), some (.getfield 20, 0, 4, []), none, none, some (.ifCond .le 26, 0, 7, [30]), none, none, some (.aload_n 0, 0, 8, []), some (.dup, 0, 9, []), some (.getfield 20, 0, 12, []), none, none, some (.iconst 1, 1, 13, []), some (.isub, 0, 14, []), some (.putfield 20, 0, 17, []), none, none, some (.aload_n 1, 0, 18, []), some (.aload_n 0, 0, 19, []), some (.getfield 11, 0, 22, []), none, none, some (.aload_n 0, 0, 23, []), some (.getfield 20, 0, 26, []), none, none, some (.aaload, 0, 27, []), some (.invokevirtual 27, 0, 30, []), none, none, some (.return_, 0, 31, [])]
def mX4_takeBack : zM := (iX4_takeBack, [(11, 4, 0, (.array (.object "RankWheels$Line"))), (20, 4, 1, .int)], [(20, 4, 1, .int)], [], [], [], [(27, 2, zFV 1 2 (zGoes mX1_copyFrom 0 2))], [])
theorem kX4_takeBack : zchkL cX4_takeBack 0 iX4_takeBack = true := by decide +kernel
set_option maxRecDepth 20000 in
theorem gX4_takeBack : zGood mX4_takeBack cX4_takeBack yX4_takeBack.cls (zwd yX4_takeBack cX4_takeBack 2 (zret 0)) := ⟨fun pc x h => by
    have h1 := zchkL_at kX4_takeBack pc x h
    rw [Nat.zero_add] at h1
    exact h1, zlookF (fin := false) [(11, 4, 0, (.array (.object "RankWheels$Line"))), (20, 4, 1, .int)] (List.forall_mem_cons.mpr ⟨⟨(RX4, TX4, 2), rfl, by decide, List.mem_cons_of_mem _ zw196, fun w h => List.mem_cons_of_mem _ (zX4 w h), by decide +kernel, fun h => by cases h⟩, List.forall_mem_cons.mpr ⟨⟨(RX4, TX4, 2), rfl, by decide, List.mem_cons_of_mem _ zw197, fun w h => List.mem_cons_of_mem _ (zX4 w h), by decide +kernel, fun h => by cases h⟩, fun _ h => absurd h List.not_mem_nil⟩⟩), zlookF (fin := true) [(20, 4, 1, .int)] (List.forall_mem_cons.mpr ⟨⟨(RX4, TX4, 2), rfl, by decide, List.mem_cons_of_mem _ zw197, fun w h => List.mem_cons_of_mem _ (zX4 w h), by decide +kernel, fun _ => rfl⟩, fun _ h => absurd h List.not_mem_nil⟩), zlookup (β := Int32) (L := []) (P := fun ix b => Jvm.Cond.constant yX4_takeBack.cls ix b ∈ (zwd yX4_takeBack cX4_takeBack 2 (zret 0))) (fun _ h => absurd h List.not_mem_nil), zlookup (β := Int64) (L := []) (P := fun ix b => Jvm.Cond.constantLong yX4_takeBack.cls ix b ∈ (zwd yX4_takeBack cX4_takeBack 2 (zret 0))) (fun _ h => absurd h List.not_mem_nil), zlookup (β := Nat) (L := []) (P := fun ix b => zmok yX4_takeBack.cls (zwd yX4_takeBack cX4_takeBack 2 (zret 0)) ix b) (fun _ h => absurd h List.not_mem_nil)⟩
set_option maxRecDepth 20000 in
theorem sX4_takeBack (l : Launch) : ∀ (as : List Value) (ws : zW) (K : zP), zFr 2 (zGoes mX4_takeBack 0 2) as ws K → zMet l yX4_takeBack (zwd yX4_takeBack cX4_takeBack 2 (zret 0)) { frames := 2, cells := 0, slots := 0, locals := 400 } 0 as ws K := zFr_met (by decide +kernel) (by decide) (by decide) gX4_takeBack (fun p e s m args below meth c D cy ad A n0 Q S hKK hA => ⟨fun ix n G h => zlookup (β := Nat × zG) (L := [(27, 2, zFV 1 2 (zGoes mX1_copyFrom 0 2))]) (P := fun ix b => zCO p l e { frames := 2, cells := 0, slots := 0, locals := 400 } s m args below meth c cX4_takeBack 2 D cy ad A n0 0 0 Q (.invokevirtual ix) b.1 b.2) (List.forall_mem_cons.mpr ⟨zco_V (ci := 1) S hKK hA ⟨Nat.zero_le _, Nat.zero_le _⟩ (cwV 1 S.2.2.2.2 (zgoodV zw428 zw429 zw430 zw52 zw431) rfl rfl rfl (by decide +kernel) (by decide +kernel)) rfl rfl (sX1_copyFrom l), fun _ h => absurd h List.not_mem_nil⟩) ix (n, G) h, fun ix n G h => zlookup (β := Nat × zG) (L := []) (P := fun ix b => zCO p l e { frames := 2, cells := 0, slots := 0, locals := 400 } s m args below meth c cX4_takeBack 2 D cy ad A n0 0 0 Q (.invokestatic ix) b.1 b.2) (fun _ h => absurd h List.not_mem_nil) ix (n, G) h⟩) (by decide)
def iX4_copyFrom : List (Option zI) := [some (.aload_n 0, 0, 1, []), some (.aload_n 1, 0, 2, []), some (.getfield 20, 0, 5, []), none, none, some (.putfield 20, 0, 8, []), none, none, some (.iconst 0, 0, 9, []), some (.istore_n 2, 0, 10, []), some (.iload_n 2, 0, 11, []), some (.aload_n 0, 0, 12, []), some (.getfield 20, 0, 15, []), none, none, some (.if_icmp .ge 24, 0, 18, [39]), none, none, some (.aload_n 0, 0, 19, []), some (.getfield 11, 0, 22, []), none, none, some (.iload_n 2, 0, 23, []), some (.aaload, 0, 24, []), some (.aload_n 1, 0, 25, []), some (.getfield 11, 0, 28, []), none, none, some (.iload_n 2, 0, 29, []), some (.aaload, 0, 30, []), some (.invokevirtual 27, 0, 33, []), none, none, some (.iinc 2 1, 1, 36, []), none, none, some (.goto (-26), 0, 39, [10]), none, none, some (.return_, 0, 40, [])]
def mX4_copyFrom : zM := (iX4_copyFrom, [(11, 4, 0, (.array (.object "RankWheels$Line"))), (20, 4, 1, .int)], [(20, 4, 1, .int)], [], [], [], [(27, 2, zFV 1 2 (zGoes mX1_copyFrom 0 2))], [])
theorem kX4_copyFrom : zchkL cX4_copyFrom 0 iX4_copyFrom = true := by decide +kernel
set_option maxRecDepth 20000 in
theorem gX4_copyFrom : zGood mX4_copyFrom cX4_copyFrom yX4_copyFrom.cls (zwd yX4_copyFrom cX4_copyFrom 3 (zret 0)) := ⟨fun pc x h => by
    have h1 := zchkL_at kX4_copyFrom pc x h
    rw [Nat.zero_add] at h1
    exact h1, zlookF (fin := false) [(11, 4, 0, (.array (.object "RankWheels$Line"))), (20, 4, 1, .int)] (List.forall_mem_cons.mpr ⟨⟨(RX4, TX4, 2), rfl, by decide, List.mem_cons_of_mem _ zw196, fun w h => List.mem_cons_of_mem _ (zX4 w h), by decide +kernel, fun h => by cases h⟩, List.forall_mem_cons.mpr ⟨⟨(RX4, TX4, 2), rfl, by decide, List.mem_cons_of_mem _ zw197, fun w h => List.mem_cons_of_mem _ (zX4 w h), by decide +kernel, fun h => by cases h⟩, fun _ h => absurd h List.not_mem_nil⟩⟩), zlookF (fin := true) [(20, 4, 1, .int)] (List.forall_mem_cons.mpr ⟨⟨(RX4, TX4, 2), rfl, by decide, List.mem_cons_of_mem _ zw197, fun w h => List.mem_cons_of_mem _ (zX4 w h), by decide +kernel, fun _ => rfl⟩, fun _ h => absurd h List.not_mem_nil⟩), zlookup (β := Int32) (L := []) (P := fun ix b => Jvm.Cond.constant yX4_copyFrom.cls ix b ∈ (zwd yX4_copyFrom cX4_copyFrom 3 (zret 0))) (fun _ h => absurd h List.not_mem_nil), zlookup (β := Int64) (L := []) (P := fun ix b => Jvm.Cond.constantLong yX4_copyFrom.cls ix b ∈ (zwd yX4_copyFrom cX4_copyFrom 3 (zret 0))) (fun _ h => absurd h List.not_mem_nil), zlookup (β := Nat) (L := []) (P := fun ix b => zmok yX4_copyFrom.cls (zwd yX4_copyFrom cX4_copyFrom 3 (zret 0)) ix b) (fun _ h => absurd h List.not_mem_nil)⟩
set_option maxRecDepth 20000 in
theorem sX4_copyFrom (l : Launch) : ∀ (as : List Value) (ws : zW) (K : zP), zFr 2 (zGoes mX4_copyFrom 0 3) as ws K → zMet l yX4_copyFrom (zwd yX4_copyFrom cX4_copyFrom 3 (zret 0)) { frames := 2, cells := 0, slots := 0, locals := 400 } 0 as ws K := zFr_met (by decide +kernel) (by decide) (by decide) gX4_copyFrom (fun p e s m args below meth c D cy ad A n0 Q S hKK hA => ⟨fun ix n G h => zlookup (β := Nat × zG) (L := [(27, 2, zFV 1 2 (zGoes mX1_copyFrom 0 2))]) (P := fun ix b => zCO p l e { frames := 2, cells := 0, slots := 0, locals := 400 } s m args below meth c cX4_copyFrom 3 D cy ad A n0 0 0 Q (.invokevirtual ix) b.1 b.2) (List.forall_mem_cons.mpr ⟨zco_V (ci := 1) S hKK hA ⟨Nat.zero_le _, Nat.zero_le _⟩ (cwV 1 S.2.2.2.2 (zgoodV zw428 zw429 zw430 zw52 zw431) rfl rfl rfl (by decide +kernel) (by decide +kernel)) rfl rfl (sX1_copyFrom l), fun _ h => absurd h List.not_mem_nil⟩) ix (n, G) h, fun ix n G h => zlookup (β := Nat × zG) (L := []) (P := fun ix b => zCO p l e { frames := 2, cells := 0, slots := 0, locals := 400 } s m args below meth c cX4_copyFrom 3 D cy ad A n0 0 0 Q (.invokestatic ix) b.1 b.2) (fun _ h => absurd h List.not_mem_nil) ix (n, G) h⟩) (by decide)
def iX5_note : List (Option zI) := [some (.aload_n 0, 0, 1, []), some (.getfield 21, 0, 4, []), none, none, some (.bipush 6, 6, 6, []), none, some (.if_icmp .ge 43, 0, 9, [49]), none, none, some (.aload_n 0, 0, 10, []), some (.getfield 9, 0, 13, []), none, none, some (.aload_n 0, 0, 14, []), some (.getfield 21, 0, 17, []), none, none, some (.iload_n 1, 0, 18, []), some (.iastore, 0, 19, []), some (.aload_n 0, 0, 20, []), some (.getfield 15, 0, 23, []), none, none, some (.aload_n 0, 0, 24, []), some (.getfield 21, 0, 27, []), none, none, some (.iload_n 2, 0, 28, []), some (.iastore, 0, 29, []), some (.aload_n 0, 0, 30, []), some (.getfield 18, 0, 33, []), none, none, some (.aload_n 0, 0, 34, []), some (.getfield 21, 0, 37, []), none, none, some (.iload_n 3, 0, 38, []), some (.iastore, 0, 39, []), some (.aload_n 0, 0, 40, []), some (.dup, 0, 41, []), some (.getfield 21, 0, 44, []), none, none, some (.iconst 1, 1, 45, []), some (.iadd, 0, 46, []), some (.putfield 21, 0, 49, []), none, none, some (.return_, 0, 50, [])]
def mX5_note : zM := (iX5_note, [(9, 5, 1, (.array .int)), (15, 5, 2, (.array .int)), (18, 5, 3, (.array .int)), (21, 5, 0, .int)], [(21, 5, 0, .int)], [], [], [], [], [])
theorem kX5_note : zchkL cX5_note 0 iX5_note = true := by decide +kernel
set_option maxRecDepth 20000 in
theorem gX5_note : zGood mX5_note cX5_note yX5_note.cls (zwd yX5_note cX5_note 4 (zret 0)) := ⟨fun pc x h => by
    have h1 := zchkL_at kX5_note pc x h
    rw [Nat.zero_add] at h1
    exact h1, zlookF (fin := false) [(9, 5, 1, (.array .int)), (15, 5, 2, (.array .int)), (18, 5, 3, (.array .int)), (21, 5, 0, .int)] (List.forall_mem_cons.mpr ⟨⟨(RX5, TX5, 4), rfl, by decide, List.mem_cons_of_mem _ zw214, fun w h => List.mem_cons_of_mem _ (zX5 w h), by decide +kernel, fun h => by cases h⟩, List.forall_mem_cons.mpr ⟨⟨(RX5, TX5, 4), rfl, by decide, List.mem_cons_of_mem _ zw215, fun w h => List.mem_cons_of_mem _ (zX5 w h), by decide +kernel, fun h => by cases h⟩, List.forall_mem_cons.mpr ⟨⟨(RX5, TX5, 4), rfl, by decide, List.mem_cons_of_mem _ zw216, fun w h => List.mem_cons_of_mem _ (zX5 w h), by decide +kernel, fun h => by cases h⟩, List.forall_mem_cons.mpr ⟨⟨(RX5, TX5, 4), rfl, by decide, List.mem_cons_of_mem _ zw212, fun w h => List.mem_cons_of_mem _ (zX5 w h), by decide +kernel, fun h => by cases h⟩, fun _ h => absurd h List.not_mem_nil⟩⟩⟩⟩), zlookF (fin := true) [(21, 5, 0, .int)] (List.forall_mem_cons.mpr ⟨⟨(RX5, TX5, 4), rfl, by decide, List.mem_cons_of_mem _ zw212, fun w h => List.mem_cons_of_mem _ (zX5 w h), by decide +kernel, fun _ => rfl⟩, fun _ h => absurd h List.not_mem_nil⟩), zlookup (β := Int32) (L := []) (P := fun ix b => Jvm.Cond.constant yX5_note.cls ix b ∈ (zwd yX5_note cX5_note 4 (zret 0))) (fun _ h => absurd h List.not_mem_nil), zlookup (β := Int64) (L := []) (P := fun ix b => Jvm.Cond.constantLong yX5_note.cls ix b ∈ (zwd yX5_note cX5_note 4 (zret 0))) (fun _ h => absurd h List.not_mem_nil), zlookup (β := Nat) (L := []) (P := fun ix b => zmok yX5_note.cls (zwd yX5_note cX5_note 4 (zret 0)) ix b) (fun _ h => absurd h List.not_mem_nil)⟩
set_option maxRecDepth 20000 in
theorem sX5_note (l : Launch) : ∀ (as : List Value) (ws : zW) (K : zP), zFr 4 (zGoes mX5_note 0 4) as ws K → zMet l yX5_note (zwd yX5_note cX5_note 4 (zret 0)) { frames := 1, cells := 0, slots := 0, locals := 200 } 0 as ws K := zFr_met (by decide +kernel) (by decide) (by decide) gX5_note (fun p e s m args below meth c D cy ad A n0 Q S hKK hA => ⟨fun ix n G h => zlookup (β := Nat × zG) (L := []) (P := fun ix b => zCO p l e { frames := 1, cells := 0, slots := 0, locals := 200 } s m args below meth c cX5_note 4 D cy ad A n0 0 0 Q (.invokevirtual ix) b.1 b.2) (fun _ h => absurd h List.not_mem_nil) ix (n, G) h, fun ix n G h => zlookup (β := Nat × zG) (L := []) (P := fun ix b => zCO p l e { frames := 1, cells := 0, slots := 0, locals := 200 } s m args below meth c cX5_note 4 D cy ad A n0 0 0 Q (.invokestatic ix) b.1 b.2) (fun _ h => absurd h List.not_mem_nil) ix (n, G) h⟩) (by decide)
def iX5_lastPace : List (Option zI) := [some (.iconst (-1), (-1), 1, []), some (.istore_n 1, 0, 2, []), some (.iconst 0, 0, 3, []), some (.istore_n 2, 0, 4, []), some (.iload_n 2, 0, 5, []), some (.aload_n 0, 0, 6, []), some (.getfield 21, 0, 9, []), none, none, some (.if_icmp .ge 20, 0, 12, [29]), none, none, some (.iload_n 1, 0, 13, []), some (.aload_n 0, 0, 14, []), some (.getfield 15, 0, 17, []), none, none, some (.iload_n 2, 0, 18, []), some (.iaload, 0, 19, []), some (.invokestatic 25, 0, 22, []), none, none, some (.istore_n 1, 0, 23, []), some (.iinc 2 1, 1, 26, []), none, none, some (.goto (-22), 0, 29, [4]), none, none, some (.iload_n 1, 0, 30, []), some (.ireturn, 0, 31, [])]
def mX5_lastPace : zM := (iX5_lastPace, [(15, 5, 2, (.array .int)), (21, 5, 0, .int)], [], [], [], [(25, 0)], [], [])
theorem kX5_lastPace : zchkL cX5_lastPace 0 iX5_lastPace = true := by decide +kernel
set_option maxRecDepth 20000 in
theorem gX5_lastPace : zGood mX5_lastPace cX5_lastPace yX5_lastPace.cls (zwd yX5_lastPace cX5_lastPace 3 (zret 1)) := ⟨fun pc x h => by
    have h1 := zchkL_at kX5_lastPace pc x h
    rw [Nat.zero_add] at h1
    exact h1, zlookF (fin := false) [(15, 5, 2, (.array .int)), (21, 5, 0, .int)] (List.forall_mem_cons.mpr ⟨⟨(RX5, TX5, 4), rfl, by decide, List.mem_cons_of_mem _ zw215, fun w h => List.mem_cons_of_mem _ (zX5 w h), by decide +kernel, fun h => by cases h⟩, List.forall_mem_cons.mpr ⟨⟨(RX5, TX5, 4), rfl, by decide, List.mem_cons_of_mem _ zw212, fun w h => List.mem_cons_of_mem _ (zX5 w h), by decide +kernel, fun h => by cases h⟩, fun _ h => absurd h List.not_mem_nil⟩⟩), zlookF (fin := true) [] (fun _ h => absurd h List.not_mem_nil), zlookup (β := Int32) (L := []) (P := fun ix b => Jvm.Cond.constant yX5_lastPace.cls ix b ∈ (zwd yX5_lastPace cX5_lastPace 3 (zret 1))) (fun _ h => absurd h List.not_mem_nil), zlookup (β := Int64) (L := []) (P := fun ix b => Jvm.Cond.constantLong yX5_lastPace.cls ix b ∈ (zwd yX5_lastPace cX5_lastPace 3 (zret 1))) (fun _ h => absurd h List.not_mem_nil), zlookup (β := Nat) (L := [(25, 0)]) (P := fun ix b => zmok yX5_lastPace.cls (zwd yX5_lastPace cX5_lastPace 3 (zret 1)) ix b) (List.forall_mem_cons.mpr ⟨⟨List.mem_cons_of_mem _ zw642, List.mem_cons_of_mem _ zw451, List.mem_cons_of_mem _ zw58, List.mem_cons_of_mem _ zw452⟩, fun _ h => absurd h List.not_mem_nil⟩)⟩
set_option maxRecDepth 20000 in
theorem sX5_lastPace (l : Launch) : ∀ (as : List Value) (ws : zW) (K : zP), zFr 1 (zGoes mX5_lastPace 1 3) as ws K → zMet l yX5_lastPace (zwd yX5_lastPace cX5_lastPace 3 (zret 1)) { frames := 1, cells := 0, slots := 0, locals := 200 } 1 as ws K := zFr_met (by decide +kernel) (by decide) (by decide) gX5_lastPace (fun p e s m args below meth c D cy ad A n0 Q S hKK hA => ⟨fun ix n G h => zlookup (β := Nat × zG) (L := []) (P := fun ix b => zCO p l e { frames := 1, cells := 0, slots := 0, locals := 200 } s m args below meth c cX5_lastPace 3 D cy ad A n0 0 0 Q (.invokevirtual ix) b.1 b.2) (fun _ h => absurd h List.not_mem_nil) ix (n, G) h, fun ix n G h => zlookup (β := Nat × zG) (L := []) (P := fun ix b => zCO p l e { frames := 1, cells := 0, slots := 0, locals := 200 } s m args below meth c cX5_lastPace 3 D cy ad A n0 0 0 Q (.invokestatic ix) b.1 b.2) (fun _ h => absurd h List.not_mem_nil) ix (n, G) h⟩) (by decide)
def iX5_fit : List (Option zI) := [some (.iconst 0, 0, 1, []), some (.istore_n 3, 0, 2, []), some (.iload_n 3, 0, 3, []), some (.aload_n 0, 0, 4, []), some (.getfield 21, 0, 7, []), none, none, some (.if_icmp .ge 41, 0, 10, [48]), none, none, some (.aload_n 0, 0, 11, []), some (.getfield 15, 0, 14, []), none, none, some (.iload_n 3, 0, 15, []), some (.iaload, 0, 16, []), some (.iload_n 2, 0, 17, []), some (.if_icmp .ne 25, 0, 20, [42]), none, none, some (.aload_n 1, 0, 21, []), some (.getfield 31, 0, 24, []), none, none, some (.aload_n 0, 0, 25, []), some (.getfield 9, 0, 28, []), none, none, some (.iload_n 3, 0, 29, []), some (.iaload, 0, 30, []), some (.iaload, 0, 31, []), some (.aload_n 0, 0, 32, []), some (.getfield 18, 0, 35, []), none, none, some (.iload_n 3, 0, 36, []), some (.iaload, 0, 37, []), some (.if_icmp .eq 5, 0, 40, [42]), none, none, some (.iconst 0, 0, 41, []), some (.ireturn, 0, 42, []), some (.iinc 3 1, 1, 45, []), none, none, some (.goto (-43), 0, 48, [2]), none, none, some (.iconst 1, 1, 49, []), some (.ireturn, 0, 50, [])]
def mX5_fit : zM := (iX5_fit, [(9, 5, 1, (.array .int)), (15, 5, 2, (.array .int)), (18, 5, 3, (.array .int)), (21, 5, 0, .int), (31, 1, 2, (.array .int))], [], [], [], [], [], [])
theorem kX5_fit : zchkL cX5_fit 0 iX5_fit = true := by decide +kernel
set_option maxRecDepth 20000 in
theorem gX5_fit : zGood mX5_fit cX5_fit yX5_fit.cls (zwd yX5_fit cX5_fit 4 (zret 3)) := ⟨fun pc x h => by
    have h1 := zchkL_at kX5_fit pc x h
    rw [Nat.zero_add] at h1
    exact h1, zlookF (fin := false) [(9, 5, 1, (.array .int)), (15, 5, 2, (.array .int)), (18, 5, 3, (.array .int)), (21, 5, 0, .int), (31, 1, 2, (.array .int))] (List.forall_mem_cons.mpr ⟨⟨(RX5, TX5, 4), rfl, by decide, List.mem_cons_of_mem _ zw214, fun w h => List.mem_cons_of_mem _ (zX5 w h), by decide +kernel, fun h => by cases h⟩, List.forall_mem_cons.mpr ⟨⟨(RX5, TX5, 4), rfl, by decide, List.mem_cons_of_mem _ zw215, fun w h => List.mem_cons_of_mem _ (zX5 w h), by decide +kernel, fun h => by cases h⟩, List.forall_mem_cons.mpr ⟨⟨(RX5, TX5, 4), rfl, by decide, List.mem_cons_of_mem _ zw216, fun w h => List.mem_cons_of_mem _ (zX5 w h), by decide +kernel, fun h => by cases h⟩, List.forall_mem_cons.mpr ⟨⟨(RX5, TX5, 4), rfl, by decide, List.mem_cons_of_mem _ zw212, fun w h => List.mem_cons_of_mem _ (zX5 w h), by decide +kernel, fun h => by cases h⟩, List.forall_mem_cons.mpr ⟨⟨(RX1, TX1, 8), rfl, by decide, List.mem_cons_of_mem _ zw158, fun w h => List.mem_cons_of_mem _ (zX1 w h), by decide +kernel, fun h => by cases h⟩, fun _ h => absurd h List.not_mem_nil⟩⟩⟩⟩⟩), zlookF (fin := true) [] (fun _ h => absurd h List.not_mem_nil), zlookup (β := Int32) (L := []) (P := fun ix b => Jvm.Cond.constant yX5_fit.cls ix b ∈ (zwd yX5_fit cX5_fit 4 (zret 3))) (fun _ h => absurd h List.not_mem_nil), zlookup (β := Int64) (L := []) (P := fun ix b => Jvm.Cond.constantLong yX5_fit.cls ix b ∈ (zwd yX5_fit cX5_fit 4 (zret 3))) (fun _ h => absurd h List.not_mem_nil), zlookup (β := Nat) (L := []) (P := fun ix b => zmok yX5_fit.cls (zwd yX5_fit cX5_fit 4 (zret 3)) ix b) (fun _ h => absurd h List.not_mem_nil)⟩
set_option maxRecDepth 20000 in
theorem sX5_fit (l : Launch) : ∀ (as : List Value) (ws : zW) (K : zP), zFr 3 (zGoes mX5_fit 3 4) as ws K → zMet l yX5_fit (zwd yX5_fit cX5_fit 4 (zret 3)) { frames := 1, cells := 0, slots := 0, locals := 200 } 3 as ws K := zFr_met (by decide +kernel) (by decide) (by decide) gX5_fit (fun p e s m args below meth c D cy ad A n0 Q S hKK hA => ⟨fun ix n G h => zlookup (β := Nat × zG) (L := []) (P := fun ix b => zCO p l e { frames := 1, cells := 0, slots := 0, locals := 200 } s m args below meth c cX5_fit 4 D cy ad A n0 0 0 Q (.invokevirtual ix) b.1 b.2) (fun _ h => absurd h List.not_mem_nil) ix (n, G) h, fun ix n G h => zlookup (β := Nat × zG) (L := []) (P := fun ix b => zCO p l e { frames := 1, cells := 0, slots := 0, locals := 200 } s m args below meth c cX5_fit 4 D cy ad A n0 0 0 Q (.invokestatic ix) b.1 b.2) (fun _ h => absurd h List.not_mem_nil) ix (n, G) h⟩) (by decide)
def iX6_beginWith : List (Option zI) := [some (.aload_n 0, 0, 1, []), some (.aload_n 1, 0, 2, []), some (.putfield 18, 0, 5, []), none, none, some (.aload_n 0, 0, 6, []), some (.iload_n 2, 0, 7, []), some (.aload_n 1, 0, 8, []), some (.arraylength, 0, 9, []), some (.invokestatic 43, 0, 12, []), none, none, some (.putfield 26, 0, 15, []), none, none, some (.aload_n 0, 0, 16, []), some (.iconst 0, 0, 17, []), some (.putfield 49, 0, 20, []), none, none, some (.aload_n 0, 0, 21, []), some (.iconst 0, 0, 22, []), some (.putfield 36, 0, 25, []), none, none, some (.aload_n 0, 0, 26, []), some (.getfield 12, 0, 29, []), none, none, some (.iconst 0, 0, 30, []), some (.putfield 52, 0, 33, []), none, none, some (.aload_n 0, 0, 34, []), some (.iconst (-1), (-1), 35, []), some (.putfield 55, 0, 38, []), none, none, some (.aload_n 0, 0, 39, []), some (.iconst (-1), (-1), 40, []), some (.putfield 58, 0, 43, []), none, none, some (.aload_n 0, 0, 44, []), some (.iconst (-1), (-1), 45, []), some (.putfield 61, 0, 48, []), none, none, some (.aload_n 0, 0, 49, []), some (.iconst 0, 0, 50, []), some (.putfield 64, 0, 53, []), none, none, some (.return_, 0, 54, [])]
def mX6_beginWith : zM := (iX6_beginWith, [(12, 6, 0, (.object "RankWheels$Men"))], [(18, 6, 6, (.array .int)), (26, 6, 7, .int), (36, 6, 11, .int), (49, 6, 8, .int), (52, 2, 0, .int), (55, 6, 1, .int), (58, 6, 2, .int), (61, 6, 3, .int), (64, 6, 4, .int)], [], [], [(43, 1)], [], [])
theorem kX6_beginWith : zchkL cX6_beginWith 0 iX6_beginWith = true := by decide +kernel
set_option maxRecDepth 20000 in
theorem gX6_beginWith : zGood mX6_beginWith cX6_beginWith yX6_beginWith.cls (zwd yX6_beginWith cX6_beginWith 3 (zret 0)) := ⟨fun pc x h => by
    have h1 := zchkL_at kX6_beginWith pc x h
    rw [Nat.zero_add] at h1
    exact h1, zlookF (fin := false) [(12, 6, 0, (.object "RankWheels$Men"))] (List.forall_mem_cons.mpr ⟨⟨(RX6, TX6, 13), rfl, by decide, List.mem_cons_of_mem _ zw100, fun w h => List.mem_cons_of_mem _ (zX6 w h), by decide +kernel, fun h => by cases h⟩, fun _ h => absurd h List.not_mem_nil⟩), zlookF (fin := true) [(18, 6, 6, (.array .int)), (26, 6, 7, .int), (36, 6, 11, .int), (49, 6, 8, .int), (52, 2, 0, .int), (55, 6, 1, .int), (58, 6, 2, .int), (61, 6, 3, .int), (64, 6, 4, .int)] (List.forall_mem_cons.mpr ⟨⟨(RX6, TX6, 13), rfl, by decide, List.mem_cons_of_mem _ zw112, fun w h => List.mem_cons_of_mem _ (zX6 w h), by decide +kernel, fun _ => rfl⟩, List.forall_mem_cons.mpr ⟨⟨(RX6, TX6, 13), rfl, by decide, List.mem_cons_of_mem _ zw113, fun w h => List.mem_cons_of_mem _ (zX6 w h), by decide +kernel, fun _ => rfl⟩, List.forall_mem_cons.mpr ⟨⟨(RX6, TX6, 13), rfl, by decide, List.mem_cons_of_mem _ zw117, fun w h => List.mem_cons_of_mem _ (zX6 w h), by decide +kernel, fun _ => rfl⟩, List.forall_mem_cons.mpr ⟨⟨(RX6, TX6, 13), rfl, by decide, List.mem_cons_of_mem _ zw114, fun w h => List.mem_cons_of_mem _ (zX6 w h), by decide +kernel, fun _ => rfl⟩, List.forall_mem_cons.mpr ⟨⟨(RX2, TX2, 3), rfl, by decide, List.mem_cons_of_mem _ zw83, fun w h => List.mem_cons_of_mem _ (zX2 w h), by decide +kernel, fun _ => rfl⟩, List.forall_mem_cons.mpr ⟨⟨(RX6, TX6, 13), rfl, by decide, List.mem_cons_of_mem _ zw102, fun w h => List.mem_cons_of_mem _ (zX6 w h), by decide +kernel, fun _ => rfl⟩, List.forall_mem_cons.mpr ⟨⟨(RX6, TX6, 13), rfl, by decide, List.mem_cons_of_mem _ zw104, fun w h => List.mem_cons_of_mem _ (zX6 w h), by decide +kernel, fun _ => rfl⟩, List.forall_mem_cons.mpr ⟨⟨(RX6, TX6, 13), rfl, by decide, List.mem_cons_of_mem _ zw106, fun w h => List.mem_cons_of_mem _ (zX6 w h), by decide +kernel, fun _ => rfl⟩, List.forall_mem_cons.mpr ⟨⟨(RX6, TX6, 13), rfl, by decide, List.mem_cons_of_mem _ zw108, fun w h => List.mem_cons_of_mem _ (zX6 w h), by decide +kernel, fun _ => rfl⟩, fun _ h => absurd h List.not_mem_nil⟩⟩⟩⟩⟩⟩⟩⟩⟩), zlookup (β := Int32) (L := []) (P := fun ix b => Jvm.Cond.constant yX6_beginWith.cls ix b ∈ (zwd yX6_beginWith cX6_beginWith 3 (zret 0))) (fun _ h => absurd h List.not_mem_nil), zlookup (β := Int64) (L := []) (P := fun ix b => Jvm.Cond.constantLong yX6_beginWith.cls ix b ∈ (zwd yX6_beginWith cX6_beginWith 3 (zret 0))) (fun _ h => absurd h List.not_mem_nil), zlookup (β := Nat) (L := [(43, 1)]) (P := fun ix b => zmok yX6_beginWith.cls (zwd yX6_beginWith cX6_beginWith 3 (zret 0)) ix b) (List.forall_mem_cons.mpr ⟨⟨List.mem_cons_of_mem _ zw336, List.mem_cons_of_mem _ zw337, List.mem_cons_of_mem _ zw58, List.mem_cons_of_mem _ zw338⟩, fun _ h => absurd h List.not_mem_nil⟩)⟩
set_option maxRecDepth 20000 in
theorem sX6_beginWith (l : Launch) : ∀ (as : List Value) (ws : zW) (K : zP), zFr 3 (zGoes mX6_beginWith 0 3) as ws K → zMet l yX6_beginWith (zwd yX6_beginWith cX6_beginWith 3 (zret 0)) { frames := 1, cells := 0, slots := 0, locals := 200 } 0 as ws K := zFr_met (by decide +kernel) (by decide) (by decide) gX6_beginWith (fun p e s m args below meth c D cy ad A n0 Q S hKK hA => ⟨fun ix n G h => zlookup (β := Nat × zG) (L := []) (P := fun ix b => zCO p l e { frames := 1, cells := 0, slots := 0, locals := 200 } s m args below meth c cX6_beginWith 3 D cy ad A n0 0 0 Q (.invokevirtual ix) b.1 b.2) (fun _ h => absurd h List.not_mem_nil) ix (n, G) h, fun ix n G h => zlookup (β := Nat × zG) (L := []) (P := fun ix b => zCO p l e { frames := 1, cells := 0, slots := 0, locals := 200 } s m args below meth c cX6_beginWith 3 D cy ad A n0 0 0 Q (.invokestatic ix) b.1 b.2) (fun _ h => absurd h List.not_mem_nil) ix (n, G) h⟩) (by decide)
end
section
def iX7_within : List (Option zI) := [some (.iload_n 0, 0, 1, []), some (.iload_n 1, 0, 2, []), some (.if_icmp .lt 12, 0, 5, [14]), none, none, some (.iload_n 0, 0, 6, []), some (.iload_n 2, 0, 7, []), some (.if_icmp .gt 7, 0, 10, [14]), none, none, some (.iconst 1, 1, 11, []), some (.goto 4, 0, 14, [15]), none, none, some (.iconst 0, 0, 15, []), some (.ireturn, 0, 16, [])]
def mX7_within : zM := (iX7_within, [], [], [], [], [], [], [])
theorem kX7_within : zchkL cX7_within 0 iX7_within = true := by decide +kernel
set_option maxRecDepth 20000 in
theorem gX7_within : zGood mX7_within cX7_within yX7_within.cls (zwd yX7_within cX7_within 3 (zret 3)) := ⟨fun pc x h => by
    have h1 := zchkL_at kX7_within pc x h
    rw [Nat.zero_add] at h1
    exact h1, zlookF (fin := false) [] (fun _ h => absurd h List.not_mem_nil), zlookF (fin := true) [] (fun _ h => absurd h List.not_mem_nil), zlookup (β := Int32) (L := []) (P := fun ix b => Jvm.Cond.constant yX7_within.cls ix b ∈ (zwd yX7_within cX7_within 3 (zret 3))) (fun _ h => absurd h List.not_mem_nil), zlookup (β := Int64) (L := []) (P := fun ix b => Jvm.Cond.constantLong yX7_within.cls ix b ∈ (zwd yX7_within cX7_within 3 (zret 3))) (fun _ h => absurd h List.not_mem_nil), zlookup (β := Nat) (L := []) (P := fun ix b => zmok yX7_within.cls (zwd yX7_within cX7_within 3 (zret 3)) ix b) (fun _ h => absurd h List.not_mem_nil)⟩
set_option maxRecDepth 20000 in
theorem sX7_within (l : Launch) : ∀ (as : List Value) (ws : zW) (K : zP), zFr 3 (zGoes mX7_within 3 3) as ws K → zMet l yX7_within (zwd yX7_within cX7_within 3 (zret 3)) { frames := 1, cells := 0, slots := 0, locals := 200 } 3 as ws K := zFr_met (by decide +kernel) (by decide) (by decide) gX7_within (fun p e s m args below meth c D cy ad A n0 Q S hKK hA => ⟨fun ix n G h => zlookup (β := Nat × zG) (L := []) (P := fun ix b => zCO p l e { frames := 1, cells := 0, slots := 0, locals := 200 } s m args below meth c cX7_within 3 D cy ad A n0 0 0 Q (.invokevirtual ix) b.1 b.2) (fun _ h => absurd h List.not_mem_nil) ix (n, G) h, fun ix n G h => zlookup (β := Nat × zG) (L := []) (P := fun ix b => zCO p l e { frames := 1, cells := 0, slots := 0, locals := 200 } s m args below meth c cX7_within 3 D cy ad A n0 0 0 Q (.invokestatic ix) b.1 b.2) (fun _ h => absurd h List.not_mem_nil) ix (n, G) h⟩) (by decide)
def iX6_isLetter : List (Option zI) := [some (.iload_n 0, 0, 1, []), some (.bipush 97, 97, 3, []), none, some (.bipush 122, 122, 5, []), none, some (.invokestatic 90, 0, 8, []), none, none, some (.ireturn, 0, 9, [])]
def mX6_isLetter : zM := (iX6_isLetter, [], [], [], [], [], [], [(90, 3, zFr 3 (zGoes mX7_within 3 3))])
theorem kX6_isLetter : zchkL cX6_isLetter 0 iX6_isLetter = true := by decide +kernel
set_option maxRecDepth 20000 in
theorem gX6_isLetter : zGood mX6_isLetter cX6_isLetter yX6_isLetter.cls (zwd yX6_isLetter cX6_isLetter 1 (zret 3)) := ⟨fun pc x h => by
    have h1 := zchkL_at kX6_isLetter pc x h
    rw [Nat.zero_add] at h1
    exact h1, zlookF (fin := false) [] (fun _ h => absurd h List.not_mem_nil), zlookF (fin := true) [] (fun _ h => absurd h List.not_mem_nil), zlookup (β := Int32) (L := []) (P := fun ix b => Jvm.Cond.constant yX6_isLetter.cls ix b ∈ (zwd yX6_isLetter cX6_isLetter 1 (zret 3))) (fun _ h => absurd h List.not_mem_nil), zlookup (β := Int64) (L := []) (P := fun ix b => Jvm.Cond.constantLong yX6_isLetter.cls ix b ∈ (zwd yX6_isLetter cX6_isLetter 1 (zret 3))) (fun _ h => absurd h List.not_mem_nil), zlookup (β := Nat) (L := []) (P := fun ix b => zmok yX6_isLetter.cls (zwd yX6_isLetter cX6_isLetter 1 (zret 3)) ix b) (fun _ h => absurd h List.not_mem_nil)⟩
set_option maxRecDepth 20000 in
theorem sX6_isLetter (l : Launch) : ∀ (as : List Value) (ws : zW) (K : zP), zFr 1 (zGoes mX6_isLetter 3 1) as ws K → zMet l yX6_isLetter (zwd yX6_isLetter cX6_isLetter 1 (zret 3)) { frames := 2, cells := 0, slots := 0, locals := 400 } 3 as ws K := zFr_met (by decide +kernel) (by decide) (by decide) gX6_isLetter (fun p e s m args below meth c D cy ad A n0 Q S hKK hA => ⟨fun ix n G h => zlookup (β := Nat × zG) (L := []) (P := fun ix b => zCO p l e { frames := 2, cells := 0, slots := 0, locals := 400 } s m args below meth c cX6_isLetter 1 D cy ad A n0 0 0 Q (.invokevirtual ix) b.1 b.2) (fun _ h => absurd h List.not_mem_nil) ix (n, G) h, fun ix n G h => zlookup (β := Nat × zG) (L := [(90, 3, zFr 3 (zGoes mX7_within 3 3))]) (P := fun ix b => zCO p l e { frames := 2, cells := 0, slots := 0, locals := 400 } s m args below meth c cX6_isLetter 1 D cy ad A n0 0 0 Q (.invokestatic ix) b.1 b.2) (List.forall_mem_cons.mpr ⟨zco_N (host := RX7) S hKK hA ⟨Nat.zero_le _, Nat.zero_le _⟩ ⟨va_cnB 3 S.2.2.2.2 (zgoodN zw319) rfl rfl rfl (hKK.2 _ (List.mem_of_getElem? (i := 6) rfl)) (S.2.2.2.2 _ (List.mem_cons_of_mem _ zw49)) (by decide +kernel) (by decide +kernel), S.2.2.2.2 _ (List.mem_cons_of_mem _ zw318), trivial⟩ (sX7_within l), fun _ h => absurd h List.not_mem_nil⟩) ix (n, G) h⟩) (by decide)
def iX6_readLetters : List (Option zI) := [some (.aload_n 0, 0, 1, []), some (.iconst 1, 1, 2, []), some (.putfield 33, 0, 5, []), none, none, some (.aload_n 0, 0, 6, []), some (.getfield 49, 0, 9, []), none, none, some (.aload_n 0, 0, 10, []), some (.getfield 26, 0, 13, []), none, none, some (.if_icmp .ge 31, 0, 16, [44]), none, none, some (.aload_n 0, 0, 17, []), some (.getfield 18, 0, 20, []), none, none, some (.aload_n 0, 0, 21, []), some (.getfield 49, 0, 24, []), none, none, some (.iaload, 0, 25, []), some (.invokestatic 97, 0, 28, []), none, none, some (.ifCond .eq 16, 0, 31, [44]), none, none, some (.aload_n 0, 0, 32, []), some (.dup, 0, 33, []), some (.getfield 49, 0, 36, []), none, none, some (.iconst 1, 1, 37, []), some (.iadd, 0, 38, []), some (.putfield 49, 0, 41, []), none, none, some (.goto (-36), 0, 44, [5]), none, none, some (.aload_n 0, 0, 45, []), some (.getfield 49, 0, 48, []), none, none, some (.aload_n 0, 0, 49, []), some (.getfield 94, 0, 52, []), none, none, some (.isub, 0, 53, []), some (.iconst 1, 1, 54, []), some (.if_icmp .ne 16, 0, 57, [70]), none, none, some (.aload_n 0, 0, 58, []), some (.aload_n 0, 0, 59, []), some (.getfield 18, 0, 62, []), none, none, some (.aload_n 0, 0, 63, []), some (.getfield 94, 0, 66, []), none, none, some (.iaload, 0, 67, []), some (.putfield 83, 0, 70, []), none, none, some (.return_, 0, 71, [])]
def mX6_readLetters : zM := (iX6_readLetters, [(18, 6, 6, (.array .int)), (26, 6, 7, .int), (49, 6, 8, .int), (94, 6, 5, .int)], [(33, 6, 9, .int), (49, 6, 8, .int), (83, 6, 10, .int)], [], [], [], [], [(97, 1, zFr 1 (zGoes mX6_isLetter 3 1))])
theorem kX6_readLetters : zchkL cX6_readLetters 0 iX6_readLetters = true := by decide +kernel
set_option maxRecDepth 20000 in
theorem gX6_readLetters : zGood mX6_readLetters cX6_readLetters yX6_readLetters.cls (zwd yX6_readLetters cX6_readLetters 1 (zret 0)) := ⟨fun pc x h => by
    have h1 := zchkL_at kX6_readLetters pc x h
    rw [Nat.zero_add] at h1
    exact h1, zlookF (fin := false) [(18, 6, 6, (.array .int)), (26, 6, 7, .int), (49, 6, 8, .int), (94, 6, 5, .int)] (List.forall_mem_cons.mpr ⟨⟨(RX6, TX6, 13), rfl, by decide, List.mem_cons_of_mem _ zw112, fun w h => List.mem_cons_of_mem _ (zX6 w h), by decide +kernel, fun h => by cases h⟩, List.forall_mem_cons.mpr ⟨⟨(RX6, TX6, 13), rfl, by decide, List.mem_cons_of_mem _ zw113, fun w h => List.mem_cons_of_mem _ (zX6 w h), by decide +kernel, fun h => by cases h⟩, List.forall_mem_cons.mpr ⟨⟨(RX6, TX6, 13), rfl, by decide, List.mem_cons_of_mem _ zw114, fun w h => List.mem_cons_of_mem _ (zX6 w h), by decide +kernel, fun h => by cases h⟩, List.forall_mem_cons.mpr ⟨⟨(RX6, TX6, 13), rfl, by decide, List.mem_cons_of_mem _ zw111, fun w h => List.mem_cons_of_mem _ (zX6 w h), by decide +kernel, fun h => by cases h⟩, fun _ h => absurd h List.not_mem_nil⟩⟩⟩⟩), zlookF (fin := true) [(33, 6, 9, .int), (49, 6, 8, .int), (83, 6, 10, .int)] (List.forall_mem_cons.mpr ⟨⟨(RX6, TX6, 13), rfl, by decide, List.mem_cons_of_mem _ zw115, fun w h => List.mem_cons_of_mem _ (zX6 w h), by decide +kernel, fun _ => rfl⟩, List.forall_mem_cons.mpr ⟨⟨(RX6, TX6, 13), rfl, by decide, List.mem_cons_of_mem _ zw114, fun w h => List.mem_cons_of_mem _ (zX6 w h), by decide +kernel, fun _ => rfl⟩, List.forall_mem_cons.mpr ⟨⟨(RX6, TX6, 13), rfl, by decide, List.mem_cons_of_mem _ zw116, fun w h => List.mem_cons_of_mem _ (zX6 w h), by decide +kernel, fun _ => rfl⟩, fun _ h => absurd h List.not_mem_nil⟩⟩⟩), zlookup (β := Int32) (L := []) (P := fun ix b => Jvm.Cond.constant yX6_readLetters.cls ix b ∈ (zwd yX6_readLetters cX6_readLetters 1 (zret 0))) (fun _ h => absurd h List.not_mem_nil), zlookup (β := Int64) (L := []) (P := fun ix b => Jvm.Cond.constantLong yX6_readLetters.cls ix b ∈ (zwd yX6_readLetters cX6_readLetters 1 (zret 0))) (fun _ h => absurd h List.not_mem_nil), zlookup (β := Nat) (L := []) (P := fun ix b => zmok yX6_readLetters.cls (zwd yX6_readLetters cX6_readLetters 1 (zret 0)) ix b) (fun _ h => absurd h List.not_mem_nil)⟩
set_option maxRecDepth 20000 in
theorem sX6_readLetters (l : Launch) : ∀ (as : List Value) (ws : zW) (K : zP), zFr 1 (zGoes mX6_readLetters 0 1) as ws K → zMet l yX6_readLetters (zwd yX6_readLetters cX6_readLetters 1 (zret 0)) { frames := 3, cells := 0, slots := 0, locals := 600 } 0 as ws K := zFr_met (by decide +kernel) (by decide) (by decide) gX6_readLetters (fun p e s m args below meth c D cy ad A n0 Q S hKK hA => ⟨fun ix n G h => zlookup (β := Nat × zG) (L := []) (P := fun ix b => zCO p l e { frames := 3, cells := 0, slots := 0, locals := 600 } s m args below meth c cX6_readLetters 1 D cy ad A n0 0 0 Q (.invokevirtual ix) b.1 b.2) (fun _ h => absurd h List.not_mem_nil) ix (n, G) h, fun ix n G h => zlookup (β := Nat × zG) (L := [(97, 1, zFr 1 (zGoes mX6_isLetter 3 1))]) (P := fun ix b => zCO p l e { frames := 3, cells := 0, slots := 0, locals := 600 } s m args below meth c cX6_readLetters 1 D cy ad A n0 0 0 Q (.invokestatic ix) b.1 b.2) (List.forall_mem_cons.mpr ⟨zco_S S hKK hA ⟨Nat.zero_le _, Nat.zero_le _⟩ (va_cwS 1 S.2.2.2.2 (zgoodS zw343 zw344 zw50 zw345) rfl rfl rfl (by decide +kernel) (by decide +kernel)) (sX6_isLetter l), fun _ h => absurd h List.not_mem_nil⟩) ix (n, G) h⟩) (by decide)
def iX6_isDigit : List (Option zI) := [some (.iload_n 0, 0, 1, []), some (.bipush 48, 48, 3, []), none, some (.bipush 57, 57, 5, []), none, some (.invokestatic 90, 0, 8, []), none, none, some (.ireturn, 0, 9, [])]
def mX6_isDigit : zM := (iX6_isDigit, [], [], [], [], [], [], [(90, 3, zFr 3 (zGoes mX7_within 3 3))])
theorem kX6_isDigit : zchkL cX6_isDigit 0 iX6_isDigit = true := by decide +kernel
set_option maxRecDepth 20000 in
theorem gX6_isDigit : zGood mX6_isDigit cX6_isDigit yX6_isDigit.cls (zwd yX6_isDigit cX6_isDigit 1 (zret 3)) := ⟨fun pc x h => by
    have h1 := zchkL_at kX6_isDigit pc x h
    rw [Nat.zero_add] at h1
    exact h1, zlookF (fin := false) [] (fun _ h => absurd h List.not_mem_nil), zlookF (fin := true) [] (fun _ h => absurd h List.not_mem_nil), zlookup (β := Int32) (L := []) (P := fun ix b => Jvm.Cond.constant yX6_isDigit.cls ix b ∈ (zwd yX6_isDigit cX6_isDigit 1 (zret 3))) (fun _ h => absurd h List.not_mem_nil), zlookup (β := Int64) (L := []) (P := fun ix b => Jvm.Cond.constantLong yX6_isDigit.cls ix b ∈ (zwd yX6_isDigit cX6_isDigit 1 (zret 3))) (fun _ h => absurd h List.not_mem_nil), zlookup (β := Nat) (L := []) (P := fun ix b => zmok yX6_isDigit.cls (zwd yX6_isDigit cX6_isDigit 1 (zret 3)) ix b) (fun _ h => absurd h List.not_mem_nil)⟩
set_option maxRecDepth 20000 in
theorem sX6_isDigit (l : Launch) : ∀ (as : List Value) (ws : zW) (K : zP), zFr 1 (zGoes mX6_isDigit 3 1) as ws K → zMet l yX6_isDigit (zwd yX6_isDigit cX6_isDigit 1 (zret 3)) { frames := 2, cells := 0, slots := 0, locals := 400 } 3 as ws K := zFr_met (by decide +kernel) (by decide) (by decide) gX6_isDigit (fun p e s m args below meth c D cy ad A n0 Q S hKK hA => ⟨fun ix n G h => zlookup (β := Nat × zG) (L := []) (P := fun ix b => zCO p l e { frames := 2, cells := 0, slots := 0, locals := 400 } s m args below meth c cX6_isDigit 1 D cy ad A n0 0 0 Q (.invokevirtual ix) b.1 b.2) (fun _ h => absurd h List.not_mem_nil) ix (n, G) h, fun ix n G h => zlookup (β := Nat × zG) (L := [(90, 3, zFr 3 (zGoes mX7_within 3 3))]) (P := fun ix b => zCO p l e { frames := 2, cells := 0, slots := 0, locals := 400 } s m args below meth c cX6_isDigit 1 D cy ad A n0 0 0 Q (.invokestatic ix) b.1 b.2) (List.forall_mem_cons.mpr ⟨zco_N (host := RX7) S hKK hA ⟨Nat.zero_le _, Nat.zero_le _⟩ ⟨va_cnB 3 S.2.2.2.2 (zgoodN zw319) rfl rfl rfl (hKK.2 _ (List.mem_of_getElem? (i := 6) rfl)) (S.2.2.2.2 _ (List.mem_cons_of_mem _ zw49)) (by decide +kernel) (by decide +kernel), S.2.2.2.2 _ (List.mem_cons_of_mem _ zw318), trivial⟩ (sX7_within l), fun _ h => absurd h List.not_mem_nil⟩) ix (n, G) h⟩) (by decide)
def iX6_readDigits : List (Option zI) := [some (.aload_n 0, 0, 1, []), some (.iconst 2, 2, 2, []), some (.putfield 33, 0, 5, []), none, none, some (.aload_n 0, 0, 6, []), some (.getfield 49, 0, 9, []), none, none, some (.aload_n 0, 0, 10, []), some (.getfield 26, 0, 13, []), none, none, some (.if_icmp .ge 31, 0, 16, [44]), none, none, some (.aload_n 0, 0, 17, []), some (.getfield 18, 0, 20, []), none, none, some (.aload_n 0, 0, 21, []), some (.getfield 49, 0, 24, []), none, none, some (.iaload, 0, 25, []), some (.invokestatic 103, 0, 28, []), none, none, some (.ifCond .eq 16, 0, 31, [44]), none, none, some (.aload_n 0, 0, 32, []), some (.dup, 0, 33, []), some (.getfield 49, 0, 36, []), none, none, some (.iconst 1, 1, 37, []), some (.iadd, 0, 38, []), some (.putfield 49, 0, 41, []), none, none, some (.goto (-36), 0, 44, [5]), none, none, some (.aload_n 0, 0, 45, []), some (.getfield 18, 0, 48, []), none, none, some (.aload_n 0, 0, 49, []), some (.getfield 94, 0, 52, []), none, none, some (.iaload, 0, 53, []), some (.bipush 48, 48, 55, []), none, some (.isub, 0, 56, []), some (.istore_n 1, 0, 57, []), some (.aload_n 0, 0, 58, []), some (.getfield 49, 0, 61, []), none, none, some (.aload_n 0, 0, 62, []), some (.getfield 94, 0, 65, []), none, none, some (.isub, 0, 66, []), some (.iconst 1, 1, 67, []), some (.if_icmp .ne 11, 0, 70, [78]), none, none, some (.aload_n 0, 0, 71, []), some (.iload_n 1, 0, 72, []), some (.putfield 83, 0, 75, []), none, none, some (.goto 43, 0, 78, [118]), none, none, some (.aload_n 0, 0, 79, []), some (.getfield 49, 0, 82, []), none, none, some (.aload_n 0, 0, 83, []), some (.getfield 94, 0, 86, []), none, none, some (.isub, 0, 87, []), some (.iconst 2, 2, 88, []), some (.if_icmp .ne 30, 0, 91, [118]), none, none, some (.iload_n 1, 0, 92, []), some (.ifCond .le 26, 0, 95, [118]), none, none, some (.aload_n 0, 0, 96, []), some (.bipush 10, 10, 98, []), none, some (.iload_n 1, 0, 99, []), some (.imul, 0, 100, []), some (.aload_n 0, 0, 101, []), some (.getfield 18, 0, 104, []), none, none, some (.aload_n 0, 0, 105, []), some (.getfield 94, 0, 108, []), none, none, some (.iconst 1, 1, 109, []), some (.iadd, 0, 110, []), some (.iaload, 0, 111, []), some (.iadd, 0, 112, []), some (.bipush 48, 48, 114, []), none, some (.isub, 0, 115, []), some (.putfield 83, 0, 118, []), none, none, some (.return_, 0, 119, [])]
def mX6_readDigits : zM := (iX6_readDigits, [(18, 6, 6, (.array .int)), (26, 6, 7, .int), (49, 6, 8, .int), (94, 6, 5, .int)], [(33, 6, 9, .int), (49, 6, 8, .int), (83, 6, 10, .int)], [], [], [], [], [(103, 1, zFr 1 (zGoes mX6_isDigit 3 1))])
theorem kX6_readDigits : zchkL cX6_readDigits 0 iX6_readDigits = true := by decide +kernel
set_option maxRecDepth 20000 in
theorem gX6_readDigits : zGood mX6_readDigits cX6_readDigits yX6_readDigits.cls (zwd yX6_readDigits cX6_readDigits 2 (zret 0)) := ⟨fun pc x h => by
    have h1 := zchkL_at kX6_readDigits pc x h
    rw [Nat.zero_add] at h1
    exact h1, zlookF (fin := false) [(18, 6, 6, (.array .int)), (26, 6, 7, .int), (49, 6, 8, .int), (94, 6, 5, .int)] (List.forall_mem_cons.mpr ⟨⟨(RX6, TX6, 13), rfl, by decide, List.mem_cons_of_mem _ zw112, fun w h => List.mem_cons_of_mem _ (zX6 w h), by decide +kernel, fun h => by cases h⟩, List.forall_mem_cons.mpr ⟨⟨(RX6, TX6, 13), rfl, by decide, List.mem_cons_of_mem _ zw113, fun w h => List.mem_cons_of_mem _ (zX6 w h), by decide +kernel, fun h => by cases h⟩, List.forall_mem_cons.mpr ⟨⟨(RX6, TX6, 13), rfl, by decide, List.mem_cons_of_mem _ zw114, fun w h => List.mem_cons_of_mem _ (zX6 w h), by decide +kernel, fun h => by cases h⟩, List.forall_mem_cons.mpr ⟨⟨(RX6, TX6, 13), rfl, by decide, List.mem_cons_of_mem _ zw111, fun w h => List.mem_cons_of_mem _ (zX6 w h), by decide +kernel, fun h => by cases h⟩, fun _ h => absurd h List.not_mem_nil⟩⟩⟩⟩), zlookF (fin := true) [(33, 6, 9, .int), (49, 6, 8, .int), (83, 6, 10, .int)] (List.forall_mem_cons.mpr ⟨⟨(RX6, TX6, 13), rfl, by decide, List.mem_cons_of_mem _ zw115, fun w h => List.mem_cons_of_mem _ (zX6 w h), by decide +kernel, fun _ => rfl⟩, List.forall_mem_cons.mpr ⟨⟨(RX6, TX6, 13), rfl, by decide, List.mem_cons_of_mem _ zw114, fun w h => List.mem_cons_of_mem _ (zX6 w h), by decide +kernel, fun _ => rfl⟩, List.forall_mem_cons.mpr ⟨⟨(RX6, TX6, 13), rfl, by decide, List.mem_cons_of_mem _ zw116, fun w h => List.mem_cons_of_mem _ (zX6 w h), by decide +kernel, fun _ => rfl⟩, fun _ h => absurd h List.not_mem_nil⟩⟩⟩), zlookup (β := Int32) (L := []) (P := fun ix b => Jvm.Cond.constant yX6_readDigits.cls ix b ∈ (zwd yX6_readDigits cX6_readDigits 2 (zret 0))) (fun _ h => absurd h List.not_mem_nil), zlookup (β := Int64) (L := []) (P := fun ix b => Jvm.Cond.constantLong yX6_readDigits.cls ix b ∈ (zwd yX6_readDigits cX6_readDigits 2 (zret 0))) (fun _ h => absurd h List.not_mem_nil), zlookup (β := Nat) (L := []) (P := fun ix b => zmok yX6_readDigits.cls (zwd yX6_readDigits cX6_readDigits 2 (zret 0)) ix b) (fun _ h => absurd h List.not_mem_nil)⟩
set_option maxRecDepth 20000 in
theorem sX6_readDigits (l : Launch) : ∀ (as : List Value) (ws : zW) (K : zP), zFr 1 (zGoes mX6_readDigits 0 2) as ws K → zMet l yX6_readDigits (zwd yX6_readDigits cX6_readDigits 2 (zret 0)) { frames := 3, cells := 0, slots := 0, locals := 600 } 0 as ws K := zFr_met (by decide +kernel) (by decide) (by decide) gX6_readDigits (fun p e s m args below meth c D cy ad A n0 Q S hKK hA => ⟨fun ix n G h => zlookup (β := Nat × zG) (L := []) (P := fun ix b => zCO p l e { frames := 3, cells := 0, slots := 0, locals := 600 } s m args below meth c cX6_readDigits 2 D cy ad A n0 0 0 Q (.invokevirtual ix) b.1 b.2) (fun _ h => absurd h List.not_mem_nil) ix (n, G) h, fun ix n G h => zlookup (β := Nat × zG) (L := [(103, 1, zFr 1 (zGoes mX6_isDigit 3 1))]) (P := fun ix b => zCO p l e { frames := 3, cells := 0, slots := 0, locals := 600 } s m args below meth c cX6_readDigits 2 D cy ad A n0 0 0 Q (.invokestatic ix) b.1 b.2) (List.forall_mem_cons.mpr ⟨zco_S S hKK hA ⟨Nat.zero_le _, Nat.zero_le _⟩ (va_cwS 1 S.2.2.2.2 (zgoodS zw351 zw352 zw50 zw353) rfl rfl rfl (by decide +kernel) (by decide +kernel)) (sX6_isDigit l), fun _ h => absurd h List.not_mem_nil⟩) ix (n, G) h⟩) (by decide)
def iX6_readToken : List (Option zI) := [some (.aload_n 0, 0, 1, []), some (.getfield 49, 0, 4, []), none, none, some (.aload_n 0, 0, 5, []), some (.getfield 26, 0, 8, []), none, none, some (.if_icmp .ge 30, 0, 11, [38]), none, none, some (.aload_n 0, 0, 12, []), some (.getfield 18, 0, 15, []), none, none, some (.aload_n 0, 0, 16, []), some (.getfield 49, 0, 19, []), none, none, some (.iaload, 0, 20, []), some (.bipush 32, 32, 22, []), none, some (.if_icmp .ne 16, 0, 25, [38]), none, none, some (.aload_n 0, 0, 26, []), some (.dup, 0, 27, []), some (.getfield 49, 0, 30, []), none, none, some (.iconst 1, 1, 31, []), some (.iadd, 0, 32, []), some (.putfield 49, 0, 35, []), none, none, some (.goto (-35), 0, 38, [0]), none, none, some (.aload_n 0, 0, 39, []), some (.aload_n 0, 0, 40, []), some (.getfield 49, 0, 43, []), none, none, some (.putfield 94, 0, 46, []), none, none, some (.aload_n 0, 0, 47, []), some (.iconst (-1), (-1), 48, []), some (.putfield 83, 0, 51, []), none, none, some (.aload_n 0, 0, 52, []), some (.getfield 49, 0, 55, []), none, none, some (.aload_n 0, 0, 56, []), some (.getfield 26, 0, 59, []), none, none, some (.if_icmp .lt 11, 0, 62, [70]), none, none, some (.aload_n 0, 0, 63, []), some (.iconst 0, 0, 64, []), some (.putfield 33, 0, 67, []), none, none, some (.goto 80, 0, 70, [147]), none, none, some (.aload_n 0, 0, 71, []), some (.getfield 18, 0, 74, []), none, none, some (.aload_n 0, 0, 75, []), some (.getfield 49, 0, 78, []), none, none, some (.iaload, 0, 79, []), some (.invokestatic 97, 0, 82, []), none, none, some (.ifCond .eq 10, 0, 85, [92]), none, none, some (.aload_n 0, 0, 86, []), some (.invokevirtual 100, 0, 89, []), none, none, some (.goto 58, 0, 92, [147]), none, none, some (.aload_n 0, 0, 93, []), some (.getfield 18, 0, 96, []), none, none, some (.aload_n 0, 0, 97, []), some (.getfield 49, 0, 100, []), none, none, some (.iaload, 0, 101, []), some (.invokestatic 103, 0, 104, []), none, none, some (.ifCond .eq 10, 0, 107, [114]), none, none, some (.aload_n 0, 0, 108, []), some (.invokevirtual 106, 0, 111, []), none, none, some (.goto 36, 0, 114, [147]), none, none, some (.aload_n 0, 0, 115, []), some (.aload_n 0, 0, 116, []), some (.getfield 18, 0, 119, []), none, none, some (.aload_n 0, 0, 120, []), some (.getfield 49, 0, 123, []), none, none, some (.iaload, 0, 124, []), some (.bipush 59, 59, 126, []), none, some (.if_icmp .ne 7, 0, 129, [133]), none, none, some (.iconst 3, 3, 130, []), some (.goto 4, 0, 133, [134]), none, none, some (.iconst 4, 4, 134, []), some (.putfield 33, 0, 137, []), none, none, some (.aload_n 0, 0, 138, []), some (.dup, 0, 139, []), some (.getfield 49, 0, 142, []), none, none, some (.iconst 1, 1, 143, []), some (.iadd, 0, 144, []), some (.putfield 49, 0, 147, []), none, none, some (.return_, 0, 148, [])]
def mX6_readToken : zM := (iX6_readToken, [(18, 6, 6, (.array .int)), (26, 6, 7, .int), (49, 6, 8, .int)], [(33, 6, 9, .int), (49, 6, 8, .int), (83, 6, 10, .int), (94, 6, 5, .int)], [], [], [], [(100, 1, zFV 6 1 (zGoes mX6_readLetters 0 1)), (106, 1, zFV 6 1 (zGoes mX6_readDigits 0 2))], [(97, 1, zFr 1 (zGoes mX6_isLetter 3 1)), (103, 1, zFr 1 (zGoes mX6_isDigit 3 1))])
theorem kX6_readToken : zchkL cX6_readToken 0 iX6_readToken = true := by decide +kernel
set_option maxRecDepth 20000 in
theorem gX6_readToken : zGood mX6_readToken cX6_readToken yX6_readToken.cls (zwd yX6_readToken cX6_readToken 1 (zret 0)) := ⟨fun pc x h => by
    have h1 := zchkL_at kX6_readToken pc x h
    rw [Nat.zero_add] at h1
    exact h1, zlookF (fin := false) [(18, 6, 6, (.array .int)), (26, 6, 7, .int), (49, 6, 8, .int)] (List.forall_mem_cons.mpr ⟨⟨(RX6, TX6, 13), rfl, by decide, List.mem_cons_of_mem _ zw112, fun w h => List.mem_cons_of_mem _ (zX6 w h), by decide +kernel, fun h => by cases h⟩, List.forall_mem_cons.mpr ⟨⟨(RX6, TX6, 13), rfl, by decide, List.mem_cons_of_mem _ zw113, fun w h => List.mem_cons_of_mem _ (zX6 w h), by decide +kernel, fun h => by cases h⟩, List.forall_mem_cons.mpr ⟨⟨(RX6, TX6, 13), rfl, by decide, List.mem_cons_of_mem _ zw114, fun w h => List.mem_cons_of_mem _ (zX6 w h), by decide +kernel, fun h => by cases h⟩, fun _ h => absurd h List.not_mem_nil⟩⟩⟩), zlookF (fin := true) [(33, 6, 9, .int), (49, 6, 8, .int), (83, 6, 10, .int), (94, 6, 5, .int)] (List.forall_mem_cons.mpr ⟨⟨(RX6, TX6, 13), rfl, by decide, List.mem_cons_of_mem _ zw115, fun w h => List.mem_cons_of_mem _ (zX6 w h), by decide +kernel, fun _ => rfl⟩, List.forall_mem_cons.mpr ⟨⟨(RX6, TX6, 13), rfl, by decide, List.mem_cons_of_mem _ zw114, fun w h => List.mem_cons_of_mem _ (zX6 w h), by decide +kernel, fun _ => rfl⟩, List.forall_mem_cons.mpr ⟨⟨(RX6, TX6, 13), rfl, by decide, List.mem_cons_of_mem _ zw116, fun w h => List.mem_cons_of_mem _ (zX6 w h), by decide +kernel, fun _ => rfl⟩, List.forall_mem_cons.mpr ⟨⟨(RX6, TX6, 13), rfl, by decide, List.mem_cons_of_mem _ zw111, fun w h => List.mem_cons_of_mem _ (zX6 w h), by decide +kernel, fun _ => rfl⟩, fun _ h => absurd h List.not_mem_nil⟩⟩⟩⟩), zlookup (β := Int32) (L := []) (P := fun ix b => Jvm.Cond.constant yX6_readToken.cls ix b ∈ (zwd yX6_readToken cX6_readToken 1 (zret 0))) (fun _ h => absurd h List.not_mem_nil), zlookup (β := Int64) (L := []) (P := fun ix b => Jvm.Cond.constantLong yX6_readToken.cls ix b ∈ (zwd yX6_readToken cX6_readToken 1 (zret 0))) (fun _ h => absurd h List.not_mem_nil), zlookup (β := Nat) (L := []) (P := fun ix b => zmok yX6_readToken.cls (zwd yX6_readToken cX6_readToken 1 (zret 0)) ix b) (fun _ h => absurd h List.not_mem_nil)⟩
set_option maxRecDepth 20000 in
theorem sX6_readToken (l : Launch) : ∀ (as : List Value) (ws : zW) (K : zP), zFr 1 (zGoes mX6_readToken 0 1) as ws K → zMet l yX6_readToken (zwd yX6_readToken cX6_readToken 1 (zret 0)) { frames := 4, cells := 0, slots := 0, locals := 800 } 0 as ws K := zFr_met (by decide +kernel) (by decide) (by decide) gX6_readToken (fun p e s m args below meth c D cy ad A n0 Q S hKK hA => ⟨fun ix n G h => zlookup (β := Nat × zG) (L := [(100, 1, zFV 6 1 (zGoes mX6_readLetters 0 1)), (106, 1, zFV 6 1 (zGoes mX6_readDigits 0 2))]) (P := fun ix b => zCO p l e { frames := 4, cells := 0, slots := 0, locals := 800 } s m args below meth c cX6_readToken 1 D cy ad A n0 0 0 Q (.invokevirtual ix) b.1 b.2) (List.forall_mem_cons.mpr ⟨zco_V (ci := 6) S hKK hA ⟨Nat.zero_le _, Nat.zero_le _⟩ (cwV 0 S.2.2.2.2 (zgoodV zw347 zw349 zw2 zw50 zw350) rfl rfl rfl (by decide +kernel) (by decide +kernel)) rfl rfl (sX6_readLetters l), List.forall_mem_cons.mpr ⟨zco_V (ci := 6) S hKK hA ⟨Nat.zero_le _, Nat.zero_le _⟩ (cwV 0 S.2.2.2.2 (zgoodV zw354 zw356 zw3 zw50 zw357) rfl rfl rfl (by decide +kernel) (by decide +kernel)) rfl rfl (sX6_readDigits l), fun _ h => absurd h List.not_mem_nil⟩⟩) ix (n, G) h, fun ix n G h => zlookup (β := Nat × zG) (L := [(97, 1, zFr 1 (zGoes mX6_isLetter 3 1)), (103, 1, zFr 1 (zGoes mX6_isDigit 3 1))]) (P := fun ix b => zCO p l e { frames := 4, cells := 0, slots := 0, locals := 800 } s m args below meth c cX6_readToken 1 D cy ad A n0 0 0 Q (.invokestatic ix) b.1 b.2) (List.forall_mem_cons.mpr ⟨zco_S S hKK hA ⟨Nat.zero_le _, Nat.zero_le _⟩ (va_cwS 1 S.2.2.2.2 (zgoodS zw343 zw344 zw50 zw345) rfl rfl rfl (by decide +kernel) (by decide +kernel)) (sX6_isLetter l), List.forall_mem_cons.mpr ⟨zco_S S hKK hA ⟨Nat.zero_le _, Nat.zero_le _⟩ (va_cwS 1 S.2.2.2.2 (zgoodS zw351 zw352 zw50 zw353) rfl rfl rfl (by decide +kernel) (by decide +kernel)) (sX6_isDigit l), fun _ h => absurd h List.not_mem_nil⟩⟩) ix (n, G) h⟩) (by decide)
def iX6_beginsItem : List (Option zI) := [some (.aload_n 0, 0, 1, []), some (.getfield 33, 0, 4, []), none, none, some (.iconst 1, 1, 5, []), some (.if_icmp .eq 5, 0, 8, [10]), none, none, some (.iconst 0, 0, 9, []), some (.ireturn, 0, 10, []), some (.aload_n 0, 0, 11, []), some (.getfield 83, 0, 14, []), none, none, some (.lookupswitch 122 #[(101, 84), (109, 42), (112, 65), (119, 103)], 0, 56, [136, 98, 56, 79, 117]), none, none, none, none, none, none, none, none, none, none, none, none, none, none, none, none, none, none, none, none, none, none, none, none, none, none, none, none, none, none, none, none, none, none, none, none, none, none, none, none, none, some (.aload_n 0, 0, 57, []), some (.iconst 1, 1, 58, []), some (.putfield 36, 0, 61, []), none, none, some (.aload_n 0, 0, 62, []), some (.getfield 12, 0, 65, []), none, none, some (.getfield 52, 0, 68, []), none, none, some (.bipush 7, 7, 70, []), none, some (.if_icmp .ge 7, 0, 73, [77]), none, none, some (.iconst 1, 1, 74, []), some (.goto 4, 0, 77, [78]), none, none, some (.iconst 0, 0, 78, []), some (.ireturn, 0, 79, []), some (.aload_n 0, 0, 80, []), some (.iconst 3, 3, 81, []), some (.putfield 36, 0, 84, []), none, none, some (.aload_n 0, 0, 85, []), some (.getfield 55, 0, 88, []), none, none, some (.iconst (-1), (-1), 89, []), some (.if_icmp .ne 7, 0, 92, [96]), none, none, some (.iconst 1, 1, 93, []), some (.goto 4, 0, 96, [97]), none, none, some (.iconst 0, 0, 97, []), some (.ireturn, 0, 98, []), some (.aload_n 0, 0, 99, []), some (.iconst 4, 4, 100, []), some (.putfield 36, 0, 103, []), none, none, some (.aload_n 0, 0, 104, []), some (.getfield 58, 0, 107, []), none, none, some (.iconst (-1), (-1), 108, []), some (.if_icmp .ne 7, 0, 111, [115]), none, none, some (.iconst 1, 1, 112, []), some (.goto 4, 0, 115, [116]), none, none, some (.iconst 0, 0, 116, []), some (.ireturn, 0, 117, []), some (.aload_n 0, 0, 118, []), some (.iconst 5, 5, 119, []), some (.putfield 36, 0, 122, []), none, none, some (.aload_n 0, 0, 123, []), some (.getfield 61, 0, 126, []), none, none, some (.iconst (-1), (-1), 127, []), some (.if_icmp .ne 7, 0, 130, [134]), none, none, some (.iconst 1, 1, 131, []), some (.goto 4, 0, 134, [135]), none, none, some (.iconst 0, 0, 135, []), some (.ireturn, 0, 136, []), some (.iconst 0, 0, 137, []), some (.ireturn, 0, 138, [])]
def mX6_beginsItem : zM := (iX6_beginsItem, [(12, 6, 0, (.object "RankWheels$Men")), (33, 6, 9, .int), (52, 2, 0, .int), (55, 6, 1, .int), (58, 6, 2, .int), (61, 6, 3, .int), (83, 6, 10, .int)], [(36, 6, 11, .int)], [], [], [], [], [])
theorem kX6_beginsItem : zchkL cX6_beginsItem 0 iX6_beginsItem = true := by decide +kernel
set_option maxRecDepth 20000 in
theorem gX6_beginsItem : zGood mX6_beginsItem cX6_beginsItem yX6_beginsItem.cls (zwd yX6_beginsItem cX6_beginsItem 1 (zret 3)) := ⟨fun pc x h => by
    have h1 := zchkL_at kX6_beginsItem pc x h
    rw [Nat.zero_add] at h1
    exact h1, zlookF (fin := false) [(12, 6, 0, (.object "RankWheels$Men")), (33, 6, 9, .int), (52, 2, 0, .int), (55, 6, 1, .int), (58, 6, 2, .int), (61, 6, 3, .int), (83, 6, 10, .int)] (List.forall_mem_cons.mpr ⟨⟨(RX6, TX6, 13), rfl, by decide, List.mem_cons_of_mem _ zw100, fun w h => List.mem_cons_of_mem _ (zX6 w h), by decide +kernel, fun h => by cases h⟩, List.forall_mem_cons.mpr ⟨⟨(RX6, TX6, 13), rfl, by decide, List.mem_cons_of_mem _ zw115, fun w h => List.mem_cons_of_mem _ (zX6 w h), by decide +kernel, fun h => by cases h⟩, List.forall_mem_cons.mpr ⟨⟨(RX2, TX2, 3), rfl, by decide, List.mem_cons_of_mem _ zw83, fun w h => List.mem_cons_of_mem _ (zX2 w h), by decide +kernel, fun h => by cases h⟩, List.forall_mem_cons.mpr ⟨⟨(RX6, TX6, 13), rfl, by decide, List.mem_cons_of_mem _ zw102, fun w h => List.mem_cons_of_mem _ (zX6 w h), by decide +kernel, fun h => by cases h⟩, List.forall_mem_cons.mpr ⟨⟨(RX6, TX6, 13), rfl, by decide, List.mem_cons_of_mem _ zw104, fun w h => List.mem_cons_of_mem _ (zX6 w h), by decide +kernel, fun h => by cases h⟩, List.forall_mem_cons.mpr ⟨⟨(RX6, TX6, 13), rfl, by decide, List.mem_cons_of_mem _ zw106, fun w h => List.mem_cons_of_mem _ (zX6 w h), by decide +kernel, fun h => by cases h⟩, List.forall_mem_cons.mpr ⟨⟨(RX6, TX6, 13), rfl, by decide, List.mem_cons_of_mem _ zw116, fun w h => List.mem_cons_of_mem _ (zX6 w h), by decide +kernel, fun h => by cases h⟩, fun _ h => absurd h List.not_mem_nil⟩⟩⟩⟩⟩⟩⟩), zlookF (fin := true) [(36, 6, 11, .int)] (List.forall_mem_cons.mpr ⟨⟨(RX6, TX6, 13), rfl, by decide, List.mem_cons_of_mem _ zw117, fun w h => List.mem_cons_of_mem _ (zX6 w h), by decide +kernel, fun _ => rfl⟩, fun _ h => absurd h List.not_mem_nil⟩), zlookup (β := Int32) (L := []) (P := fun ix b => Jvm.Cond.constant yX6_beginsItem.cls ix b ∈ (zwd yX6_beginsItem cX6_beginsItem 1 (zret 3))) (fun _ h => absurd h List.not_mem_nil), zlookup (β := Int64) (L := []) (P := fun ix b => Jvm.Cond.constantLong yX6_beginsItem.cls ix b ∈ (zwd yX6_beginsItem cX6_beginsItem 1 (zret 3))) (fun _ h => absurd h List.not_mem_nil), zlookup (β := Nat) (L := []) (P := fun ix b => zmok yX6_beginsItem.cls (zwd yX6_beginsItem cX6_beginsItem 1 (zret 3)) ix b) (fun _ h => absurd h List.not_mem_nil)⟩
set_option maxRecDepth 20000 in
theorem sX6_beginsItem (l : Launch) : ∀ (as : List Value) (ws : zW) (K : zP), zFr 1 (zGoes mX6_beginsItem 3 1) as ws K → zMet l yX6_beginsItem (zwd yX6_beginsItem cX6_beginsItem 1 (zret 3)) { frames := 1, cells := 0, slots := 0, locals := 200 } 3 as ws K := zFr_met (by decide +kernel) (by decide) (by decide) gX6_beginsItem (fun p e s m args below meth c D cy ad A n0 Q S hKK hA => ⟨fun ix n G h => zlookup (β := Nat × zG) (L := []) (P := fun ix b => zCO p l e { frames := 1, cells := 0, slots := 0, locals := 200 } s m args below meth c cX6_beginsItem 1 D cy ad A n0 0 0 Q (.invokevirtual ix) b.1 b.2) (fun _ h => absurd h List.not_mem_nil) ix (n, G) h, fun ix n G h => zlookup (β := Nat × zG) (L := []) (P := fun ix b => zCO p l e { frames := 1, cells := 0, slots := 0, locals := 200 } s m args below meth c cX6_beginsItem 1 D cy ad A n0 0 0 Q (.invokestatic ix) b.1 b.2) (fun _ h => absurd h List.not_mem_nil) ix (n, G) h⟩) (by decide)
def iX6_numberWithin : List (Option zI) := [some (.aload_n 0, 0, 1, []), some (.getfield 33, 0, 4, []), none, none, some (.iconst 2, 2, 5, []), some (.if_icmp .ne 22, 0, 8, [27]), none, none, some (.aload_n 0, 0, 9, []), some (.getfield 83, 0, 12, []), none, none, some (.iload_n 1, 0, 13, []), some (.iload_n 2, 0, 14, []), some (.invokestatic 90, 0, 17, []), none, none, some (.ifCond .eq 10, 0, 20, [27]), none, none, some (.aload_n 0, 0, 21, []), some (.getfield 83, 0, 24, []), none, none, some (.goto 4, 0, 27, [28]), none, none, some (.iconst (-1), (-1), 28, []), some (.ireturn, 0, 29, [])]
def mX6_numberWithin : zM := (iX6_numberWithin, [(33, 6, 9, .int), (83, 6, 10, .int)], [], [], [], [], [], [(90, 3, zFr 3 (zGoes mX7_within 3 3))])
theorem kX6_numberWithin : zchkL cX6_numberWithin 0 iX6_numberWithin = true := by decide +kernel
set_option maxRecDepth 20000 in
theorem gX6_numberWithin : zGood mX6_numberWithin cX6_numberWithin yX6_numberWithin.cls (zwd yX6_numberWithin cX6_numberWithin 3 (zret 1)) := ⟨fun pc x h => by
    have h1 := zchkL_at kX6_numberWithin pc x h
    rw [Nat.zero_add] at h1
    exact h1, zlookF (fin := false) [(33, 6, 9, .int), (83, 6, 10, .int)] (List.forall_mem_cons.mpr ⟨⟨(RX6, TX6, 13), rfl, by decide, List.mem_cons_of_mem _ zw115, fun w h => List.mem_cons_of_mem _ (zX6 w h), by decide +kernel, fun h => by cases h⟩, List.forall_mem_cons.mpr ⟨⟨(RX6, TX6, 13), rfl, by decide, List.mem_cons_of_mem _ zw116, fun w h => List.mem_cons_of_mem _ (zX6 w h), by decide +kernel, fun h => by cases h⟩, fun _ h => absurd h List.not_mem_nil⟩⟩), zlookF (fin := true) [] (fun _ h => absurd h List.not_mem_nil), zlookup (β := Int32) (L := []) (P := fun ix b => Jvm.Cond.constant yX6_numberWithin.cls ix b ∈ (zwd yX6_numberWithin cX6_numberWithin 3 (zret 1))) (fun _ h => absurd h List.not_mem_nil), zlookup (β := Int64) (L := []) (P := fun ix b => Jvm.Cond.constantLong yX6_numberWithin.cls ix b ∈ (zwd yX6_numberWithin cX6_numberWithin 3 (zret 1))) (fun _ h => absurd h List.not_mem_nil), zlookup (β := Nat) (L := []) (P := fun ix b => zmok yX6_numberWithin.cls (zwd yX6_numberWithin cX6_numberWithin 3 (zret 1)) ix b) (fun _ h => absurd h List.not_mem_nil)⟩
set_option maxRecDepth 20000 in
theorem sX6_numberWithin (l : Launch) : ∀ (as : List Value) (ws : zW) (K : zP), zFr 3 (zGoes mX6_numberWithin 1 3) as ws K → zMet l yX6_numberWithin (zwd yX6_numberWithin cX6_numberWithin 3 (zret 1)) { frames := 2, cells := 0, slots := 0, locals := 400 } 1 as ws K := zFr_met (by decide +kernel) (by decide) (by decide) gX6_numberWithin (fun p e s m args below meth c D cy ad A n0 Q S hKK hA => ⟨fun ix n G h => zlookup (β := Nat × zG) (L := []) (P := fun ix b => zCO p l e { frames := 2, cells := 0, slots := 0, locals := 400 } s m args below meth c cX6_numberWithin 3 D cy ad A n0 0 0 Q (.invokevirtual ix) b.1 b.2) (fun _ h => absurd h List.not_mem_nil) ix (n, G) h, fun ix n G h => zlookup (β := Nat × zG) (L := [(90, 3, zFr 3 (zGoes mX7_within 3 3))]) (P := fun ix b => zCO p l e { frames := 2, cells := 0, slots := 0, locals := 400 } s m args below meth c cX6_numberWithin 3 D cy ad A n0 0 0 Q (.invokestatic ix) b.1 b.2) (List.forall_mem_cons.mpr ⟨zco_N (host := RX7) S hKK hA ⟨Nat.zero_le _, Nat.zero_le _⟩ ⟨va_cnB 3 S.2.2.2.2 (zgoodN zw319) rfl rfl rfl (hKK.2 _ (List.mem_of_getElem? (i := 6) rfl)) (S.2.2.2.2 _ (List.mem_cons_of_mem _ zw49)) (by decide +kernel) (by decide +kernel), S.2.2.2.2 _ (List.mem_cons_of_mem _ zw318), trivial⟩ (sX7_within l), fun _ h => absurd h List.not_mem_nil⟩) ix (n, G) h⟩) (by decide)
def iX6_endsMan : List (Option zI) := [some (.aload_n 0, 0, 1, []), some (.bipush 6, 6, 3, []), none, some (.putfield 36, 0, 6, []), none, none, some (.iload_n 1, 0, 7, []), some (.iconst (-1), (-1), 8, []), some (.if_icmp .ne 5, 0, 11, [13]), none, none, some (.iconst 0, 0, 12, []), some (.ireturn, 0, 13, []), some (.aload_n 0, 0, 14, []), some (.getfield 12, 0, 17, []), none, none, some (.aload_n 0, 0, 18, []), some (.getfield 73, 0, 21, []), none, none, some (.iload_n 1, 0, 22, []), some (.invokevirtual 86, 0, 25, []), none, none, some (.iconst 1, 1, 26, []), some (.ireturn, 0, 27, [])]
def mX6_endsMan : zM := (iX6_endsMan, [(12, 6, 0, (.object "RankWheels$Men")), (73, 6, 12, .int)], [(36, 6, 11, .int)], [], [], [], [(86, 3, zFV 2 3 (zGoes mX2_join 0 3))], [])
theorem kX6_endsMan : zchkL cX6_endsMan 0 iX6_endsMan = true := by decide +kernel
set_option maxRecDepth 20000 in
theorem gX6_endsMan : zGood mX6_endsMan cX6_endsMan yX6_endsMan.cls (zwd yX6_endsMan cX6_endsMan 2 (zret 3)) := ⟨fun pc x h => by
    have h1 := zchkL_at kX6_endsMan pc x h
    rw [Nat.zero_add] at h1
    exact h1, zlookF (fin := false) [(12, 6, 0, (.object "RankWheels$Men")), (73, 6, 12, .int)] (List.forall_mem_cons.mpr ⟨⟨(RX6, TX6, 13), rfl, by decide, List.mem_cons_of_mem _ zw100, fun w h => List.mem_cons_of_mem _ (zX6 w h), by decide +kernel, fun h => by cases h⟩, List.forall_mem_cons.mpr ⟨⟨(RX6, TX6, 13), rfl, by decide, List.mem_cons_of_mem _ zw118, fun w h => List.mem_cons_of_mem _ (zX6 w h), by decide +kernel, fun h => by cases h⟩, fun _ h => absurd h List.not_mem_nil⟩⟩), zlookF (fin := true) [(36, 6, 11, .int)] (List.forall_mem_cons.mpr ⟨⟨(RX6, TX6, 13), rfl, by decide, List.mem_cons_of_mem _ zw117, fun w h => List.mem_cons_of_mem _ (zX6 w h), by decide +kernel, fun _ => rfl⟩, fun _ h => absurd h List.not_mem_nil⟩), zlookup (β := Int32) (L := []) (P := fun ix b => Jvm.Cond.constant yX6_endsMan.cls ix b ∈ (zwd yX6_endsMan cX6_endsMan 2 (zret 3))) (fun _ h => absurd h List.not_mem_nil), zlookup (β := Int64) (L := []) (P := fun ix b => Jvm.Cond.constantLong yX6_endsMan.cls ix b ∈ (zwd yX6_endsMan cX6_endsMan 2 (zret 3))) (fun _ h => absurd h List.not_mem_nil), zlookup (β := Nat) (L := []) (P := fun ix b => zmok yX6_endsMan.cls (zwd yX6_endsMan cX6_endsMan 2 (zret 3)) ix b) (fun _ h => absurd h List.not_mem_nil)⟩
set_option maxRecDepth 20000 in
theorem sX6_endsMan (l : Launch) : ∀ (as : List Value) (ws : zW) (K : zP), zFr 2 (zGoes mX6_endsMan 3 2) as ws K → zMet l yX6_endsMan (zwd yX6_endsMan cX6_endsMan 2 (zret 3)) { frames := 2, cells := 0, slots := 0, locals := 400 } 3 as ws K := zFr_met (by decide +kernel) (by decide) (by decide) gX6_endsMan (fun p e s m args below meth c D cy ad A n0 Q S hKK hA => ⟨fun ix n G h => zlookup (β := Nat × zG) (L := [(86, 3, zFV 2 3 (zGoes mX2_join 0 3))]) (P := fun ix b => zCO p l e { frames := 2, cells := 0, slots := 0, locals := 400 } s m args below meth c cX6_endsMan 2 D cy ad A n0 0 0 Q (.invokevirtual ix) b.1 b.2) (List.forall_mem_cons.mpr ⟨zco_V (ci := 2) S hKK hA ⟨Nat.zero_le _, Nat.zero_le _⟩ (cwV 2 S.2.2.2.2 (zgoodV zw374 zw375 zw376 zw51 zw377) rfl rfl rfl (by decide +kernel) (by decide +kernel)) rfl rfl (sX2_join l), fun _ h => absurd h List.not_mem_nil⟩) ix (n, G) h, fun ix n G h => zlookup (β := Nat × zG) (L := []) (P := fun ix b => zCO p l e { frames := 2, cells := 0, slots := 0, locals := 400 } s m args below meth c cX6_endsMan 2 D cy ad A n0 0 0 Q (.invokestatic ix) b.1 b.2) (fun _ h => absurd h List.not_mem_nil) ix (n, G) h⟩) (by decide)
def iX6_endsItem : List (Option zI) := [some (.aload_n 0, 0, 1, []), some (.iconst 0, 0, 2, []), some (.putfield 36, 0, 5, []), none, none, some (.aload_n 0, 0, 6, []), some (.dup, 0, 7, []), some (.getfield 64, 0, 10, []), none, none, some (.iconst 1, 1, 11, []), some (.iadd, 0, 12, []), some (.putfield 64, 0, 15, []), none, none, some (.aload_n 0, 0, 16, []), some (.getfield 33, 0, 19, []), none, none, some (.iconst 3, 3, 20, []), some (.if_icmp .ne 7, 0, 23, [27]), none, none, some (.iconst 1, 1, 24, []), some (.goto 4, 0, 27, [28]), none, none, some (.iconst 0, 0, 28, []), some (.ireturn, 0, 29, [])]
def mX6_endsItem : zM := (iX6_endsItem, [(33, 6, 9, .int), (64, 6, 4, .int)], [(36, 6, 11, .int), (64, 6, 4, .int)], [], [], [], [], [])
theorem kX6_endsItem : zchkL cX6_endsItem 0 iX6_endsItem = true := by decide +kernel
set_option maxRecDepth 20000 in
theorem gX6_endsItem : zGood mX6_endsItem cX6_endsItem yX6_endsItem.cls (zwd yX6_endsItem cX6_endsItem 1 (zret 3)) := ⟨fun pc x h => by
    have h1 := zchkL_at kX6_endsItem pc x h
    rw [Nat.zero_add] at h1
    exact h1, zlookF (fin := false) [(33, 6, 9, .int), (64, 6, 4, .int)] (List.forall_mem_cons.mpr ⟨⟨(RX6, TX6, 13), rfl, by decide, List.mem_cons_of_mem _ zw115, fun w h => List.mem_cons_of_mem _ (zX6 w h), by decide +kernel, fun h => by cases h⟩, List.forall_mem_cons.mpr ⟨⟨(RX6, TX6, 13), rfl, by decide, List.mem_cons_of_mem _ zw108, fun w h => List.mem_cons_of_mem _ (zX6 w h), by decide +kernel, fun h => by cases h⟩, fun _ h => absurd h List.not_mem_nil⟩⟩), zlookF (fin := true) [(36, 6, 11, .int), (64, 6, 4, .int)] (List.forall_mem_cons.mpr ⟨⟨(RX6, TX6, 13), rfl, by decide, List.mem_cons_of_mem _ zw117, fun w h => List.mem_cons_of_mem _ (zX6 w h), by decide +kernel, fun _ => rfl⟩, List.forall_mem_cons.mpr ⟨⟨(RX6, TX6, 13), rfl, by decide, List.mem_cons_of_mem _ zw108, fun w h => List.mem_cons_of_mem _ (zX6 w h), by decide +kernel, fun _ => rfl⟩, fun _ h => absurd h List.not_mem_nil⟩⟩), zlookup (β := Int32) (L := []) (P := fun ix b => Jvm.Cond.constant yX6_endsItem.cls ix b ∈ (zwd yX6_endsItem cX6_endsItem 1 (zret 3))) (fun _ h => absurd h List.not_mem_nil), zlookup (β := Int64) (L := []) (P := fun ix b => Jvm.Cond.constantLong yX6_endsItem.cls ix b ∈ (zwd yX6_endsItem cX6_endsItem 1 (zret 3))) (fun _ h => absurd h List.not_mem_nil), zlookup (β := Nat) (L := []) (P := fun ix b => zmok yX6_endsItem.cls (zwd yX6_endsItem cX6_endsItem 1 (zret 3)) ix b) (fun _ h => absurd h List.not_mem_nil)⟩
set_option maxRecDepth 20000 in
theorem sX6_endsItem (l : Launch) : ∀ (as : List Value) (ws : zW) (K : zP), zFr 1 (zGoes mX6_endsItem 3 1) as ws K → zMet l yX6_endsItem (zwd yX6_endsItem cX6_endsItem 1 (zret 3)) { frames := 1, cells := 0, slots := 0, locals := 200 } 3 as ws K := zFr_met (by decide +kernel) (by decide) (by decide) gX6_endsItem (fun p e s m args below meth c D cy ad A n0 Q S hKK hA => ⟨fun ix n G h => zlookup (β := Nat × zG) (L := []) (P := fun ix b => zCO p l e { frames := 1, cells := 0, slots := 0, locals := 200 } s m args below meth c cX6_endsItem 1 D cy ad A n0 0 0 Q (.invokevirtual ix) b.1 b.2) (fun _ h => absurd h List.not_mem_nil) ix (n, G) h, fun ix n G h => zlookup (β := Nat × zG) (L := []) (P := fun ix b => zCO p l e { frames := 1, cells := 0, slots := 0, locals := 200 } s m args below meth c cX6_endsItem 1 D cy ad A n0 0 0 Q (.invokestatic ix) b.1 b.2) (fun _ h => absurd h List.not_mem_nil) ix (n, G) h⟩) (by decide)
def iX6_tokenStands : List (Option zI) := [some (.aload_n 0, 0, 1, []), some (.getfield 36, 0, 4, []), none, none, some (.tableswitch 180 0 5 #[40, 45, 75, 87, 118, 149], 0, 44, [184, 44, 49, 79, 91, 122, 153]), none, none, none, none, none, none, none, none, none, none, none, none, none, none, none, none, none, none, none, none, none, none, none, none, none, none, none, none, none, none, none, none, none, none, none, none, none, none, none, some (.aload_n 0, 0, 45, []), some (.invokevirtual 67, 0, 48, []), none, none, some (.ireturn, 0, 49, []), some (.aload_n 0, 0, 50, []), some (.aload_n 0, 0, 51, []), some (.iconst 1, 1, 52, []), some (.bipush 60, 60, 54, []), none, some (.invokevirtual 70, 0, 57, []), none, none, some (.putfield 73, 0, 60, []), none, none, some (.aload_n 0, 0, 61, []), some (.iconst 2, 2, 62, []), some (.putfield 36, 0, 65, []), none, none, some (.aload_n 0, 0, 66, []), some (.getfield 73, 0, 69, []), none, none, some (.iconst (-1), (-1), 70, []), some (.if_icmp .eq 7, 0, 73, [77]), none, none, some (.iconst 1, 1, 74, []), some (.goto 4, 0, 77, [78]), none, none, some (.iconst 0, 0, 78, []), some (.ireturn, 0, 79, []), some (.aload_n 0, 0, 80, []), some (.aload_n 0, 0, 81, []), some (.iconst 1, 1, 82, []), some (.bipush 99, 99, 84, []), none, some (.invokevirtual 70, 0, 87, []), none, none, some (.invokevirtual 76, 0, 90, []), none, none, some (.ireturn, 0, 91, []), some (.aload_n 0, 0, 92, []), some (.aload_n 0, 0, 93, []), some (.iconst 1, 1, 94, []), some (.bipush 60, 60, 96, []), none, some (.invokevirtual 70, 0, 99, []), none, none, some (.putfield 55, 0, 102, []), none, none, some (.aload_n 0, 0, 103, []), some (.bipush 6, 6, 105, []), none, some (.putfield 36, 0, 108, []), none, none, some (.aload_n 0, 0, 109, []), some (.getfield 55, 0, 112, []), none, none, some (.iconst (-1), (-1), 113, []), some (.if_icmp .eq 7, 0, 116, [120]), none, none, some (.iconst 1, 1, 117, []), some (.goto 4, 0, 120, [121]), none, none, some (.iconst 0, 0, 121, []), some (.ireturn, 0, 122, []), some (.aload_n 0, 0, 123, []), some (.aload_n 0, 0, 124, []), some (.iconst 0, 0, 125, []), some (.bipush 10, 10, 127, []), none, some (.invokevirtual 70, 0, 130, []), none, none, some (.putfield 58, 0, 133, []), none, none, some (.aload_n 0, 0, 134, []), some (.bipush 6, 6, 136, []), none, some (.putfield 36, 0, 139, []), none, none, some (.aload_n 0, 0, 140, []), some (.getfield 58, 0, 143, []), none, none, some (.iconst (-1), (-1), 144, []), some (.if_icmp .eq 7, 0, 147, [151]), none, none, some (.iconst 1, 1, 148, []), some (.goto 4, 0, 151, [152]), none, none, some (.iconst 0, 0, 152, []), some (.ireturn, 0, 153, []), some (.aload_n 0, 0, 154, []), some (.aload_n 0, 0, 155, []), some (.iconst 0, 0, 156, []), some (.bipush 10, 10, 158, []), none, some (.invokevirtual 70, 0, 161, []), none, none, some (.putfield 61, 0, 164, []), none, none, some (.aload_n 0, 0, 165, []), some (.bipush 6, 6, 167, []), none, some (.putfield 36, 0, 170, []), none, none, some (.aload_n 0, 0, 171, []), some (.getfield 61, 0, 174, []), none, none, some (.iconst (-1), (-1), 175, []), some (.if_icmp .eq 7, 0, 178, [182]), none, none, some (.iconst 1, 1, 179, []), some (.goto 4, 0, 182, [183]), none, none, some (.iconst 0, 0, 183, []), some (.ireturn, 0, 184, []), some (.aload_n 0, 0, 185, []), some (.invokevirtual 80, 0, 188, []), none, none, some (.ireturn, 0, 189, [])]
def mX6_tokenStands : zM := (iX6_tokenStands, [(36, 6, 11, .int), (55, 6, 1, .int), (58, 6, 2, .int), (61, 6, 3, .int), (73, 6, 12, .int)], [(36, 6, 11, .int), (55, 6, 1, .int), (58, 6, 2, .int), (61, 6, 3, .int), (73, 6, 12, .int)], [], [], [], [(67, 1, zFV 6 1 (zGoes mX6_beginsItem 3 1)), (70, 3, zFV 6 3 (zGoes mX6_numberWithin 1 3)), (76, 2, zFV 6 2 (zGoes mX6_endsMan 3 2)), (80, 1, zFV 6 1 (zGoes mX6_endsItem 3 1))], [])
theorem kX6_tokenStands : zchkL cX6_tokenStands 0 iX6_tokenStands = true := by decide +kernel
set_option maxRecDepth 20000 in
theorem gX6_tokenStands : zGood mX6_tokenStands cX6_tokenStands yX6_tokenStands.cls (zwd yX6_tokenStands cX6_tokenStands 1 (zret 3)) := ⟨fun pc x h => by
    have h1 := zchkL_at kX6_tokenStands pc x h
    rw [Nat.zero_add] at h1
    exact h1, zlookF (fin := false) [(36, 6, 11, .int), (55, 6, 1, .int), (58, 6, 2, .int), (61, 6, 3, .int), (73, 6, 12, .int)] (List.forall_mem_cons.mpr ⟨⟨(RX6, TX6, 13), rfl, by decide, List.mem_cons_of_mem _ zw117, fun w h => List.mem_cons_of_mem _ (zX6 w h), by decide +kernel, fun h => by cases h⟩, List.forall_mem_cons.mpr ⟨⟨(RX6, TX6, 13), rfl, by decide, List.mem_cons_of_mem _ zw102, fun w h => List.mem_cons_of_mem _ (zX6 w h), by decide +kernel, fun h => by cases h⟩, List.forall_mem_cons.mpr ⟨⟨(RX6, TX6, 13), rfl, by decide, List.mem_cons_of_mem _ zw104, fun w h => List.mem_cons_of_mem _ (zX6 w h), by decide +kernel, fun h => by cases h⟩, List.forall_mem_cons.mpr ⟨⟨(RX6, TX6, 13), rfl, by decide, List.mem_cons_of_mem _ zw106, fun w h => List.mem_cons_of_mem _ (zX6 w h), by decide +kernel, fun h => by cases h⟩, List.forall_mem_cons.mpr ⟨⟨(RX6, TX6, 13), rfl, by decide, List.mem_cons_of_mem _ zw118, fun w h => List.mem_cons_of_mem _ (zX6 w h), by decide +kernel, fun h => by cases h⟩, fun _ h => absurd h List.not_mem_nil⟩⟩⟩⟩⟩), zlookF (fin := true) [(36, 6, 11, .int), (55, 6, 1, .int), (58, 6, 2, .int), (61, 6, 3, .int), (73, 6, 12, .int)] (List.forall_mem_cons.mpr ⟨⟨(RX6, TX6, 13), rfl, by decide, List.mem_cons_of_mem _ zw117, fun w h => List.mem_cons_of_mem _ (zX6 w h), by decide +kernel, fun _ => rfl⟩, List.forall_mem_cons.mpr ⟨⟨(RX6, TX6, 13), rfl, by decide, List.mem_cons_of_mem _ zw102, fun w h => List.mem_cons_of_mem _ (zX6 w h), by decide +kernel, fun _ => rfl⟩, List.forall_mem_cons.mpr ⟨⟨(RX6, TX6, 13), rfl, by decide, List.mem_cons_of_mem _ zw104, fun w h => List.mem_cons_of_mem _ (zX6 w h), by decide +kernel, fun _ => rfl⟩, List.forall_mem_cons.mpr ⟨⟨(RX6, TX6, 13), rfl, by decide, List.mem_cons_of_mem _ zw106, fun w h => List.mem_cons_of_mem _ (zX6 w h), by decide +kernel, fun _ => rfl⟩, List.forall_mem_cons.mpr ⟨⟨(RX6, TX6, 13), rfl, by decide, List.mem_cons_of_mem _ zw118, fun w h => List.mem_cons_of_mem _ (zX6 w h), by decide +kernel, fun _ => rfl⟩, fun _ h => absurd h List.not_mem_nil⟩⟩⟩⟩⟩), zlookup (β := Int32) (L := []) (P := fun ix b => Jvm.Cond.constant yX6_tokenStands.cls ix b ∈ (zwd yX6_tokenStands cX6_tokenStands 1 (zret 3))) (fun _ h => absurd h List.not_mem_nil), zlookup (β := Int64) (L := []) (P := fun ix b => Jvm.Cond.constantLong yX6_tokenStands.cls ix b ∈ (zwd yX6_tokenStands cX6_tokenStands 1 (zret 3))) (fun _ h => absurd h List.not_mem_nil), zlookup (β := Nat) (L := []) (P := fun ix b => zmok yX6_tokenStands.cls (zwd yX6_tokenStands cX6_tokenStands 1 (zret 3)) ix b) (fun _ h => absurd h List.not_mem_nil)⟩
set_option maxRecDepth 20000 in
theorem sX6_tokenStands (l : Launch) : ∀ (as : List Value) (ws : zW) (K : zP), zFr 1 (zGoes mX6_tokenStands 3 1) as ws K → zMet l yX6_tokenStands (zwd yX6_tokenStands cX6_tokenStands 1 (zret 3)) { frames := 3, cells := 0, slots := 0, locals := 600 } 3 as ws K := zFr_met (by decide +kernel) (by decide) (by decide) gX6_tokenStands (fun p e s m args below meth c D cy ad A n0 Q S hKK hA => ⟨fun ix n G h => zlookup (β := Nat × zG) (L := [(67, 1, zFV 6 1 (zGoes mX6_beginsItem 3 1)), (70, 3, zFV 6 3 (zGoes mX6_numberWithin 1 3)), (76, 2, zFV 6 2 (zGoes mX6_endsMan 3 2)), (80, 1, zFV 6 1 (zGoes mX6_endsItem 3 1))]) (P := fun ix b => zCO p l e { frames := 3, cells := 0, slots := 0, locals := 600 } s m args below meth c cX6_tokenStands 1 D cy ad A n0 0 0 Q (.invokevirtual ix) b.1 b.2) (List.forall_mem_cons.mpr ⟨zco_V (ci := 6) S hKK hA ⟨Nat.zero_le _, Nat.zero_le _⟩ (cwV 0 S.2.2.2.2 (zgoodV zw362 zw364 zw5 zw50 zw365) rfl rfl rfl (by decide +kernel) (by decide +kernel)) rfl rfl (sX6_beginsItem l), List.forall_mem_cons.mpr ⟨zco_V (ci := 6) S hKK hA ⟨Nat.zero_le _, Nat.zero_le _⟩ (cwV 2 S.2.2.2.2 (zgoodV zw366 zw368 zw6 zw50 zw369) rfl rfl rfl (by decide +kernel) (by decide +kernel)) rfl rfl (sX6_numberWithin l), List.forall_mem_cons.mpr ⟨zco_V (ci := 6) S hKK hA ⟨Nat.zero_le _, Nat.zero_le _⟩ (cwV 1 S.2.2.2.2 (zgoodV zw370 zw372 zw7 zw50 zw373) rfl rfl rfl (by decide +kernel) (by decide +kernel)) rfl rfl (sX6_endsMan l), List.forall_mem_cons.mpr ⟨zco_V (ci := 6) S hKK hA ⟨Nat.zero_le _, Nat.zero_le _⟩ (cwV 0 S.2.2.2.2 (zgoodV zw378 zw380 zw8 zw50 zw381) rfl rfl rfl (by decide +kernel) (by decide +kernel)) rfl rfl (sX6_endsItem l), fun _ h => absurd h List.not_mem_nil⟩⟩⟩⟩) ix (n, G) h, fun ix n G h => zlookup (β := Nat × zG) (L := []) (P := fun ix b => zCO p l e { frames := 3, cells := 0, slots := 0, locals := 600 } s m args below meth c cX6_tokenStands 1 D cy ad A n0 0 0 Q (.invokestatic ix) b.1 b.2) (fun _ h => absurd h List.not_mem_nil) ix (n, G) h⟩) (by decide)
def iX6_understands : List (Option zI) := [some (.aload_n 0, 0, 1, []), some (.aload_n 1, 0, 2, []), some (.iload_n 2, 0, 3, []), some (.invokevirtual 22, 0, 6, []), none, none, some (.iconst 0, 0, 7, []), some (.istore_n 3, 0, 8, []), some (.iload_n 3, 0, 9, []), some (.aload_n 0, 0, 10, []), some (.getfield 26, 0, 13, []), none, none, some (.if_icmp .gt 42, 0, 16, [55]), none, none, some (.aload_n 0, 0, 17, []), some (.invokevirtual 30, 0, 20, []), none, none, some (.aload_n 0, 0, 21, []), some (.getfield 33, 0, 24, []), none, none, some (.ifCond .ne 16, 0, 27, [40]), none, none, some (.aload_n 0, 0, 28, []), some (.getfield 36, 0, 31, []), none, none, some (.ifCond .ne 7, 0, 34, [38]), none, none, some (.iconst 1, 1, 35, []), some (.goto 4, 0, 38, [39]), none, none, some (.iconst 0, 0, 39, []), some (.ireturn, 0, 40, []), some (.aload_n 0, 0, 41, []), some (.invokevirtual 39, 0, 44, []), none, none, some (.ifCond .ne 5, 0, 47, [49]), none, none, some (.iconst 0, 0, 48, []), some (.ireturn, 0, 49, []), some (.iinc 3 1, 1, 52, []), none, none, some (.goto (-44), 0, 55, [8]), none, none, some (.iconst 0, 0, 56, []), some (.ireturn, 0, 57, [])]
def mX6_understands : zM := (iX6_understands, [(26, 6, 7, .int), (33, 6, 9, .int), (36, 6, 11, .int)], [], [], [], [], [(22, 3, zFV 6 3 (zGoes mX6_beginWith 0 3)), (30, 1, zFV 6 1 (zGoes mX6_readToken 0 1)), (39, 1, zFV 6 1 (zGoes mX6_tokenStands 3 1))], [])
theorem kX6_understands : zchkL cX6_understands 0 iX6_understands = true := by decide +kernel
set_option maxRecDepth 20000 in
theorem gX6_understands : zGood mX6_understands cX6_understands yX6_understands.cls (zwd yX6_understands cX6_understands 4 (zret 3)) := ⟨fun pc x h => by
    have h1 := zchkL_at kX6_understands pc x h
    rw [Nat.zero_add] at h1
    exact h1, zlookF (fin := false) [(26, 6, 7, .int), (33, 6, 9, .int), (36, 6, 11, .int)] (List.forall_mem_cons.mpr ⟨⟨(RX6, TX6, 13), rfl, by decide, List.mem_cons_of_mem _ zw113, fun w h => List.mem_cons_of_mem _ (zX6 w h), by decide +kernel, fun h => by cases h⟩, List.forall_mem_cons.mpr ⟨⟨(RX6, TX6, 13), rfl, by decide, List.mem_cons_of_mem _ zw115, fun w h => List.mem_cons_of_mem _ (zX6 w h), by decide +kernel, fun h => by cases h⟩, List.forall_mem_cons.mpr ⟨⟨(RX6, TX6, 13), rfl, by decide, List.mem_cons_of_mem _ zw117, fun w h => List.mem_cons_of_mem _ (zX6 w h), by decide +kernel, fun h => by cases h⟩, fun _ h => absurd h List.not_mem_nil⟩⟩⟩), zlookF (fin := true) [] (fun _ h => absurd h List.not_mem_nil), zlookup (β := Int32) (L := []) (P := fun ix b => Jvm.Cond.constant yX6_understands.cls ix b ∈ (zwd yX6_understands cX6_understands 4 (zret 3))) (fun _ h => absurd h List.not_mem_nil), zlookup (β := Int64) (L := []) (P := fun ix b => Jvm.Cond.constantLong yX6_understands.cls ix b ∈ (zwd yX6_understands cX6_understands 4 (zret 3))) (fun _ h => absurd h List.not_mem_nil), zlookup (β := Nat) (L := []) (P := fun ix b => zmok yX6_understands.cls (zwd yX6_understands cX6_understands 4 (zret 3)) ix b) (fun _ h => absurd h List.not_mem_nil)⟩
set_option maxRecDepth 20000 in
theorem sX6_understands (l : Launch) : ∀ (as : List Value) (ws : zW) (K : zP), zFr 3 (zGoes mX6_understands 3 4) as ws K → zMet l yX6_understands (zwd yX6_understands cX6_understands 4 (zret 3)) { frames := 5, cells := 0, slots := 0, locals := 1000 } 3 as ws K := zFr_met (by decide +kernel) (by decide) (by decide) gX6_understands (fun p e s m args below meth c D cy ad A n0 Q S hKK hA => ⟨fun ix n G h => zlookup (β := Nat × zG) (L := [(22, 3, zFV 6 3 (zGoes mX6_beginWith 0 3)), (30, 1, zFV 6 1 (zGoes mX6_readToken 0 1)), (39, 1, zFV 6 1 (zGoes mX6_tokenStands 3 1))]) (P := fun ix b => zCO p l e { frames := 5, cells := 0, slots := 0, locals := 1000 } s m args below meth c cX6_understands 4 D cy ad A n0 0 0 Q (.invokevirtual ix) b.1 b.2) (List.forall_mem_cons.mpr ⟨zco_V (ci := 6) S hKK hA ⟨Nat.zero_le _, Nat.zero_le _⟩ (cwV 2 S.2.2.2.2 (zgoodV zw332 zw334 zw0 zw50 zw335) rfl rfl rfl (by decide +kernel) (by decide +kernel)) rfl rfl (sX6_beginWith l), List.forall_mem_cons.mpr ⟨zco_V (ci := 6) S hKK hA ⟨Nat.zero_le _, Nat.zero_le _⟩ (cwV 0 S.2.2.2.2 (zgoodV zw339 zw341 zw1 zw50 zw342) rfl rfl rfl (by decide +kernel) (by decide +kernel)) rfl rfl (sX6_readToken l), List.forall_mem_cons.mpr ⟨zco_V (ci := 6) S hKK hA ⟨Nat.zero_le _, Nat.zero_le _⟩ (cwV 0 S.2.2.2.2 (zgoodV zw358 zw360 zw4 zw50 zw361) rfl rfl rfl (by decide +kernel) (by decide +kernel)) rfl rfl (sX6_tokenStands l), fun _ h => absurd h List.not_mem_nil⟩⟩⟩) ix (n, G) h, fun ix n G h => zlookup (β := Nat × zG) (L := []) (P := fun ix b => zCO p l e { frames := 5, cells := 0, slots := 0, locals := 1000 } s m args below meth c cX6_understands 4 D cy ad A n0 0 0 Q (.invokestatic ix) b.1 b.2) (fun _ h => absurd h List.not_mem_nil) ix (n, G) h⟩) (by decide)
def iX6_toldOr : List (Option zI) := [some (.iload_n 1, 0, 1, []), some (.iconst (-1), (-1), 2, []), some (.if_icmp .ne 7, 0, 5, [9]), none, none, some (.iload_n 2, 0, 6, []), some (.goto 4, 0, 9, [10]), none, none, some (.iload_n 1, 0, 10, []), some (.ireturn, 0, 11, [])]
def mX6_toldOr : zM := (iX6_toldOr, [], [], [], [], [], [], [])
theorem kX6_toldOr : zchkL cX6_toldOr 0 iX6_toldOr = true := by decide +kernel
set_option maxRecDepth 20000 in
theorem gX6_toldOr : zGood mX6_toldOr cX6_toldOr yX6_toldOr.cls (zwd yX6_toldOr cX6_toldOr 3 (zret 1)) := ⟨fun pc x h => by
    have h1 := zchkL_at kX6_toldOr pc x h
    rw [Nat.zero_add] at h1
    exact h1, zlookF (fin := false) [] (fun _ h => absurd h List.not_mem_nil), zlookF (fin := true) [] (fun _ h => absurd h List.not_mem_nil), zlookup (β := Int32) (L := []) (P := fun ix b => Jvm.Cond.constant yX6_toldOr.cls ix b ∈ (zwd yX6_toldOr cX6_toldOr 3 (zret 1))) (fun _ h => absurd h List.not_mem_nil), zlookup (β := Int64) (L := []) (P := fun ix b => Jvm.Cond.constantLong yX6_toldOr.cls ix b ∈ (zwd yX6_toldOr cX6_toldOr 3 (zret 1))) (fun _ h => absurd h List.not_mem_nil), zlookup (β := Nat) (L := []) (P := fun ix b => zmok yX6_toldOr.cls (zwd yX6_toldOr cX6_toldOr 3 (zret 1)) ix b) (fun _ h => absurd h List.not_mem_nil)⟩
set_option maxRecDepth 20000 in
theorem sX6_toldOr (l : Launch) : ∀ (as : List Value) (ws : zW) (K : zP), zFr 3 (zGoes mX6_toldOr 1 3) as ws K → zMet l yX6_toldOr (zwd yX6_toldOr cX6_toldOr 3 (zret 1)) { frames := 1, cells := 0, slots := 0, locals := 200 } 1 as ws K := zFr_met (by decide +kernel) (by decide) (by decide) gX6_toldOr (fun p e s m args below meth c D cy ad A n0 Q S hKK hA => ⟨fun ix n G h => zlookup (β := Nat × zG) (L := []) (P := fun ix b => zCO p l e { frames := 1, cells := 0, slots := 0, locals := 200 } s m args below meth c cX6_toldOr 3 D cy ad A n0 0 0 Q (.invokevirtual ix) b.1 b.2) (fun _ h => absurd h List.not_mem_nil) ix (n, G) h, fun ix n G h => zlookup (β := Nat × zG) (L := []) (P := fun ix b => zCO p l e { frames := 1, cells := 0, slots := 0, locals := 200 } s m args below meth c cX6_toldOr 3 D cy ad A n0 0 0 Q (.invokestatic ix) b.1 b.2) (fun _ h => absurd h List.not_mem_nil) ix (n, G) h⟩) (by decide)
def iX7_type : List (Option zI) := [some (.iload_n 1, 0, 1, []), some (.iconst 0, 0, 2, []), some (.sipush 255, 255, 5, []), none, none, some (.invokestatic 71, 0, 8, []), none, none, some (.ifCond .ne 7, 0, 11, [15]), none, none, some (.sipush (-1001), (-1001), 14, []), none, none, some (.ireturn, 0, 15, []), some (.aload_n 0, 0, 16, []), some (.getfield 75, 0, 19, []), none, none, some (.bipush 120, 120, 21, []), none, some (.if_icmp .lt 7, 0, 24, [28]), none, none, some (.sipush (-1003), (-1003), 27, []), none, none, some (.ireturn, 0, 28, []), some (.aload_n 0, 0, 29, []), some (.getfield 9, 0, 32, []), none, none, some (.aload_n 0, 0, 33, []), some (.getfield 75, 0, 36, []), none, none, some (.iload_n 1, 0, 37, []), some (.iastore, 0, 38, []), some (.aload_n 0, 0, 39, []), some (.dup, 0, 40, []), some (.getfield 75, 0, 43, []), none, none, some (.iconst 1, 1, 44, []), some (.iadd, 0, 45, []), some (.putfield 75, 0, 48, []), none, none, some (.aload_n 0, 0, 49, []), some (.getfield 75, 0, 52, []), none, none, some (.ireturn, 0, 53, [])]
def mX7_type : zM := (iX7_type, [(9, 7, 0, (.array .int)), (75, 7, 1, .int)], [(75, 7, 1, .int)], [], [], [], [], [(71, 3, zFr 3 (zGoes mX7_within 3 3))])
theorem kX7_type : zchkL cX7_type 0 iX7_type = true := by decide +kernel
set_option maxRecDepth 20000 in
theorem gX7_type : zGood mX7_type cX7_type yX7_type.cls (zwd yX7_type cX7_type 2 (zret 1)) := ⟨fun pc x h => by
    have h1 := zchkL_at kX7_type pc x h
    rw [Nat.zero_add] at h1
    exact h1, zlookF (fin := false) [(9, 7, 0, (.array .int)), (75, 7, 1, .int)] (List.forall_mem_cons.mpr ⟨⟨(RX7, TX7, 11), rfl, by decide, List.mem_cons_of_mem _ zw279, fun w h => List.mem_cons_of_mem _ (zX7 w h), by decide +kernel, fun h => by cases h⟩, List.forall_mem_cons.mpr ⟨⟨(RX7, TX7, 11), rfl, by decide, List.mem_cons_of_mem _ zw280, fun w h => List.mem_cons_of_mem _ (zX7 w h), by decide +kernel, fun h => by cases h⟩, fun _ h => absurd h List.not_mem_nil⟩⟩), zlookF (fin := true) [(75, 7, 1, .int)] (List.forall_mem_cons.mpr ⟨⟨(RX7, TX7, 11), rfl, by decide, List.mem_cons_of_mem _ zw280, fun w h => List.mem_cons_of_mem _ (zX7 w h), by decide +kernel, fun _ => rfl⟩, fun _ h => absurd h List.not_mem_nil⟩), zlookup (β := Int32) (L := []) (P := fun ix b => Jvm.Cond.constant yX7_type.cls ix b ∈ (zwd yX7_type cX7_type 2 (zret 1))) (fun _ h => absurd h List.not_mem_nil), zlookup (β := Int64) (L := []) (P := fun ix b => Jvm.Cond.constantLong yX7_type.cls ix b ∈ (zwd yX7_type cX7_type 2 (zret 1))) (fun _ h => absurd h List.not_mem_nil), zlookup (β := Nat) (L := []) (P := fun ix b => zmok yX7_type.cls (zwd yX7_type cX7_type 2 (zret 1)) ix b) (fun _ h => absurd h List.not_mem_nil)⟩
set_option maxRecDepth 20000 in
theorem sX7_type (l : Launch) : ∀ (as : List Value) (ws : zW) (K : zP), zFr 2 (zGoes mX7_type 1 2) as ws K → zMet l yX7_type (zwd yX7_type cX7_type 2 (zret 1)) { frames := 2, cells := 0, slots := 0, locals := 400 } 1 as ws K := zFr_met (by decide +kernel) (by decide) (by decide) gX7_type (fun p e s m args below meth c D cy ad A n0 Q S hKK hA => ⟨fun ix n G h => zlookup (β := Nat × zG) (L := []) (P := fun ix b => zCO p l e { frames := 2, cells := 0, slots := 0, locals := 400 } s m args below meth c cX7_type 2 D cy ad A n0 0 0 Q (.invokevirtual ix) b.1 b.2) (fun _ h => absurd h List.not_mem_nil) ix (n, G) h, fun ix n G h => zlookup (β := Nat × zG) (L := [(71, 3, zFr 3 (zGoes mX7_within 3 3))]) (P := fun ix b => zCO p l e { frames := 2, cells := 0, slots := 0, locals := 400 } s m args below meth c cX7_type 2 D cy ad A n0 0 0 Q (.invokestatic ix) b.1 b.2) (List.forall_mem_cons.mpr ⟨zco_S S hKK hA ⟨Nat.zero_le _, Nat.zero_le _⟩ (va_cwS 3 S.2.2.2.2 (zgoodS zw317 zw318 zw49 zw319) rfl rfl rfl (by decide +kernel) (by decide +kernel)) (sX7_within l), fun _ h => absurd h List.not_mem_nil⟩) ix (n, G) h⟩) (by decide)
def iX7_clear : List (Option zI) := [some (.aload_n 0, 0, 1, []), some (.getfield 75, 0, 4, []), none, none, some (.istore_n 1, 0, 5, []), some (.aload_n 0, 0, 6, []), some (.iconst 0, 0, 7, []), some (.putfield 75, 0, 10, []), none, none, some (.iload_n 1, 0, 11, []), some (.ireturn, 0, 12, [])]
def mX7_clear : zM := (iX7_clear, [(75, 7, 1, .int)], [(75, 7, 1, .int)], [], [], [], [], [])
theorem kX7_clear : zchkL cX7_clear 0 iX7_clear = true := by decide +kernel
set_option maxRecDepth 20000 in
theorem gX7_clear : zGood mX7_clear cX7_clear yX7_clear.cls (zwd yX7_clear cX7_clear 2 (zret 1)) := ⟨fun pc x h => by
    have h1 := zchkL_at kX7_clear pc x h
    rw [Nat.zero_add] at h1
    exact h1, zlookF (fin := false) [(75, 7, 1, .int)] (List.forall_mem_cons.mpr ⟨⟨(RX7, TX7, 11), rfl, by decide, List.mem_cons_of_mem _ zw280, fun w h => List.mem_cons_of_mem _ (zX7 w h), by decide +kernel, fun h => by cases h⟩, fun _ h => absurd h List.not_mem_nil⟩), zlookF (fin := true) [(75, 7, 1, .int)] (List.forall_mem_cons.mpr ⟨⟨(RX7, TX7, 11), rfl, by decide, List.mem_cons_of_mem _ zw280, fun w h => List.mem_cons_of_mem _ (zX7 w h), by decide +kernel, fun _ => rfl⟩, fun _ h => absurd h List.not_mem_nil⟩), zlookup (β := Int32) (L := []) (P := fun ix b => Jvm.Cond.constant yX7_clear.cls ix b ∈ (zwd yX7_clear cX7_clear 2 (zret 1))) (fun _ h => absurd h List.not_mem_nil), zlookup (β := Int64) (L := []) (P := fun ix b => Jvm.Cond.constantLong yX7_clear.cls ix b ∈ (zwd yX7_clear cX7_clear 2 (zret 1))) (fun _ h => absurd h List.not_mem_nil), zlookup (β := Nat) (L := []) (P := fun ix b => zmok yX7_clear.cls (zwd yX7_clear cX7_clear 2 (zret 1)) ix b) (fun _ h => absurd h List.not_mem_nil)⟩
set_option maxRecDepth 20000 in
theorem sX7_clear (l : Launch) : ∀ (as : List Value) (ws : zW) (K : zP), zFr 1 (zGoes mX7_clear 1 2) as ws K → zMet l yX7_clear (zwd yX7_clear cX7_clear 2 (zret 1)) { frames := 1, cells := 0, slots := 0, locals := 200 } 1 as ws K := zFr_met (by decide +kernel) (by decide) (by decide) gX7_clear (fun p e s m args below meth c D cy ad A n0 Q S hKK hA => ⟨fun ix n G h => zlookup (β := Nat × zG) (L := []) (P := fun ix b => zCO p l e { frames := 1, cells := 0, slots := 0, locals := 200 } s m args below meth c cX7_clear 2 D cy ad A n0 0 0 Q (.invokevirtual ix) b.1 b.2) (fun _ h => absurd h List.not_mem_nil) ix (n, G) h, fun ix n G h => zlookup (β := Nat × zG) (L := []) (P := fun ix b => zCO p l e { frames := 1, cells := 0, slots := 0, locals := 200 } s m args below meth c cX7_clear 2 D cy ad A n0 0 0 Q (.invokestatic ix) b.1 b.2) (fun _ h => absurd h List.not_mem_nil) ix (n, G) h⟩) (by decide)
def iX7_rank : List (Option zI) := [some (.aload_n 0, 0, 1, []), some (.getfield 16, 0, 4, []), none, none, some (.aload_n 0, 0, 5, []), some (.getfield 9, 0, 8, []), none, none, some (.aload_n 0, 0, 9, []), some (.getfield 75, 0, 12, []), none, none, some (.invokevirtual 79, 0, 15, []), none, none, some (.ifCond .ne 15, 0, 18, [30]), none, none, some (.sipush (-2000), (-2000), 21, []), none, none, some (.aload_n 0, 0, 22, []), some (.getfield 16, 0, 25, []), none, none, some (.getfield 83, 0, 28, []), none, none, some (.isub, 0, 29, []), some (.ireturn, 0, 30, []), some (.aload_n 0, 0, 31, []), some (.getfield 23, 0, 34, []), none, none, some (.aload_n 0, 0, 35, []), some (.getfield 16, 0, 38, []), none, none, some (.getfield 86, 0, 41, []), none, none, some (.invokevirtual 87, 0, 44, []), none, none, some (.aload_n 0, 0, 45, []), some (.getfield 32, 0, 48, []), none, none, some (.aload_n 0, 0, 49, []), some (.getfield 16, 0, 52, []), none, none, some (.aload_n 0, 0, 53, []), some (.getfield 16, 0, 56, []), none, none, some (.getfield 90, 0, 59, []), none, none, some (.bipush 30, 30, 61, []), none, some (.invokevirtual 93, 0, 64, []), none, none, some (.aload_n 0, 0, 65, []), some (.getfield 16, 0, 68, []), none, none, some (.aload_n 0, 0, 69, []), some (.getfield 16, 0, 72, []), none, none, some (.getfield 97, 0, 75, []), none, none, some (.iconst 5, 5, 76, []), some (.invokevirtual 93, 0, 79, []), none, none, some (.aload_n 0, 0, 80, []), some (.getfield 16, 0, 83, []), none, none, some (.aload_n 0, 0, 84, []), some (.getfield 16, 0, 87, []), none, none, some (.getfield 100, 0, 90, []), none, none, some (.iconst 2, 2, 91, []), some (.invokevirtual 93, 0, 94, []), none, none, some (.invokevirtual 67, 0, 97, []), none, none, some (.aload_n 0, 0, 98, []), some (.getfield 42, 0, 101, []), none, none, some (.iconst 0, 0, 102, []), some (.putfield 103, 0, 105, []), none, none, some (.aload_n 0, 0, 106, []), some (.getfield 55, 0, 109, []), none, none, some (.iconst 0, 0, 110, []), some (.putfield 106, 0, 113, []), none, none, some (.iconst 0, 0, 114, []), some (.istore_n 1, 0, 115, []), some (.iload_n 1, 0, 116, []), some (.iconst 2, 2, 117, []), some (.if_icmp .ge 19, 0, 120, [136]), none, none, some (.aload_n 0, 0, 121, []), some (.getfield 48, 0, 124, []), none, none, some (.iload_n 1, 0, 125, []), some (.aaload, 0, 126, []), some (.iconst 0, 0, 127, []), some (.putfield 107, 0, 130, []), none, none, some (.iinc 1 1, 1, 133, []), none, none, some (.goto (-18), 0, 136, [115]), none, none, some (.aload_n 0, 0, 137, []), some (.iconst 0, 0, 138, []), some (.putfield 75, 0, 141, []), none, none, some (.aload_n 0, 0, 142, []), some (.getfield 16, 0, 145, []), none, none, some (.getfield 111, 0, 148, []), none, none, some (.ireturn, 0, 149, [])]
def mX7_rank : zM := (iX7_rank, [(9, 7, 0, (.array .int)), (16, 7, 2, (.object "RankWheels$Telling")), (23, 7, 3, (.object "RankWheels$Men")), (32, 7, 4, (.object "RankWheels$Line")), (42, 7, 6, (.object "RankWheels$Past")), (48, 7, 7, (.array (.object "RankWheels$Image"))), (55, 7, 8, (.object "RankWheels$Sightings")), (75, 7, 1, .int), (83, 6, 5, .int), (86, 6, 0, (.object "RankWheels$Men")), (90, 6, 1, .int), (97, 6, 2, .int), (100, 6, 3, .int), (111, 6, 4, .int)], [(75, 7, 1, .int), (103, 4, 1, .int), (106, 5, 0, .int), (107, 0, 2, .boolean)], [], [], [], [(67, 4, zFV 1 4 (zGoes mX1_formUp 0 5)), (79, 3, zFV 6 3 (zGoes mX6_understands 3 4)), (87, 2, zFV 2 2 (zGoes mX2_copyFrom 0 2)), (93, 3, zFV 6 3 (zGoes mX6_toldOr 1 3))], [])
theorem kX7_rank : zchkL cX7_rank 0 iX7_rank = true := by decide +kernel
set_option maxRecDepth 20000 in
theorem gX7_rank : zGood mX7_rank cX7_rank yX7_rank.cls (zwd yX7_rank cX7_rank 2 (zret 1)) := ⟨fun pc x h => by
    have h1 := zchkL_at kX7_rank pc x h
    rw [Nat.zero_add] at h1
    exact h1, zlookF (fin := false) [(9, 7, 0, (.array .int)), (16, 7, 2, (.object "RankWheels$Telling")), (23, 7, 3, (.object "RankWheels$Men")), (32, 7, 4, (.object "RankWheels$Line")), (42, 7, 6, (.object "RankWheels$Past")), (48, 7, 7, (.array (.object "RankWheels$Image"))), (55, 7, 8, (.object "RankWheels$Sightings")), (75, 7, 1, .int), (83, 6, 5, .int), (86, 6, 0, (.object "RankWheels$Men")), (90, 6, 1, .int), (97, 6, 2, .int), (100, 6, 3, .int), (111, 6, 4, .int)] (List.forall_mem_cons.mpr ⟨⟨(RX7, TX7, 11), rfl, by decide, List.mem_cons_of_mem _ zw279, fun w h => List.mem_cons_of_mem _ (zX7 w h), by decide +kernel, fun h => by cases h⟩, List.forall_mem_cons.mpr ⟨⟨(RX7, TX7, 11), rfl, by decide, List.mem_cons_of_mem _ zw281, fun w h => List.mem_cons_of_mem _ (zX7 w h), by decide +kernel, fun h => by cases h⟩, List.forall_mem_cons.mpr ⟨⟨(RX7, TX7, 11), rfl, by decide, List.mem_cons_of_mem _ zw282, fun w h => List.mem_cons_of_mem _ (zX7 w h), by decide +kernel, fun h => by cases h⟩, List.forall_mem_cons.mpr ⟨⟨(RX7, TX7, 11), rfl, by decide, List.mem_cons_of_mem _ zw283, fun w h => List.mem_cons_of_mem _ (zX7 w h), by decide +kernel, fun h => by cases h⟩, List.forall_mem_cons.mpr ⟨⟨(RX7, TX7, 11), rfl, by decide, List.mem_cons_of_mem _ zw285, fun w h => List.mem_cons_of_mem _ (zX7 w h), by decide +kernel, fun h => by cases h⟩, List.forall_mem_cons.mpr ⟨⟨(RX7, TX7, 11), rfl, by decide, List.mem_cons_of_mem _ zw286, fun w h => List.mem_cons_of_mem _ (zX7 w h), by decide +kernel, fun h => by cases h⟩, List.forall_mem_cons.mpr ⟨⟨(RX7, TX7, 11), rfl, by decide, List.mem_cons_of_mem _ zw287, fun w h => List.mem_cons_of_mem _ (zX7 w h), by decide +kernel, fun h => by cases h⟩, List.forall_mem_cons.mpr ⟨⟨(RX7, TX7, 11), rfl, by decide, List.mem_cons_of_mem _ zw280, fun w h => List.mem_cons_of_mem _ (zX7 w h), by decide +kernel, fun h => by cases h⟩, List.forall_mem_cons.mpr ⟨⟨(RX6, TX6, 13), rfl, by decide, List.mem_cons_of_mem _ zw110, fun w h => List.mem_cons_of_mem _ (zX6 w h), by decide +kernel, fun h => by cases h⟩, List.forall_mem_cons.mpr ⟨⟨(RX6, TX6, 13), rfl, by decide, List.mem_cons_of_mem _ zw101, fun w h => List.mem_cons_of_mem _ (zX6 w h), by decide +kernel, fun h => by cases h⟩, List.forall_mem_cons.mpr ⟨⟨(RX6, TX6, 13), rfl, by decide, List.mem_cons_of_mem _ zw103, fun w h => List.mem_cons_of_mem _ (zX6 w h), by decide +kernel, fun h => by cases h⟩, List.forall_mem_cons.mpr ⟨⟨(RX6, TX6, 13), rfl, by decide, List.mem_cons_of_mem _ zw105, fun w h => List.mem_cons_of_mem _ (zX6 w h), by decide +kernel, fun h => by cases h⟩, List.forall_mem_cons.mpr ⟨⟨(RX6, TX6, 13), rfl, by decide, List.mem_cons_of_mem _ zw107, fun w h => List.mem_cons_of_mem _ (zX6 w h), by decide +kernel, fun h => by cases h⟩, List.forall_mem_cons.mpr ⟨⟨(RX6, TX6, 13), rfl, by decide, List.mem_cons_of_mem _ zw109, fun w h => List.mem_cons_of_mem _ (zX6 w h), by decide +kernel, fun h => by cases h⟩, fun _ h => absurd h List.not_mem_nil⟩⟩⟩⟩⟩⟩⟩⟩⟩⟩⟩⟩⟩⟩), zlookF (fin := true) [(75, 7, 1, .int), (103, 4, 1, .int), (106, 5, 0, .int), (107, 0, 2, .boolean)] (List.forall_mem_cons.mpr ⟨⟨(RX7, TX7, 11), rfl, by decide, List.mem_cons_of_mem _ zw280, fun w h => List.mem_cons_of_mem _ (zX7 w h), by decide +kernel, fun _ => rfl⟩, List.forall_mem_cons.mpr ⟨⟨(RX4, TX4, 2), rfl, by decide, List.mem_cons_of_mem _ zw198, fun w h => List.mem_cons_of_mem _ (zX4 w h), by decide +kernel, fun _ => rfl⟩, List.forall_mem_cons.mpr ⟨⟨(RX5, TX5, 4), rfl, by decide, List.mem_cons_of_mem _ zw213, fun w h => List.mem_cons_of_mem _ (zX5 w h), by decide +kernel, fun _ => rfl⟩, List.forall_mem_cons.mpr ⟨⟨(RX0, TX0, 3), rfl, by decide, List.mem_cons_of_mem _ zw267, fun w h => List.mem_cons_of_mem _ (zX0 w h), by decide +kernel, fun _ => rfl⟩, fun _ h => absurd h List.not_mem_nil⟩⟩⟩⟩), zlookup (β := Int32) (L := []) (P := fun ix b => Jvm.Cond.constant yX7_rank.cls ix b ∈ (zwd yX7_rank cX7_rank 2 (zret 1))) (fun _ h => absurd h List.not_mem_nil), zlookup (β := Int64) (L := []) (P := fun ix b => Jvm.Cond.constantLong yX7_rank.cls ix b ∈ (zwd yX7_rank cX7_rank 2 (zret 1))) (fun _ h => absurd h List.not_mem_nil), zlookup (β := Nat) (L := []) (P := fun ix b => zmok yX7_rank.cls (zwd yX7_rank cX7_rank 2 (zret 1)) ix b) (fun _ h => absurd h List.not_mem_nil)⟩
set_option maxRecDepth 20000 in
theorem sX7_rank (l : Launch) : ∀ (as : List Value) (ws : zW) (K : zP), zFr 1 (zGoes mX7_rank 1 2) as ws K → zMet l yX7_rank (zwd yX7_rank cX7_rank 2 (zret 1)) { frames := 6, cells := 0, slots := 0, locals := 1200 } 1 as ws K := zFr_met (by decide +kernel) (by decide) (by decide) gX7_rank (fun p e s m args below meth c D cy ad A n0 Q S hKK hA => ⟨fun ix n G h => zlookup (β := Nat × zG) (L := [(67, 4, zFV 1 4 (zGoes mX1_formUp 0 5)), (79, 3, zFV 6 3 (zGoes mX6_understands 3 4)), (87, 2, zFV 2 2 (zGoes mX2_copyFrom 0 2)), (93, 3, zFV 6 3 (zGoes mX6_toldOr 1 3))]) (P := fun ix b => zCO p l e { frames := 6, cells := 0, slots := 0, locals := 1200 } s m args below meth c cX7_rank 2 D cy ad A n0 0 0 Q (.invokevirtual ix) b.1 b.2) (List.forall_mem_cons.mpr ⟨zco_V (ci := 1) S hKK hA ⟨Nat.zero_le _, Nat.zero_le _⟩ (cwV 3 S.2.2.2.2 (zgoodV zw275 zw276 zw277 zw52 zw278) rfl rfl rfl (by decide +kernel) (by decide +kernel)) rfl rfl (sX1_formUp l), List.forall_mem_cons.mpr ⟨zco_V (ci := 6) S hKK hA ⟨Nat.zero_le _, Nat.zero_le _⟩ (cwV 2 S.2.2.2.2 (zgoodV zw328 zw329 zw330 zw50 zw331) rfl rfl rfl (by decide +kernel) (by decide +kernel)) rfl rfl (sX6_understands l), List.forall_mem_cons.mpr ⟨zco_V (ci := 2) S hKK hA ⟨Nat.zero_le _, Nat.zero_le _⟩ (cwV 1 S.2.2.2.2 (zgoodV zw382 zw383 zw384 zw51 zw385) rfl rfl rfl (by decide +kernel) (by decide +kernel)) rfl rfl (sX2_copyFrom l), List.forall_mem_cons.mpr ⟨zco_V (ci := 6) S hKK hA ⟨Nat.zero_le _, Nat.zero_le _⟩ (cwV 2 S.2.2.2.2 (zgoodV zw389 zw390 zw391 zw50 zw392) rfl rfl rfl (by decide +kernel) (by decide +kernel)) rfl rfl (sX6_toldOr l), fun _ h => absurd h List.not_mem_nil⟩⟩⟩⟩) ix (n, G) h, fun ix n G h => zlookup (β := Nat × zG) (L := []) (P := fun ix b => zCO p l e { frames := 6, cells := 0, slots := 0, locals := 1200 } s m args below meth c cX7_rank 2 D cy ad A n0 0 0 Q (.invokestatic ix) b.1 b.2) (fun _ h => absurd h List.not_mem_nil) ix (n, G) h⟩) (by decide)
def iX7_man : List (Option zI) := [some (.iload_n 1, 0, 1, []), some (.iconst 0, 0, 2, []), some (.aload_n 0, 0, 3, []), some (.getfield 23, 0, 6, []), none, none, some (.getfield 114, 0, 9, []), none, none, some (.iconst 1, 1, 10, []), some (.isub, 0, 11, []), some (.invokestatic 71, 0, 14, []), none, none, some (.ifCond .ne 7, 0, 17, [21]), none, none, some (.sipush (-1001), (-1001), 20, []), none, none, some (.ireturn, 0, 21, []), some (.iload_n 2, 0, 22, []), some (.tableswitch 55 0 2 #[26, 36, 46], 0, 48, [77, 48, 58, 68]), none, none, none, none, none, none, none, none, none, none, none, none, none, none, none, none, none, none, none, none, none, none, none, none, none, some (.aload_n 0, 0, 49, []), some (.getfield 23, 0, 52, []), none, none, some (.getfield 117, 0, 55, []), none, none, some (.iload_n 1, 0, 56, []), some (.iaload, 0, 57, []), some (.ireturn, 0, 58, []), some (.aload_n 0, 0, 59, []), some (.getfield 23, 0, 62, []), none, none, some (.getfield 120, 0, 65, []), none, none, some (.iload_n 1, 0, 66, []), some (.iaload, 0, 67, []), some (.ireturn, 0, 68, []), some (.aload_n 0, 0, 69, []), some (.getfield 32, 0, 72, []), none, none, some (.iload_n 1, 0, 73, []), some (.invokevirtual 123, 0, 76, []), none, none, some (.ireturn, 0, 77, []), some (.sipush (-1001), (-1001), 80, []), none, none, some (.ireturn, 0, 81, [])]
def mX7_man : zM := (iX7_man, [(23, 7, 3, (.object "RankWheels$Men")), (32, 7, 4, (.object "RankWheels$Line")), (114, 2, 0, .int), (117, 2, 1, (.array .int)), (120, 2, 2, (.array .int))], [], [], [], [], [(123, 2, zFV 1 2 (zGoes mX1_placeOf 1 3))], [(71, 3, zFr 3 (zGoes mX7_within 3 3))])
theorem kX7_man : zchkL cX7_man 0 iX7_man = true := by decide +kernel
set_option maxRecDepth 20000 in
theorem gX7_man : zGood mX7_man cX7_man yX7_man.cls (zwd yX7_man cX7_man 3 (zret 1)) := ⟨fun pc x h => by
    have h1 := zchkL_at kX7_man pc x h
    rw [Nat.zero_add] at h1
    exact h1, zlookF (fin := false) [(23, 7, 3, (.object "RankWheels$Men")), (32, 7, 4, (.object "RankWheels$Line")), (114, 2, 0, .int), (117, 2, 1, (.array .int)), (120, 2, 2, (.array .int))] (List.forall_mem_cons.mpr ⟨⟨(RX7, TX7, 11), rfl, by decide, List.mem_cons_of_mem _ zw282, fun w h => List.mem_cons_of_mem _ (zX7 w h), by decide +kernel, fun h => by cases h⟩, List.forall_mem_cons.mpr ⟨⟨(RX7, TX7, 11), rfl, by decide, List.mem_cons_of_mem _ zw283, fun w h => List.mem_cons_of_mem _ (zX7 w h), by decide +kernel, fun h => by cases h⟩, List.forall_mem_cons.mpr ⟨⟨(RX2, TX2, 3), rfl, by decide, List.mem_cons_of_mem _ zw84, fun w h => List.mem_cons_of_mem _ (zX2 w h), by decide +kernel, fun h => by cases h⟩, List.forall_mem_cons.mpr ⟨⟨(RX2, TX2, 3), rfl, by decide, List.mem_cons_of_mem _ zw88, fun w h => List.mem_cons_of_mem _ (zX2 w h), by decide +kernel, fun h => by cases h⟩, List.forall_mem_cons.mpr ⟨⟨(RX2, TX2, 3), rfl, by decide, List.mem_cons_of_mem _ zw91, fun w h => List.mem_cons_of_mem _ (zX2 w h), by decide +kernel, fun h => by cases h⟩, fun _ h => absurd h List.not_mem_nil⟩⟩⟩⟩⟩), zlookF (fin := true) [] (fun _ h => absurd h List.not_mem_nil), zlookup (β := Int32) (L := []) (P := fun ix b => Jvm.Cond.constant yX7_man.cls ix b ∈ (zwd yX7_man cX7_man 3 (zret 1))) (fun _ h => absurd h List.not_mem_nil), zlookup (β := Int64) (L := []) (P := fun ix b => Jvm.Cond.constantLong yX7_man.cls ix b ∈ (zwd yX7_man cX7_man 3 (zret 1))) (fun _ h => absurd h List.not_mem_nil), zlookup (β := Nat) (L := []) (P := fun ix b => zmok yX7_man.cls (zwd yX7_man cX7_man 3 (zret 1)) ix b) (fun _ h => absurd h List.not_mem_nil)⟩
set_option maxRecDepth 20000 in
theorem sX7_man (l : Launch) : ∀ (as : List Value) (ws : zW) (K : zP), zFr 3 (zGoes mX7_man 1 3) as ws K → zMet l yX7_man (zwd yX7_man cX7_man 3 (zret 1)) { frames := 2, cells := 0, slots := 0, locals := 400 } 1 as ws K := zFr_met (by decide +kernel) (by decide) (by decide) gX7_man (fun p e s m args below meth c D cy ad A n0 Q S hKK hA => ⟨fun ix n G h => zlookup (β := Nat × zG) (L := [(123, 2, zFV 1 2 (zGoes mX1_placeOf 1 3))]) (P := fun ix b => zCO p l e { frames := 2, cells := 0, slots := 0, locals := 400 } s m args below meth c cX7_man 3 D cy ad A n0 0 0 Q (.invokevirtual ix) b.1 b.2) (List.forall_mem_cons.mpr ⟨zco_V (ci := 1) S hKK hA ⟨Nat.zero_le _, Nat.zero_le _⟩ (cwV 1 S.2.2.2.2 (zgoodV zw397 zw398 zw399 zw52 zw400) rfl rfl rfl (by decide +kernel) (by decide +kernel)) rfl rfl (sX1_placeOf l), fun _ h => absurd h List.not_mem_nil⟩) ix (n, G) h, fun ix n G h => zlookup (β := Nat × zG) (L := [(71, 3, zFr 3 (zGoes mX7_within 3 3))]) (P := fun ix b => zCO p l e { frames := 2, cells := 0, slots := 0, locals := 400 } s m args below meth c cX7_man 3 D cy ad A n0 0 0 Q (.invokestatic ix) b.1 b.2) (List.forall_mem_cons.mpr ⟨zco_S S hKK hA ⟨Nat.zero_le _, Nat.zero_le _⟩ (va_cwS 3 S.2.2.2.2 (zgoodS zw317 zw318 zw49 zw319) rfl rfl rfl (by decide +kernel) (by decide +kernel)) (sX7_within l), fun _ h => absurd h List.not_mem_nil⟩) ix (n, G) h⟩) (by decide)
def iX7_isPlace : List (Option zI) := [some (.iload_n 1, 0, 1, []), some (.iconst 0, 0, 2, []), some (.aload_n 0, 0, 3, []), some (.getfield 23, 0, 6, []), none, none, some (.getfield 114, 0, 9, []), none, none, some (.iconst 1, 1, 10, []), some (.isub, 0, 11, []), some (.invokestatic 71, 0, 14, []), none, none, some (.ireturn, 0, 15, [])]
def mX7_isPlace : zM := (iX7_isPlace, [(23, 7, 3, (.object "RankWheels$Men")), (114, 2, 0, .int)], [], [], [], [], [], [(71, 3, zFr 3 (zGoes mX7_within 3 3))])
theorem kX7_isPlace : zchkL cX7_isPlace 0 iX7_isPlace = true := by decide +kernel
set_option maxRecDepth 20000 in
theorem gX7_isPlace : zGood mX7_isPlace cX7_isPlace yX7_isPlace.cls (zwd yX7_isPlace cX7_isPlace 2 (zret 3)) := ⟨fun pc x h => by
    have h1 := zchkL_at kX7_isPlace pc x h
    rw [Nat.zero_add] at h1
    exact h1, zlookF (fin := false) [(23, 7, 3, (.object "RankWheels$Men")), (114, 2, 0, .int)] (List.forall_mem_cons.mpr ⟨⟨(RX7, TX7, 11), rfl, by decide, List.mem_cons_of_mem _ zw282, fun w h => List.mem_cons_of_mem _ (zX7 w h), by decide +kernel, fun h => by cases h⟩, List.forall_mem_cons.mpr ⟨⟨(RX2, TX2, 3), rfl, by decide, List.mem_cons_of_mem _ zw84, fun w h => List.mem_cons_of_mem _ (zX2 w h), by decide +kernel, fun h => by cases h⟩, fun _ h => absurd h List.not_mem_nil⟩⟩), zlookF (fin := true) [] (fun _ h => absurd h List.not_mem_nil), zlookup (β := Int32) (L := []) (P := fun ix b => Jvm.Cond.constant yX7_isPlace.cls ix b ∈ (zwd yX7_isPlace cX7_isPlace 2 (zret 3))) (fun _ h => absurd h List.not_mem_nil), zlookup (β := Int64) (L := []) (P := fun ix b => Jvm.Cond.constantLong yX7_isPlace.cls ix b ∈ (zwd yX7_isPlace cX7_isPlace 2 (zret 3))) (fun _ h => absurd h List.not_mem_nil), zlookup (β := Nat) (L := []) (P := fun ix b => zmok yX7_isPlace.cls (zwd yX7_isPlace cX7_isPlace 2 (zret 3)) ix b) (fun _ h => absurd h List.not_mem_nil)⟩
set_option maxRecDepth 20000 in
theorem sX7_isPlace (l : Launch) : ∀ (as : List Value) (ws : zW) (K : zP), zFr 2 (zGoes mX7_isPlace 3 2) as ws K → zMet l yX7_isPlace (zwd yX7_isPlace cX7_isPlace 2 (zret 3)) { frames := 2, cells := 0, slots := 0, locals := 400 } 3 as ws K := zFr_met (by decide +kernel) (by decide) (by decide) gX7_isPlace (fun p e s m args below meth c D cy ad A n0 Q S hKK hA => ⟨fun ix n G h => zlookup (β := Nat × zG) (L := []) (P := fun ix b => zCO p l e { frames := 2, cells := 0, slots := 0, locals := 400 } s m args below meth c cX7_isPlace 2 D cy ad A n0 0 0 Q (.invokevirtual ix) b.1 b.2) (fun _ h => absurd h List.not_mem_nil) ix (n, G) h, fun ix n G h => zlookup (β := Nat × zG) (L := [(71, 3, zFr 3 (zGoes mX7_within 3 3))]) (P := fun ix b => zCO p l e { frames := 2, cells := 0, slots := 0, locals := 400 } s m args below meth c cX7_isPlace 2 D cy ad A n0 0 0 Q (.invokestatic ix) b.1 b.2) (List.forall_mem_cons.mpr ⟨zco_S S hKK hA ⟨Nat.zero_le _, Nat.zero_le _⟩ (va_cwS 3 S.2.2.2.2 (zgoodS zw317 zw318 zw49 zw319) rfl rfl rfl (by decide +kernel) (by decide +kernel)) (sX7_within l), fun _ h => absurd h List.not_mem_nil⟩) ix (n, G) h⟩) (by decide)
def iX7_place : List (Option zI) := [some (.aload_n 0, 0, 1, []), some (.iload_n 1, 0, 2, []), some (.invokevirtual 127, 0, 5, []), none, none, some (.ifCond .ne 7, 0, 8, [12]), none, none, some (.sipush (-1001), (-1001), 11, []), none, none, some (.ireturn, 0, 12, []), some (.iload_n 2, 0, 13, []), some (.tableswitch 70 0 3 #[31, 41, 51, 61], 0, 44, [83, 44, 54, 64, 74]), none, none, none, none, none, none, none, none, none, none, none, none, none, none, none, none, none, none, none, none, none, none, none, none, none, none, none, none, none, none, some (.aload_n 0, 0, 45, []), some (.getfield 32, 0, 48, []), none, none, some (.getfield 131, 0, 51, []), none, none, some (.iload_n 1, 0, 52, []), some (.iaload, 0, 53, []), some (.ireturn, 0, 54, []), some (.aload_n 0, 0, 55, []), some (.getfield 32, 0, 58, []), none, none, some (.getfield 134, 0, 61, []), none, none, some (.iload_n 1, 0, 62, []), some (.iaload, 0, 63, []), some (.ireturn, 0, 64, []), some (.aload_n 0, 0, 65, []), some (.getfield 32, 0, 68, []), none, none, some (.getfield 137, 0, 71, []), none, none, some (.iload_n 1, 0, 72, []), some (.iaload, 0, 73, []), some (.ireturn, 0, 74, []), some (.aload_n 0, 0, 75, []), some (.getfield 32, 0, 78, []), none, none, some (.iload_n 1, 0, 79, []), some (.invokevirtual 140, 0, 82, []), none, none, some (.ireturn, 0, 83, []), some (.sipush (-1001), (-1001), 86, []), none, none, some (.ireturn, 0, 87, [])]
def mX7_place : zM := (iX7_place, [(32, 7, 4, (.object "RankWheels$Line")), (131, 1, 1, (.array .int)), (134, 1, 2, (.array .int)), (137, 1, 3, (.array .int))], [], [], [], [], [(127, 2, zFV 7 2 (zGoes mX7_isPlace 3 2)), (140, 2, zFV 1 2 (zGoes mX1_wants 1 2))], [])
theorem kX7_place : zchkL cX7_place 0 iX7_place = true := by decide +kernel
set_option maxRecDepth 20000 in
theorem gX7_place : zGood mX7_place cX7_place yX7_place.cls (zwd yX7_place cX7_place 3 (zret 1)) := ⟨fun pc x h => by
    have h1 := zchkL_at kX7_place pc x h
    rw [Nat.zero_add] at h1
    exact h1, zlookF (fin := false) [(32, 7, 4, (.object "RankWheels$Line")), (131, 1, 1, (.array .int)), (134, 1, 2, (.array .int)), (137, 1, 3, (.array .int))] (List.forall_mem_cons.mpr ⟨⟨(RX7, TX7, 11), rfl, by decide, List.mem_cons_of_mem _ zw283, fun w h => List.mem_cons_of_mem _ (zX7 w h), by decide +kernel, fun h => by cases h⟩, List.forall_mem_cons.mpr ⟨⟨(RX1, TX1, 8), rfl, by decide, List.mem_cons_of_mem _ zw156, fun w h => List.mem_cons_of_mem _ (zX1 w h), by decide +kernel, fun h => by cases h⟩, List.forall_mem_cons.mpr ⟨⟨(RX1, TX1, 8), rfl, by decide, List.mem_cons_of_mem _ zw159, fun w h => List.mem_cons_of_mem _ (zX1 w h), by decide +kernel, fun h => by cases h⟩, List.forall_mem_cons.mpr ⟨⟨(RX1, TX1, 8), rfl, by decide, List.mem_cons_of_mem _ zw161, fun w h => List.mem_cons_of_mem _ (zX1 w h), by decide +kernel, fun h => by cases h⟩, fun _ h => absurd h List.not_mem_nil⟩⟩⟩⟩), zlookF (fin := true) [] (fun _ h => absurd h List.not_mem_nil), zlookup (β := Int32) (L := []) (P := fun ix b => Jvm.Cond.constant yX7_place.cls ix b ∈ (zwd yX7_place cX7_place 3 (zret 1))) (fun _ h => absurd h List.not_mem_nil), zlookup (β := Int64) (L := []) (P := fun ix b => Jvm.Cond.constantLong yX7_place.cls ix b ∈ (zwd yX7_place cX7_place 3 (zret 1))) (fun _ h => absurd h List.not_mem_nil), zlookup (β := Nat) (L := []) (P := fun ix b => zmok yX7_place.cls (zwd yX7_place cX7_place 3 (zret 1)) ix b) (fun _ h => absurd h List.not_mem_nil)⟩
set_option maxRecDepth 20000 in
theorem sX7_place (l : Launch) : ∀ (as : List Value) (ws : zW) (K : zP), zFr 3 (zGoes mX7_place 1 3) as ws K → zMet l yX7_place (zwd yX7_place cX7_place 3 (zret 1)) { frames := 3, cells := 0, slots := 0, locals := 600 } 1 as ws K := zFr_met (by decide +kernel) (by decide) (by decide) gX7_place (fun p e s m args below meth c D cy ad A n0 Q S hKK hA => ⟨fun ix n G h => zlookup (β := Nat × zG) (L := [(127, 2, zFV 7 2 (zGoes mX7_isPlace 3 2)), (140, 2, zFV 1 2 (zGoes mX1_wants 1 2))]) (P := fun ix b => zCO p l e { frames := 3, cells := 0, slots := 0, locals := 600 } s m args below meth c cX7_place 3 D cy ad A n0 0 0 Q (.invokevirtual ix) b.1 b.2) (List.forall_mem_cons.mpr ⟨zco_V (ci := 7) S hKK hA ⟨Nat.zero_le _, Nat.zero_le _⟩ (cwV 1 S.2.2.2.2 (zgoodV zw405 zw407 zw9 zw49 zw408) rfl rfl rfl (by decide +kernel) (by decide +kernel)) rfl rfl (sX7_isPlace l), List.forall_mem_cons.mpr ⟨zco_V (ci := 1) S hKK hA ⟨Nat.zero_le _, Nat.zero_le _⟩ (cwV 1 S.2.2.2.2 (zgoodV zw409 zw410 zw411 zw52 zw412) rfl rfl rfl (by decide +kernel) (by decide +kernel)) rfl rfl (sX1_wants l), fun _ h => absurd h List.not_mem_nil⟩⟩) ix (n, G) h, fun ix n G h => zlookup (β := Nat × zG) (L := []) (P := fun ix b => zCO p l e { frames := 3, cells := 0, slots := 0, locals := 600 } s m args below meth c cX7_place 3 D cy ad A n0 0 0 Q (.invokestatic ix) b.1 b.2) (fun _ h => absurd h List.not_mem_nil) ix (n, G) h⟩) (by decide)
def iX7_wheels : List (Option zI) := [some (.aload_n 0, 0, 1, []), some (.getfield 32, 0, 4, []), none, none, some (.getfield 143, 0, 7, []), none, none, some (.sipush 9999, 9999, 10, []), none, none, some (.if_icmp .lt 7, 0, 13, [17]), none, none, some (.sipush (-1002), (-1002), 16, []), none, none, some (.ireturn, 0, 17, []), some (.aload_n 0, 0, 18, []), some (.getfield 42, 0, 21, []), none, none, some (.aload_n 0, 0, 22, []), some (.getfield 32, 0, 25, []), none, none, some (.invokevirtual 146, 0, 28, []), none, none, some (.aload_n 0, 0, 29, []), some (.getfield 32, 0, 32, []), none, none, some (.iconst (-1), (-1), 33, []), some (.invokevirtual 150, 0, 36, []), none, none, some (.pop, 0, 37, []), some (.aload_n 0, 0, 38, []), some (.getfield 32, 0, 41, []), none, none, some (.dup, 0, 42, []), some (.getfield 143, 0, 45, []), none, none, some (.iconst 1, 1, 46, []), some (.iadd, 0, 47, []), some (.putfield 143, 0, 50, []), none, none, some (.aload_n 0, 0, 51, []), some (.getfield 32, 0, 54, []), none, none, some (.invokevirtual 153, 0, 57, []), none, none, some (.ireturn, 0, 58, [])]
def mX7_wheels : zM := (iX7_wheels, [(32, 7, 4, (.object "RankWheels$Line")), (42, 7, 6, (.object "RankWheels$Past")), (143, 1, 7, .int)], [(143, 1, 7, .int)], [], [], [], [(146, 2, zFV 4 2 (zGoes mX4_remember 0 2)), (150, 2, zFV 1 2 (zGoes mX1_wheelOnce 3 3)), (153, 1, zFV 1 1 (zGoes mX1_bulge 1 3))], [])
theorem kX7_wheels : zchkL cX7_wheels 0 iX7_wheels = true := by decide +kernel
set_option maxRecDepth 20000 in
theorem gX7_wheels : zGood mX7_wheels cX7_wheels yX7_wheels.cls (zwd yX7_wheels cX7_wheels 1 (zret 1)) := ⟨fun pc x h => by
    have h1 := zchkL_at kX7_wheels pc x h
    rw [Nat.zero_add] at h1
    exact h1, zlookF (fin := false) [(32, 7, 4, (.object "RankWheels$Line")), (42, 7, 6, (.object "RankWheels$Past")), (143, 1, 7, .int)] (List.forall_mem_cons.mpr ⟨⟨(RX7, TX7, 11), rfl, by decide, List.mem_cons_of_mem _ zw283, fun w h => List.mem_cons_of_mem _ (zX7 w h), by decide +kernel, fun h => by cases h⟩, List.forall_mem_cons.mpr ⟨⟨(RX7, TX7, 11), rfl, by decide, List.mem_cons_of_mem _ zw285, fun w h => List.mem_cons_of_mem _ (zX7 w h), by decide +kernel, fun h => by cases h⟩, List.forall_mem_cons.mpr ⟨⟨(RX1, TX1, 8), rfl, by decide, List.mem_cons_of_mem _ zw169, fun w h => List.mem_cons_of_mem _ (zX1 w h), by decide +kernel, fun h => by cases h⟩, fun _ h => absurd h List.not_mem_nil⟩⟩⟩), zlookF (fin := true) [(143, 1, 7, .int)] (List.forall_mem_cons.mpr ⟨⟨(RX1, TX1, 8), rfl, by decide, List.mem_cons_of_mem _ zw169, fun w h => List.mem_cons_of_mem _ (zX1 w h), by decide +kernel, fun _ => rfl⟩, fun _ h => absurd h List.not_mem_nil⟩), zlookup (β := Int32) (L := []) (P := fun ix b => Jvm.Cond.constant yX7_wheels.cls ix b ∈ (zwd yX7_wheels cX7_wheels 1 (zret 1))) (fun _ h => absurd h List.not_mem_nil), zlookup (β := Int64) (L := []) (P := fun ix b => Jvm.Cond.constantLong yX7_wheels.cls ix b ∈ (zwd yX7_wheels cX7_wheels 1 (zret 1))) (fun _ h => absurd h List.not_mem_nil), zlookup (β := Nat) (L := []) (P := fun ix b => zmok yX7_wheels.cls (zwd yX7_wheels cX7_wheels 1 (zret 1)) ix b) (fun _ h => absurd h List.not_mem_nil)⟩
set_option maxRecDepth 20000 in
theorem sX7_wheels (l : Launch) : ∀ (as : List Value) (ws : zW) (K : zP), zFr 1 (zGoes mX7_wheels 1 1) as ws K → zMet l yX7_wheels (zwd yX7_wheels cX7_wheels 1 (zret 1)) { frames := 5, cells := 0, slots := 0, locals := 1000 } 1 as ws K := zFr_met (by decide +kernel) (by decide) (by decide) gX7_wheels (fun p e s m args below meth c D cy ad A n0 Q S hKK hA => ⟨fun ix n G h => zlookup (β := Nat × zG) (L := [(146, 2, zFV 4 2 (zGoes mX4_remember 0 2)), (150, 2, zFV 1 2 (zGoes mX1_wheelOnce 3 3)), (153, 1, zFV 1 1 (zGoes mX1_bulge 1 3))]) (P := fun ix b => zCO p l e { frames := 5, cells := 0, slots := 0, locals := 1000 } s m args below meth c cX7_wheels 1 D cy ad A n0 0 0 Q (.invokevirtual ix) b.1 b.2) (List.forall_mem_cons.mpr ⟨zco_V (ci := 4) S hKK hA ⟨Nat.zero_le _, Nat.zero_le _⟩ (cwV 1 S.2.2.2.2 (zgoodV zw420 zw421 zw422 zw53 zw423) rfl rfl rfl (by decide +kernel) (by decide +kernel)) rfl rfl (sX4_remember l), List.forall_mem_cons.mpr ⟨zco_V (ci := 1) S hKK hA ⟨Nat.zero_le _, Nat.zero_le _⟩ (cwV 1 S.2.2.2.2 (zgoodV zw433 zw434 zw435 zw52 zw436) rfl rfl rfl (by decide +kernel) (by decide +kernel)) rfl rfl (sX1_wheelOnce l), List.forall_mem_cons.mpr ⟨zco_V (ci := 1) S hKK hA ⟨Nat.zero_le _, Nat.zero_le _⟩ (cwV 0 S.2.2.2.2 (zgoodV zw458 zw459 zw460 zw52 zw461) rfl rfl rfl (by decide +kernel) (by decide +kernel)) rfl rfl (sX1_bulge l), fun _ h => absurd h List.not_mem_nil⟩⟩⟩) ix (n, G) h, fun ix n G h => zlookup (β := Nat × zG) (L := []) (P := fun ix b => zCO p l e { frames := 5, cells := 0, slots := 0, locals := 1000 } s m args below meth c cX7_wheels 1 D cy ad A n0 0 0 Q (.invokestatic ix) b.1 b.2) (fun _ h => absurd h List.not_mem_nil) ix (n, G) h⟩) (by decide)
def iX7_slips : List (Option zI) := [some (.aload_n 0, 0, 1, []), some (.iload_n 1, 0, 2, []), some (.invokevirtual 127, 0, 5, []), none, none, some (.ifCond .eq 13, 0, 8, [18]), none, none, some (.iload_n 2, 0, 9, []), some (.iconst 1, 1, 10, []), some (.bipush 99, 99, 12, []), none, some (.invokestatic 71, 0, 15, []), none, none, some (.ifCond .ne 7, 0, 18, [22]), none, none, some (.sipush (-1001), (-1001), 21, []), none, none, some (.ireturn, 0, 22, []), some (.aload_n 0, 0, 23, []), some (.getfield 42, 0, 26, []), none, none, some (.aload_n 0, 0, 27, []), some (.getfield 32, 0, 30, []), none, none, some (.invokevirtual 146, 0, 33, []), none, none, some (.aload_n 0, 0, 34, []), some (.getfield 32, 0, 37, []), none, none, some (.iload_n 1, 0, 38, []), some (.iload_n 2, 0, 39, []), some (.invokevirtual 157, 0, 42, []), none, none, some (.aload_n 0, 0, 43, []), some (.getfield 32, 0, 46, []), none, none, some (.getfield 134, 0, 49, []), none, none, some (.iload_n 1, 0, 50, []), some (.iaload, 0, 51, []), some (.ireturn, 0, 52, [])]
def mX7_slips : zM := (iX7_slips, [(32, 7, 4, (.object "RankWheels$Line")), (42, 7, 6, (.object "RankWheels$Past")), (134, 1, 2, (.array .int))], [], [], [], [], [(127, 2, zFV 7 2 (zGoes mX7_isPlace 3 2)), (146, 2, zFV 4 2 (zGoes mX4_remember 0 2)), (157, 3, zFV 1 3 (zGoes mX1_lose 0 3))], [(71, 3, zFr 3 (zGoes mX7_within 3 3))])
theorem kX7_slips : zchkL cX7_slips 0 iX7_slips = true := by decide +kernel
set_option maxRecDepth 20000 in
theorem gX7_slips : zGood mX7_slips cX7_slips yX7_slips.cls (zwd yX7_slips cX7_slips 3 (zret 1)) := ⟨fun pc x h => by
    have h1 := zchkL_at kX7_slips pc x h
    rw [Nat.zero_add] at h1
    exact h1, zlookF (fin := false) [(32, 7, 4, (.object "RankWheels$Line")), (42, 7, 6, (.object "RankWheels$Past")), (134, 1, 2, (.array .int))] (List.forall_mem_cons.mpr ⟨⟨(RX7, TX7, 11), rfl, by decide, List.mem_cons_of_mem _ zw283, fun w h => List.mem_cons_of_mem _ (zX7 w h), by decide +kernel, fun h => by cases h⟩, List.forall_mem_cons.mpr ⟨⟨(RX7, TX7, 11), rfl, by decide, List.mem_cons_of_mem _ zw285, fun w h => List.mem_cons_of_mem _ (zX7 w h), by decide +kernel, fun h => by cases h⟩, List.forall_mem_cons.mpr ⟨⟨(RX1, TX1, 8), rfl, by decide, List.mem_cons_of_mem _ zw159, fun w h => List.mem_cons_of_mem _ (zX1 w h), by decide +kernel, fun h => by cases h⟩, fun _ h => absurd h List.not_mem_nil⟩⟩⟩), zlookF (fin := true) [] (fun _ h => absurd h List.not_mem_nil), zlookup (β := Int32) (L := []) (P := fun ix b => Jvm.Cond.constant yX7_slips.cls ix b ∈ (zwd yX7_slips cX7_slips 3 (zret 1))) (fun _ h => absurd h List.not_mem_nil), zlookup (β := Int64) (L := []) (P := fun ix b => Jvm.Cond.constantLong yX7_slips.cls ix b ∈ (zwd yX7_slips cX7_slips 3 (zret 1))) (fun _ h => absurd h List.not_mem_nil), zlookup (β := Nat) (L := []) (P := fun ix b => zmok yX7_slips.cls (zwd yX7_slips cX7_slips 3 (zret 1)) ix b) (fun _ h => absurd h List.not_mem_nil)⟩
set_option maxRecDepth 20000 in
theorem sX7_slips (l : Launch) : ∀ (as : List Value) (ws : zW) (K : zP), zFr 3 (zGoes mX7_slips 1 3) as ws K → zMet l yX7_slips (zwd yX7_slips cX7_slips 3 (zret 1)) { frames := 3, cells := 0, slots := 0, locals := 600 } 1 as ws K := zFr_met (by decide +kernel) (by decide) (by decide) gX7_slips (fun p e s m args below meth c D cy ad A n0 Q S hKK hA => ⟨fun ix n G h => zlookup (β := Nat × zG) (L := [(127, 2, zFV 7 2 (zGoes mX7_isPlace 3 2)), (146, 2, zFV 4 2 (zGoes mX4_remember 0 2)), (157, 3, zFV 1 3 (zGoes mX1_lose 0 3))]) (P := fun ix b => zCO p l e { frames := 3, cells := 0, slots := 0, locals := 600 } s m args below meth c cX7_slips 3 D cy ad A n0 0 0 Q (.invokevirtual ix) b.1 b.2) (List.forall_mem_cons.mpr ⟨zco_V (ci := 7) S hKK hA ⟨Nat.zero_le _, Nat.zero_le _⟩ (cwV 1 S.2.2.2.2 (zgoodV zw405 zw407 zw9 zw49 zw408) rfl rfl rfl (by decide +kernel) (by decide +kernel)) rfl rfl (sX7_isPlace l), List.forall_mem_cons.mpr ⟨zco_V (ci := 4) S hKK hA ⟨Nat.zero_le _, Nat.zero_le _⟩ (cwV 1 S.2.2.2.2 (zgoodV zw420 zw421 zw422 zw53 zw423) rfl rfl rfl (by decide +kernel) (by decide +kernel)) rfl rfl (sX4_remember l), List.forall_mem_cons.mpr ⟨zco_V (ci := 1) S hKK hA ⟨Nat.zero_le _, Nat.zero_le _⟩ (cwV 2 S.2.2.2.2 (zgoodV zw473 zw474 zw475 zw52 zw476) rfl rfl rfl (by decide +kernel) (by decide +kernel)) rfl rfl (sX1_lose l), fun _ h => absurd h List.not_mem_nil⟩⟩⟩) ix (n, G) h, fun ix n G h => zlookup (β := Nat × zG) (L := [(71, 3, zFr 3 (zGoes mX7_within 3 3))]) (P := fun ix b => zCO p l e { frames := 3, cells := 0, slots := 0, locals := 600 } s m args below meth c cX7_slips 3 D cy ad A n0 0 0 Q (.invokestatic ix) b.1 b.2) (List.forall_mem_cons.mpr ⟨zco_S S hKK hA ⟨Nat.zero_le _, Nat.zero_le _⟩ (va_cwS 3 S.2.2.2.2 (zgoodS zw317 zw318 zw49 zw319) rfl rfl rfl (by decide +kernel) (by decide +kernel)) (sX7_within l), fun _ h => absurd h List.not_mem_nil⟩) ix (n, G) h⟩) (by decide)
def iX7_hops : List (Option zI) := [some (.aload_n 0, 0, 1, []), some (.iload_n 1, 0, 2, []), some (.invokevirtual 127, 0, 5, []), none, none, some (.ifCond .ne 7, 0, 8, [12]), none, none, some (.sipush (-1001), (-1001), 11, []), none, none, some (.ireturn, 0, 12, []), some (.aload_n 0, 0, 13, []), some (.getfield 42, 0, 16, []), none, none, some (.aload_n 0, 0, 17, []), some (.getfield 32, 0, 20, []), none, none, some (.invokevirtual 146, 0, 23, []), none, none, some (.aload_n 0, 0, 24, []), some (.getfield 32, 0, 27, []), none, none, some (.getfield 137, 0, 30, []), none, none, some (.iload_n 1, 0, 31, []), some (.iconst 1, 1, 32, []), some (.aload_n 0, 0, 33, []), some (.getfield 32, 0, 36, []), none, none, some (.getfield 137, 0, 39, []), none, none, some (.iload_n 1, 0, 40, []), some (.iaload, 0, 41, []), some (.isub, 0, 42, []), some (.iastore, 0, 43, []), some (.aload_n 0, 0, 44, []), some (.getfield 32, 0, 47, []), none, none, some (.getfield 137, 0, 50, []), none, none, some (.iload_n 1, 0, 51, []), some (.iaload, 0, 52, []), some (.ireturn, 0, 53, [])]
def mX7_hops : zM := (iX7_hops, [(32, 7, 4, (.object "RankWheels$Line")), (42, 7, 6, (.object "RankWheels$Past")), (137, 1, 3, (.array .int))], [], [], [], [], [(127, 2, zFV 7 2 (zGoes mX7_isPlace 3 2)), (146, 2, zFV 4 2 (zGoes mX4_remember 0 2))], [])
theorem kX7_hops : zchkL cX7_hops 0 iX7_hops = true := by decide +kernel
set_option maxRecDepth 20000 in
theorem gX7_hops : zGood mX7_hops cX7_hops yX7_hops.cls (zwd yX7_hops cX7_hops 2 (zret 1)) := ⟨fun pc x h => by
    have h1 := zchkL_at kX7_hops pc x h
    rw [Nat.zero_add] at h1
    exact h1, zlookF (fin := false) [(32, 7, 4, (.object "RankWheels$Line")), (42, 7, 6, (.object "RankWheels$Past")), (137, 1, 3, (.array .int))] (List.forall_mem_cons.mpr ⟨⟨(RX7, TX7, 11), rfl, by decide, List.mem_cons_of_mem _ zw283, fun w h => List.mem_cons_of_mem _ (zX7 w h), by decide +kernel, fun h => by cases h⟩, List.forall_mem_cons.mpr ⟨⟨(RX7, TX7, 11), rfl, by decide, List.mem_cons_of_mem _ zw285, fun w h => List.mem_cons_of_mem _ (zX7 w h), by decide +kernel, fun h => by cases h⟩, List.forall_mem_cons.mpr ⟨⟨(RX1, TX1, 8), rfl, by decide, List.mem_cons_of_mem _ zw161, fun w h => List.mem_cons_of_mem _ (zX1 w h), by decide +kernel, fun h => by cases h⟩, fun _ h => absurd h List.not_mem_nil⟩⟩⟩), zlookF (fin := true) [] (fun _ h => absurd h List.not_mem_nil), zlookup (β := Int32) (L := []) (P := fun ix b => Jvm.Cond.constant yX7_hops.cls ix b ∈ (zwd yX7_hops cX7_hops 2 (zret 1))) (fun _ h => absurd h List.not_mem_nil), zlookup (β := Int64) (L := []) (P := fun ix b => Jvm.Cond.constantLong yX7_hops.cls ix b ∈ (zwd yX7_hops cX7_hops 2 (zret 1))) (fun _ h => absurd h List.not_mem_nil), zlookup (β := Nat) (L := []) (P := fun ix b => zmok yX7_hops.cls (zwd yX7_hops cX7_hops 2 (zret 1)) ix b) (fun _ h => absurd h List.not_mem_nil)⟩
set_option maxRecDepth 20000 in
theorem sX7_hops (l : Launch) : ∀ (as : List Value) (ws : zW) (K : zP), zFr 2 (zGoes mX7_hops 1 2) as ws K → zMet l yX7_hops (zwd yX7_hops cX7_hops 2 (zret 1)) { frames := 3, cells := 0, slots := 0, locals := 600 } 1 as ws K := zFr_met (by decide +kernel) (by decide) (by decide) gX7_hops (fun p e s m args below meth c D cy ad A n0 Q S hKK hA => ⟨fun ix n G h => zlookup (β := Nat × zG) (L := [(127, 2, zFV 7 2 (zGoes mX7_isPlace 3 2)), (146, 2, zFV 4 2 (zGoes mX4_remember 0 2))]) (P := fun ix b => zCO p l e { frames := 3, cells := 0, slots := 0, locals := 600 } s m args below meth c cX7_hops 2 D cy ad A n0 0 0 Q (.invokevirtual ix) b.1 b.2) (List.forall_mem_cons.mpr ⟨zco_V (ci := 7) S hKK hA ⟨Nat.zero_le _, Nat.zero_le _⟩ (cwV 1 S.2.2.2.2 (zgoodV zw405 zw407 zw9 zw49 zw408) rfl rfl rfl (by decide +kernel) (by decide +kernel)) rfl rfl (sX7_isPlace l), List.forall_mem_cons.mpr ⟨zco_V (ci := 4) S hKK hA ⟨Nat.zero_le _, Nat.zero_le _⟩ (cwV 1 S.2.2.2.2 (zgoodV zw420 zw421 zw422 zw53 zw423) rfl rfl rfl (by decide +kernel) (by decide +kernel)) rfl rfl (sX4_remember l), fun _ h => absurd h List.not_mem_nil⟩⟩) ix (n, G) h, fun ix n G h => zlookup (β := Nat × zG) (L := []) (P := fun ix b => zCO p l e { frames := 3, cells := 0, slots := 0, locals := 600 } s m args below meth c cX7_hops 2 D cy ad A n0 0 0 Q (.invokestatic ix) b.1 b.2) (fun _ h => absurd h List.not_mem_nil) ix (n, G) h⟩) (by decide)
def iX7_swaps : List (Option zI) := [some (.aload_n 0, 0, 1, []), some (.iload_n 1, 0, 2, []), some (.invokevirtual 127, 0, 5, []), none, none, some (.ifCond .eq 16, 0, 8, [21]), none, none, some (.aload_n 0, 0, 9, []), some (.iload_n 2, 0, 10, []), some (.invokevirtual 127, 0, 13, []), none, none, some (.ifCond .eq 8, 0, 16, [21]), none, none, some (.iload_n 1, 0, 17, []), some (.iload_n 2, 0, 18, []), some (.if_icmp .ne 7, 0, 21, [25]), none, none, some (.sipush (-1001), (-1001), 24, []), none, none, some (.ireturn, 0, 25, []), some (.aload_n 0, 0, 26, []), some (.getfield 42, 0, 29, []), none, none, some (.aload_n 0, 0, 30, []), some (.getfield 32, 0, 33, []), none, none, some (.invokevirtual 146, 0, 36, []), none, none, some (.aload_n 0, 0, 37, []), some (.getfield 32, 0, 40, []), none, none, some (.getfield 131, 0, 43, []), none, none, some (.iload_n 1, 0, 44, []), some (.iaload, 0, 45, []), some (.istore_n 3, 0, 46, []), some (.aload_n 0, 0, 47, []), some (.getfield 32, 0, 50, []), none, none, some (.getfield 131, 0, 53, []), none, none, some (.iload_n 1, 0, 54, []), some (.aload_n 0, 0, 55, []), some (.getfield 32, 0, 58, []), none, none, some (.getfield 131, 0, 61, []), none, none, some (.iload_n 2, 0, 62, []), some (.iaload, 0, 63, []), some (.iastore, 0, 64, []), some (.aload_n 0, 0, 65, []), some (.getfield 32, 0, 68, []), none, none, some (.getfield 131, 0, 71, []), none, none, some (.iload_n 2, 0, 72, []), some (.iload_n 3, 0, 73, []), some (.iastore, 0, 74, []), some (.aload_n 0, 0, 75, []), some (.getfield 32, 0, 78, []), none, none, some (.getfield 131, 0, 81, []), none, none, some (.iload_n 1, 0, 82, []), some (.iaload, 0, 83, []), some (.ireturn, 0, 84, [])]
def mX7_swaps : zM := (iX7_swaps, [(32, 7, 4, (.object "RankWheels$Line")), (42, 7, 6, (.object "RankWheels$Past")), (131, 1, 1, (.array .int))], [], [], [], [], [(127, 2, zFV 7 2 (zGoes mX7_isPlace 3 2)), (146, 2, zFV 4 2 (zGoes mX4_remember 0 2))], [])
theorem kX7_swaps : zchkL cX7_swaps 0 iX7_swaps = true := by decide +kernel
set_option maxRecDepth 20000 in
theorem gX7_swaps : zGood mX7_swaps cX7_swaps yX7_swaps.cls (zwd yX7_swaps cX7_swaps 4 (zret 1)) := ⟨fun pc x h => by
    have h1 := zchkL_at kX7_swaps pc x h
    rw [Nat.zero_add] at h1
    exact h1, zlookF (fin := false) [(32, 7, 4, (.object "RankWheels$Line")), (42, 7, 6, (.object "RankWheels$Past")), (131, 1, 1, (.array .int))] (List.forall_mem_cons.mpr ⟨⟨(RX7, TX7, 11), rfl, by decide, List.mem_cons_of_mem _ zw283, fun w h => List.mem_cons_of_mem _ (zX7 w h), by decide +kernel, fun h => by cases h⟩, List.forall_mem_cons.mpr ⟨⟨(RX7, TX7, 11), rfl, by decide, List.mem_cons_of_mem _ zw285, fun w h => List.mem_cons_of_mem _ (zX7 w h), by decide +kernel, fun h => by cases h⟩, List.forall_mem_cons.mpr ⟨⟨(RX1, TX1, 8), rfl, by decide, List.mem_cons_of_mem _ zw156, fun w h => List.mem_cons_of_mem _ (zX1 w h), by decide +kernel, fun h => by cases h⟩, fun _ h => absurd h List.not_mem_nil⟩⟩⟩), zlookF (fin := true) [] (fun _ h => absurd h List.not_mem_nil), zlookup (β := Int32) (L := []) (P := fun ix b => Jvm.Cond.constant yX7_swaps.cls ix b ∈ (zwd yX7_swaps cX7_swaps 4 (zret 1))) (fun _ h => absurd h List.not_mem_nil), zlookup (β := Int64) (L := []) (P := fun ix b => Jvm.Cond.constantLong yX7_swaps.cls ix b ∈ (zwd yX7_swaps cX7_swaps 4 (zret 1))) (fun _ h => absurd h List.not_mem_nil), zlookup (β := Nat) (L := []) (P := fun ix b => zmok yX7_swaps.cls (zwd yX7_swaps cX7_swaps 4 (zret 1)) ix b) (fun _ h => absurd h List.not_mem_nil)⟩
set_option maxRecDepth 20000 in
theorem sX7_swaps (l : Launch) : ∀ (as : List Value) (ws : zW) (K : zP), zFr 3 (zGoes mX7_swaps 1 4) as ws K → zMet l yX7_swaps (zwd yX7_swaps cX7_swaps 4 (zret 1)) { frames := 3, cells := 0, slots := 0, locals := 600 } 1 as ws K := zFr_met (by decide +kernel) (by decide) (by decide) gX7_swaps (fun p e s m args below meth c D cy ad A n0 Q S hKK hA => ⟨fun ix n G h => zlookup (β := Nat × zG) (L := [(127, 2, zFV 7 2 (zGoes mX7_isPlace 3 2)), (146, 2, zFV 4 2 (zGoes mX4_remember 0 2))]) (P := fun ix b => zCO p l e { frames := 3, cells := 0, slots := 0, locals := 600 } s m args below meth c cX7_swaps 4 D cy ad A n0 0 0 Q (.invokevirtual ix) b.1 b.2) (List.forall_mem_cons.mpr ⟨zco_V (ci := 7) S hKK hA ⟨Nat.zero_le _, Nat.zero_le _⟩ (cwV 1 S.2.2.2.2 (zgoodV zw405 zw407 zw9 zw49 zw408) rfl rfl rfl (by decide +kernel) (by decide +kernel)) rfl rfl (sX7_isPlace l), List.forall_mem_cons.mpr ⟨zco_V (ci := 4) S hKK hA ⟨Nat.zero_le _, Nat.zero_le _⟩ (cwV 1 S.2.2.2.2 (zgoodV zw420 zw421 zw422 zw53 zw423) rfl rfl rfl (by decide +kernel) (by decide +kernel)) rfl rfl (sX4_remember l), fun _ h => absurd h List.not_mem_nil⟩⟩) ix (n, G) h, fun ix n G h => zlookup (β := Nat × zG) (L := []) (P := fun ix b => zCO p l e { frames := 3, cells := 0, slots := 0, locals := 600 } s m args below meth c cX7_swaps 4 D cy ad A n0 0 0 Q (.invokestatic ix) b.1 b.2) (fun _ h => absurd h List.not_mem_nil) ix (n, G) h⟩) (by decide)
def iX7_bothMinds : List (Option zI) := [some (.bipush 11, 11, 2, []), none, some (.iload_n 0, 0, 3, []), some (.imul, 0, 4, []), some (.iload_n 1, 0, 5, []), some (.iadd, 0, 6, []), some (.ireturn, 0, 7, [])]
def mX7_bothMinds : zM := (iX7_bothMinds, [], [], [], [], [], [], [])
theorem kX7_bothMinds : zchkL cX7_bothMinds 0 iX7_bothMinds = true := by decide +kernel
set_option maxRecDepth 20000 in
theorem gX7_bothMinds : zGood mX7_bothMinds cX7_bothMinds yX7_bothMinds.cls (zwd yX7_bothMinds cX7_bothMinds 2 (zret 1)) := ⟨fun pc x h => by
    have h1 := zchkL_at kX7_bothMinds pc x h
    rw [Nat.zero_add] at h1
    exact h1, zlookF (fin := false) [] (fun _ h => absurd h List.not_mem_nil), zlookF (fin := true) [] (fun _ h => absurd h List.not_mem_nil), zlookup (β := Int32) (L := []) (P := fun ix b => Jvm.Cond.constant yX7_bothMinds.cls ix b ∈ (zwd yX7_bothMinds cX7_bothMinds 2 (zret 1))) (fun _ h => absurd h List.not_mem_nil), zlookup (β := Int64) (L := []) (P := fun ix b => Jvm.Cond.constantLong yX7_bothMinds.cls ix b ∈ (zwd yX7_bothMinds cX7_bothMinds 2 (zret 1))) (fun _ h => absurd h List.not_mem_nil), zlookup (β := Nat) (L := []) (P := fun ix b => zmok yX7_bothMinds.cls (zwd yX7_bothMinds cX7_bothMinds 2 (zret 1)) ix b) (fun _ h => absurd h List.not_mem_nil)⟩
set_option maxRecDepth 20000 in
theorem sX7_bothMinds (l : Launch) : ∀ (as : List Value) (ws : zW) (K : zP), zFr 2 (zGoes mX7_bothMinds 1 2) as ws K → zMet l yX7_bothMinds (zwd yX7_bothMinds cX7_bothMinds 2 (zret 1)) { frames := 1, cells := 0, slots := 0, locals := 200 } 1 as ws K := zFr_met (by decide +kernel) (by decide) (by decide) gX7_bothMinds (fun p e s m args below meth c D cy ad A n0 Q S hKK hA => ⟨fun ix n G h => zlookup (β := Nat × zG) (L := []) (P := fun ix b => zCO p l e { frames := 1, cells := 0, slots := 0, locals := 200 } s m args below meth c cX7_bothMinds 2 D cy ad A n0 0 0 Q (.invokevirtual ix) b.1 b.2) (fun _ h => absurd h List.not_mem_nil) ix (n, G) h, fun ix n G h => zlookup (β := Nat × zG) (L := []) (P := fun ix b => zCO p l e { frames := 1, cells := 0, slots := 0, locals := 200 } s m args below meth c cX7_bothMinds 2 D cy ad A n0 0 0 Q (.invokestatic ix) b.1 b.2) (fun _ h => absurd h List.not_mem_nil) ix (n, G) h⟩) (by decide)
end
section
def iX7_minds : List (Option zI) := [some (.iload_n 1, 0, 1, []), some (.iconst 0, 0, 2, []), some (.bipush 10, 10, 4, []), none, some (.invokestatic 71, 0, 7, []), none, none, some (.ifCond .eq 13, 0, 10, [20]), none, none, some (.iload_n 2, 0, 11, []), some (.iconst 0, 0, 12, []), some (.bipush 10, 10, 14, []), none, some (.invokestatic 71, 0, 17, []), none, none, some (.ifCond .ne 7, 0, 20, [24]), none, none, some (.sipush (-1001), (-1001), 23, []), none, none, some (.ireturn, 0, 24, []), some (.aload_n 0, 0, 25, []), some (.getfield 42, 0, 28, []), none, none, some (.aload_n 0, 0, 29, []), some (.getfield 32, 0, 32, []), none, none, some (.invokevirtual 146, 0, 35, []), none, none, some (.aload_n 0, 0, 36, []), some (.getfield 32, 0, 39, []), none, none, some (.getfield 161, 0, 42, []), none, none, some (.aload_n 0, 0, 43, []), some (.getfield 32, 0, 46, []), none, none, some (.getfield 162, 0, 49, []), none, none, some (.invokestatic 163, 0, 52, []), none, none, some (.istore_n 3, 0, 53, []), some (.aload_n 0, 0, 54, []), some (.getfield 32, 0, 57, []), none, none, some (.iload_n 1, 0, 58, []), some (.putfield 161, 0, 61, []), none, none, some (.aload_n 0, 0, 62, []), some (.getfield 32, 0, 65, []), none, none, some (.iload_n 2, 0, 66, []), some (.putfield 162, 0, 69, []), none, none, some (.iload_n 3, 0, 70, []), some (.ireturn, 0, 71, [])]
def mX7_minds : zM := (iX7_minds, [(32, 7, 4, (.object "RankWheels$Line")), (42, 7, 6, (.object "RankWheels$Past")), (161, 1, 5, .int), (162, 1, 6, .int)], [(161, 1, 5, .int), (162, 1, 6, .int)], [], [], [], [(146, 2, zFV 4 2 (zGoes mX4_remember 0 2))], [(71, 3, zFr 3 (zGoes mX7_within 3 3)), (163, 2, zFr 2 (zGoes mX7_bothMinds 1 2))])
theorem kX7_minds : zchkL cX7_minds 0 iX7_minds = true := by decide +kernel
set_option maxRecDepth 20000 in
theorem gX7_minds : zGood mX7_minds cX7_minds yX7_minds.cls (zwd yX7_minds cX7_minds 4 (zret 1)) := ⟨fun pc x h => by
    have h1 := zchkL_at kX7_minds pc x h
    rw [Nat.zero_add] at h1
    exact h1, zlookF (fin := false) [(32, 7, 4, (.object "RankWheels$Line")), (42, 7, 6, (.object "RankWheels$Past")), (161, 1, 5, .int), (162, 1, 6, .int)] (List.forall_mem_cons.mpr ⟨⟨(RX7, TX7, 11), rfl, by decide, List.mem_cons_of_mem _ zw283, fun w h => List.mem_cons_of_mem _ (zX7 w h), by decide +kernel, fun h => by cases h⟩, List.forall_mem_cons.mpr ⟨⟨(RX7, TX7, 11), rfl, by decide, List.mem_cons_of_mem _ zw285, fun w h => List.mem_cons_of_mem _ (zX7 w h), by decide +kernel, fun h => by cases h⟩, List.forall_mem_cons.mpr ⟨⟨(RX1, TX1, 8), rfl, by decide, List.mem_cons_of_mem _ zw165, fun w h => List.mem_cons_of_mem _ (zX1 w h), by decide +kernel, fun h => by cases h⟩, List.forall_mem_cons.mpr ⟨⟨(RX1, TX1, 8), rfl, by decide, List.mem_cons_of_mem _ zw167, fun w h => List.mem_cons_of_mem _ (zX1 w h), by decide +kernel, fun h => by cases h⟩, fun _ h => absurd h List.not_mem_nil⟩⟩⟩⟩), zlookF (fin := true) [(161, 1, 5, .int), (162, 1, 6, .int)] (List.forall_mem_cons.mpr ⟨⟨(RX1, TX1, 8), rfl, by decide, List.mem_cons_of_mem _ zw165, fun w h => List.mem_cons_of_mem _ (zX1 w h), by decide +kernel, fun _ => rfl⟩, List.forall_mem_cons.mpr ⟨⟨(RX1, TX1, 8), rfl, by decide, List.mem_cons_of_mem _ zw167, fun w h => List.mem_cons_of_mem _ (zX1 w h), by decide +kernel, fun _ => rfl⟩, fun _ h => absurd h List.not_mem_nil⟩⟩), zlookup (β := Int32) (L := []) (P := fun ix b => Jvm.Cond.constant yX7_minds.cls ix b ∈ (zwd yX7_minds cX7_minds 4 (zret 1))) (fun _ h => absurd h List.not_mem_nil), zlookup (β := Int64) (L := []) (P := fun ix b => Jvm.Cond.constantLong yX7_minds.cls ix b ∈ (zwd yX7_minds cX7_minds 4 (zret 1))) (fun _ h => absurd h List.not_mem_nil), zlookup (β := Nat) (L := []) (P := fun ix b => zmok yX7_minds.cls (zwd yX7_minds cX7_minds 4 (zret 1)) ix b) (fun _ h => absurd h List.not_mem_nil)⟩
set_option maxRecDepth 20000 in
theorem sX7_minds (l : Launch) : ∀ (as : List Value) (ws : zW) (K : zP), zFr 3 (zGoes mX7_minds 1 4) as ws K → zMet l yX7_minds (zwd yX7_minds cX7_minds 4 (zret 1)) { frames := 3, cells := 0, slots := 0, locals := 600 } 1 as ws K := zFr_met (by decide +kernel) (by decide) (by decide) gX7_minds (fun p e s m args below meth c D cy ad A n0 Q S hKK hA => ⟨fun ix n G h => zlookup (β := Nat × zG) (L := [(146, 2, zFV 4 2 (zGoes mX4_remember 0 2))]) (P := fun ix b => zCO p l e { frames := 3, cells := 0, slots := 0, locals := 600 } s m args below meth c cX7_minds 4 D cy ad A n0 0 0 Q (.invokevirtual ix) b.1 b.2) (List.forall_mem_cons.mpr ⟨zco_V (ci := 4) S hKK hA ⟨Nat.zero_le _, Nat.zero_le _⟩ (cwV 1 S.2.2.2.2 (zgoodV zw420 zw421 zw422 zw53 zw423) rfl rfl rfl (by decide +kernel) (by decide +kernel)) rfl rfl (sX4_remember l), fun _ h => absurd h List.not_mem_nil⟩) ix (n, G) h, fun ix n G h => zlookup (β := Nat × zG) (L := [(71, 3, zFr 3 (zGoes mX7_within 3 3)), (163, 2, zFr 2 (zGoes mX7_bothMinds 1 2))]) (P := fun ix b => zCO p l e { frames := 3, cells := 0, slots := 0, locals := 600 } s m args below meth c cX7_minds 4 D cy ad A n0 0 0 Q (.invokestatic ix) b.1 b.2) (List.forall_mem_cons.mpr ⟨zco_S S hKK hA ⟨Nat.zero_le _, Nat.zero_le _⟩ (va_cwS 3 S.2.2.2.2 (zgoodS zw317 zw318 zw49 zw319) rfl rfl rfl (by decide +kernel) (by decide +kernel)) (sX7_within l), List.forall_mem_cons.mpr ⟨zco_S S hKK hA ⟨Nat.zero_le _, Nat.zero_le _⟩ (va_cwS 2 S.2.2.2.2 (zgoodS zw489 zw490 zw49 zw491) rfl rfl rfl (by decide +kernel) (by decide +kernel)) (sX7_bothMinds l), fun _ h => absurd h List.not_mem_nil⟩⟩) ix (n, G) h⟩) (by decide)
def iX7_speeds : List (Option zI) := [some (.iload_n 1, 0, 1, []), some (.iconst 1, 1, 2, []), some (.bipush 60, 60, 4, []), none, some (.invokestatic 71, 0, 7, []), none, none, some (.ifCond .ne 7, 0, 10, [14]), none, none, some (.sipush (-1001), (-1001), 13, []), none, none, some (.ireturn, 0, 14, []), some (.aload_n 0, 0, 15, []), some (.getfield 42, 0, 18, []), none, none, some (.aload_n 0, 0, 19, []), some (.getfield 32, 0, 22, []), none, none, some (.invokevirtual 146, 0, 25, []), none, none, some (.aload_n 0, 0, 26, []), some (.getfield 32, 0, 29, []), none, none, some (.getfield 166, 0, 32, []), none, none, some (.istore_n 2, 0, 33, []), some (.aload_n 0, 0, 34, []), some (.getfield 32, 0, 37, []), none, none, some (.iload_n 1, 0, 38, []), some (.putfield 166, 0, 41, []), none, none, some (.iload_n 2, 0, 42, []), some (.ireturn, 0, 43, [])]
def mX7_speeds : zM := (iX7_speeds, [(32, 7, 4, (.object "RankWheels$Line")), (42, 7, 6, (.object "RankWheels$Past")), (166, 1, 4, .int)], [(166, 1, 4, .int)], [], [], [], [(146, 2, zFV 4 2 (zGoes mX4_remember 0 2))], [(71, 3, zFr 3 (zGoes mX7_within 3 3))])
theorem kX7_speeds : zchkL cX7_speeds 0 iX7_speeds = true := by decide +kernel
set_option maxRecDepth 20000 in
theorem gX7_speeds : zGood mX7_speeds cX7_speeds yX7_speeds.cls (zwd yX7_speeds cX7_speeds 3 (zret 1)) := ⟨fun pc x h => by
    have h1 := zchkL_at kX7_speeds pc x h
    rw [Nat.zero_add] at h1
    exact h1, zlookF (fin := false) [(32, 7, 4, (.object "RankWheels$Line")), (42, 7, 6, (.object "RankWheels$Past")), (166, 1, 4, .int)] (List.forall_mem_cons.mpr ⟨⟨(RX7, TX7, 11), rfl, by decide, List.mem_cons_of_mem _ zw283, fun w h => List.mem_cons_of_mem _ (zX7 w h), by decide +kernel, fun h => by cases h⟩, List.forall_mem_cons.mpr ⟨⟨(RX7, TX7, 11), rfl, by decide, List.mem_cons_of_mem _ zw285, fun w h => List.mem_cons_of_mem _ (zX7 w h), by decide +kernel, fun h => by cases h⟩, List.forall_mem_cons.mpr ⟨⟨(RX1, TX1, 8), rfl, by decide, List.mem_cons_of_mem _ zw163, fun w h => List.mem_cons_of_mem _ (zX1 w h), by decide +kernel, fun h => by cases h⟩, fun _ h => absurd h List.not_mem_nil⟩⟩⟩), zlookF (fin := true) [(166, 1, 4, .int)] (List.forall_mem_cons.mpr ⟨⟨(RX1, TX1, 8), rfl, by decide, List.mem_cons_of_mem _ zw163, fun w h => List.mem_cons_of_mem _ (zX1 w h), by decide +kernel, fun _ => rfl⟩, fun _ h => absurd h List.not_mem_nil⟩), zlookup (β := Int32) (L := []) (P := fun ix b => Jvm.Cond.constant yX7_speeds.cls ix b ∈ (zwd yX7_speeds cX7_speeds 3 (zret 1))) (fun _ h => absurd h List.not_mem_nil), zlookup (β := Int64) (L := []) (P := fun ix b => Jvm.Cond.constantLong yX7_speeds.cls ix b ∈ (zwd yX7_speeds cX7_speeds 3 (zret 1))) (fun _ h => absurd h List.not_mem_nil), zlookup (β := Nat) (L := []) (P := fun ix b => zmok yX7_speeds.cls (zwd yX7_speeds cX7_speeds 3 (zret 1)) ix b) (fun _ h => absurd h List.not_mem_nil)⟩
set_option maxRecDepth 20000 in
theorem sX7_speeds (l : Launch) : ∀ (as : List Value) (ws : zW) (K : zP), zFr 2 (zGoes mX7_speeds 1 3) as ws K → zMet l yX7_speeds (zwd yX7_speeds cX7_speeds 3 (zret 1)) { frames := 3, cells := 0, slots := 0, locals := 600 } 1 as ws K := zFr_met (by decide +kernel) (by decide) (by decide) gX7_speeds (fun p e s m args below meth c D cy ad A n0 Q S hKK hA => ⟨fun ix n G h => zlookup (β := Nat × zG) (L := [(146, 2, zFV 4 2 (zGoes mX4_remember 0 2))]) (P := fun ix b => zCO p l e { frames := 3, cells := 0, slots := 0, locals := 600 } s m args below meth c cX7_speeds 3 D cy ad A n0 0 0 Q (.invokevirtual ix) b.1 b.2) (List.forall_mem_cons.mpr ⟨zco_V (ci := 4) S hKK hA ⟨Nat.zero_le _, Nat.zero_le _⟩ (cwV 1 S.2.2.2.2 (zgoodV zw420 zw421 zw422 zw53 zw423) rfl rfl rfl (by decide +kernel) (by decide +kernel)) rfl rfl (sX4_remember l), fun _ h => absurd h List.not_mem_nil⟩) ix (n, G) h, fun ix n G h => zlookup (β := Nat × zG) (L := [(71, 3, zFr 3 (zGoes mX7_within 3 3))]) (P := fun ix b => zCO p l e { frames := 3, cells := 0, slots := 0, locals := 600 } s m args below meth c cX7_speeds 3 D cy ad A n0 0 0 Q (.invokestatic ix) b.1 b.2) (List.forall_mem_cons.mpr ⟨zco_S S hKK hA ⟨Nat.zero_le _, Nat.zero_le _⟩ (va_cwS 3 S.2.2.2.2 (zgoodS zw317 zw318 zw49 zw319) rfl rfl rfl (by decide +kernel) (by decide +kernel)) (sX7_within l), fun _ h => absurd h List.not_mem_nil⟩) ix (n, G) h⟩) (by decide)
def iX7_undo : List (Option zI) := [some (.aload_n 0, 0, 1, []), some (.getfield 42, 0, 4, []), none, none, some (.getfield 103, 0, 7, []), none, none, some (.ifCond .ne 7, 0, 10, [14]), none, none, some (.sipush (-1002), (-1002), 13, []), none, none, some (.ireturn, 0, 14, []), some (.aload_n 0, 0, 15, []), some (.getfield 42, 0, 18, []), none, none, some (.aload_n 0, 0, 19, []), some (.getfield 32, 0, 22, []), none, none, some (.invokevirtual 167, 0, 25, []), none, none, some (.aload_n 0, 0, 26, []), some (.getfield 42, 0, 29, []), none, none, some (.getfield 103, 0, 32, []), none, none, some (.ireturn, 0, 33, [])]
def mX7_undo : zM := (iX7_undo, [(32, 7, 4, (.object "RankWheels$Line")), (42, 7, 6, (.object "RankWheels$Past")), (103, 4, 1, .int)], [], [], [], [], [(167, 2, zFV 4 2 (zGoes mX4_takeBack 0 2))], [])
theorem kX7_undo : zchkL cX7_undo 0 iX7_undo = true := by decide +kernel
set_option maxRecDepth 20000 in
theorem gX7_undo : zGood mX7_undo cX7_undo yX7_undo.cls (zwd yX7_undo cX7_undo 1 (zret 1)) := ⟨fun pc x h => by
    have h1 := zchkL_at kX7_undo pc x h
    rw [Nat.zero_add] at h1
    exact h1, zlookF (fin := false) [(32, 7, 4, (.object "RankWheels$Line")), (42, 7, 6, (.object "RankWheels$Past")), (103, 4, 1, .int)] (List.forall_mem_cons.mpr ⟨⟨(RX7, TX7, 11), rfl, by decide, List.mem_cons_of_mem _ zw283, fun w h => List.mem_cons_of_mem _ (zX7 w h), by decide +kernel, fun h => by cases h⟩, List.forall_mem_cons.mpr ⟨⟨(RX7, TX7, 11), rfl, by decide, List.mem_cons_of_mem _ zw285, fun w h => List.mem_cons_of_mem _ (zX7 w h), by decide +kernel, fun h => by cases h⟩, List.forall_mem_cons.mpr ⟨⟨(RX4, TX4, 2), rfl, by decide, List.mem_cons_of_mem _ zw198, fun w h => List.mem_cons_of_mem _ (zX4 w h), by decide +kernel, fun h => by cases h⟩, fun _ h => absurd h List.not_mem_nil⟩⟩⟩), zlookF (fin := true) [] (fun _ h => absurd h List.not_mem_nil), zlookup (β := Int32) (L := []) (P := fun ix b => Jvm.Cond.constant yX7_undo.cls ix b ∈ (zwd yX7_undo cX7_undo 1 (zret 1))) (fun _ h => absurd h List.not_mem_nil), zlookup (β := Int64) (L := []) (P := fun ix b => Jvm.Cond.constantLong yX7_undo.cls ix b ∈ (zwd yX7_undo cX7_undo 1 (zret 1))) (fun _ h => absurd h List.not_mem_nil), zlookup (β := Nat) (L := []) (P := fun ix b => zmok yX7_undo.cls (zwd yX7_undo cX7_undo 1 (zret 1)) ix b) (fun _ h => absurd h List.not_mem_nil)⟩
set_option maxRecDepth 20000 in
theorem sX7_undo (l : Launch) : ∀ (as : List Value) (ws : zW) (K : zP), zFr 1 (zGoes mX7_undo 1 1) as ws K → zMet l yX7_undo (zwd yX7_undo cX7_undo 1 (zret 1)) { frames := 3, cells := 0, slots := 0, locals := 600 } 1 as ws K := zFr_met (by decide +kernel) (by decide) (by decide) gX7_undo (fun p e s m args below meth c D cy ad A n0 Q S hKK hA => ⟨fun ix n G h => zlookup (β := Nat × zG) (L := [(167, 2, zFV 4 2 (zGoes mX4_takeBack 0 2))]) (P := fun ix b => zCO p l e { frames := 3, cells := 0, slots := 0, locals := 600 } s m args below meth c cX7_undo 1 D cy ad A n0 0 0 Q (.invokevirtual ix) b.1 b.2) (List.forall_mem_cons.mpr ⟨zco_V (ci := 4) S hKK hA ⟨Nat.zero_le _, Nat.zero_le _⟩ (cwV 1 S.2.2.2.2 (zgoodV zw500 zw501 zw502 zw53 zw503) rfl rfl rfl (by decide +kernel) (by decide +kernel)) rfl rfl (sX4_takeBack l), fun _ h => absurd h List.not_mem_nil⟩) ix (n, G) h, fun ix n G h => zlookup (β := Nat × zG) (L := []) (P := fun ix b => zCO p l e { frames := 3, cells := 0, slots := 0, locals := 600 } s m args below meth c cX7_undo 1 D cy ad A n0 0 0 Q (.invokestatic ix) b.1 b.2) (fun _ h => absurd h List.not_mem_nil) ix (n, G) h⟩) (by decide)
def iX7_now : List (Option zI) := [some (.iload_n 1, 0, 1, []), some (.tableswitch 111 0 7 #[47, 55, 63, 71, 79, 87, 95, 103], 0, 48, [112, 48, 56, 64, 72, 80, 88, 96, 104]), none, none, none, none, none, none, none, none, none, none, none, none, none, none, none, none, none, none, none, none, none, none, none, none, none, none, none, none, none, none, none, none, none, none, none, none, none, none, none, none, none, none, none, none, none, none, some (.aload_n 0, 0, 49, []), some (.getfield 32, 0, 52, []), none, none, some (.getfield 143, 0, 55, []), none, none, some (.ireturn, 0, 56, []), some (.aload_n 0, 0, 57, []), some (.getfield 32, 0, 60, []), none, none, some (.getfield 166, 0, 63, []), none, none, some (.ireturn, 0, 64, []), some (.aload_n 0, 0, 65, []), some (.getfield 32, 0, 68, []), none, none, some (.getfield 161, 0, 71, []), none, none, some (.ireturn, 0, 72, []), some (.aload_n 0, 0, 73, []), some (.getfield 32, 0, 76, []), none, none, some (.getfield 162, 0, 79, []), none, none, some (.ireturn, 0, 80, []), some (.aload_n 0, 0, 81, []), some (.getfield 32, 0, 84, []), none, none, some (.invokevirtual 153, 0, 87, []), none, none, some (.ireturn, 0, 88, []), some (.aload_n 0, 0, 89, []), some (.getfield 32, 0, 92, []), none, none, some (.invokevirtual 170, 0, 95, []), none, none, some (.ireturn, 0, 96, []), some (.aload_n 0, 0, 97, []), some (.getfield 32, 0, 100, []), none, none, some (.invokevirtual 173, 0, 103, []), none, none, some (.ireturn, 0, 104, []), some (.aload_n 0, 0, 105, []), some (.getfield 32, 0, 108, []), none, none, some (.invokevirtual 176, 0, 111, []), none, none, some (.ireturn, 0, 112, []), some (.sipush (-1001), (-1001), 115, []), none, none, some (.ireturn, 0, 116, [])]
def mX7_now : zM := (iX7_now, [(32, 7, 4, (.object "RankWheels$Line")), (143, 1, 7, .int), (161, 1, 5, .int), (162, 1, 6, .int), (166, 1, 4, .int)], [], [], [], [], [(153, 1, zFV 1 1 (zGoes mX1_bulge 1 3)), (170, 1, zFV 1 1 (zGoes mX1_bulgePlace 1 3)), (173, 1, zFV 1 1 (zGoes mX1_feet 1 3)), (176, 1, zFV 1 1 (zGoes mX1_placesInLine 1 3))], [])
theorem kX7_now : zchkL cX7_now 0 iX7_now = true := by decide +kernel
set_option maxRecDepth 20000 in
theorem gX7_now : zGood mX7_now cX7_now yX7_now.cls (zwd yX7_now cX7_now 2 (zret 1)) := ⟨fun pc x h => by
    have h1 := zchkL_at kX7_now pc x h
    rw [Nat.zero_add] at h1
    exact h1, zlookF (fin := false) [(32, 7, 4, (.object "RankWheels$Line")), (143, 1, 7, .int), (161, 1, 5, .int), (162, 1, 6, .int), (166, 1, 4, .int)] (List.forall_mem_cons.mpr ⟨⟨(RX7, TX7, 11), rfl, by decide, List.mem_cons_of_mem _ zw283, fun w h => List.mem_cons_of_mem _ (zX7 w h), by decide +kernel, fun h => by cases h⟩, List.forall_mem_cons.mpr ⟨⟨(RX1, TX1, 8), rfl, by decide, List.mem_cons_of_mem _ zw169, fun w h => List.mem_cons_of_mem _ (zX1 w h), by decide +kernel, fun h => by cases h⟩, List.forall_mem_cons.mpr ⟨⟨(RX1, TX1, 8), rfl, by decide, List.mem_cons_of_mem _ zw165, fun w h => List.mem_cons_of_mem _ (zX1 w h), by decide +kernel, fun h => by cases h⟩, List.forall_mem_cons.mpr ⟨⟨(RX1, TX1, 8), rfl, by decide, List.mem_cons_of_mem _ zw167, fun w h => List.mem_cons_of_mem _ (zX1 w h), by decide +kernel, fun h => by cases h⟩, List.forall_mem_cons.mpr ⟨⟨(RX1, TX1, 8), rfl, by decide, List.mem_cons_of_mem _ zw163, fun w h => List.mem_cons_of_mem _ (zX1 w h), by decide +kernel, fun h => by cases h⟩, fun _ h => absurd h List.not_mem_nil⟩⟩⟩⟩⟩), zlookF (fin := true) [] (fun _ h => absurd h List.not_mem_nil), zlookup (β := Int32) (L := []) (P := fun ix b => Jvm.Cond.constant yX7_now.cls ix b ∈ (zwd yX7_now cX7_now 2 (zret 1))) (fun _ h => absurd h List.not_mem_nil), zlookup (β := Int64) (L := []) (P := fun ix b => Jvm.Cond.constantLong yX7_now.cls ix b ∈ (zwd yX7_now cX7_now 2 (zret 1))) (fun _ h => absurd h List.not_mem_nil), zlookup (β := Nat) (L := []) (P := fun ix b => zmok yX7_now.cls (zwd yX7_now cX7_now 2 (zret 1)) ix b) (fun _ h => absurd h List.not_mem_nil)⟩
set_option maxRecDepth 20000 in
theorem sX7_now (l : Launch) : ∀ (as : List Value) (ws : zW) (K : zP), zFr 2 (zGoes mX7_now 1 2) as ws K → zMet l yX7_now (zwd yX7_now cX7_now 2 (zret 1)) { frames := 4, cells := 0, slots := 0, locals := 800 } 1 as ws K := zFr_met (by decide +kernel) (by decide) (by decide) gX7_now (fun p e s m args below meth c D cy ad A n0 Q S hKK hA => ⟨fun ix n G h => zlookup (β := Nat × zG) (L := [(153, 1, zFV 1 1 (zGoes mX1_bulge 1 3)), (170, 1, zFV 1 1 (zGoes mX1_bulgePlace 1 3)), (173, 1, zFV 1 1 (zGoes mX1_feet 1 3)), (176, 1, zFV 1 1 (zGoes mX1_placesInLine 1 3))]) (P := fun ix b => zCO p l e { frames := 4, cells := 0, slots := 0, locals := 800 } s m args below meth c cX7_now 2 D cy ad A n0 0 0 Q (.invokevirtual ix) b.1 b.2) (List.forall_mem_cons.mpr ⟨zco_V (ci := 1) S hKK hA ⟨Nat.zero_le _, Nat.zero_le _⟩ (cwV 0 S.2.2.2.2 (zgoodV zw458 zw459 zw460 zw52 zw461) rfl rfl rfl (by decide +kernel) (by decide +kernel)) rfl rfl (sX1_bulge l), List.forall_mem_cons.mpr ⟨zco_V (ci := 1) S hKK hA ⟨Nat.zero_le _, Nat.zero_le _⟩ (cwV 0 S.2.2.2.2 (zgoodV zw508 zw509 zw510 zw52 zw511) rfl rfl rfl (by decide +kernel) (by decide +kernel)) rfl rfl (sX1_bulgePlace l), List.forall_mem_cons.mpr ⟨zco_V (ci := 1) S hKK hA ⟨Nat.zero_le _, Nat.zero_le _⟩ (cwV 0 S.2.2.2.2 (zgoodV zw513 zw514 zw515 zw52 zw516) rfl rfl rfl (by decide +kernel) (by decide +kernel)) rfl rfl (sX1_feet l), List.forall_mem_cons.mpr ⟨zco_V (ci := 1) S hKK hA ⟨Nat.zero_le _, Nat.zero_le _⟩ (cwV 0 S.2.2.2.2 (zgoodV zw517 zw518 zw519 zw52 zw520) rfl rfl rfl (by decide +kernel) (by decide +kernel)) rfl rfl (sX1_placesInLine l), fun _ h => absurd h List.not_mem_nil⟩⟩⟩⟩) ix (n, G) h, fun ix n G h => zlookup (β := Nat × zG) (L := []) (P := fun ix b => zCO p l e { frames := 4, cells := 0, slots := 0, locals := 800 } s m args below meth c cX7_now 2 D cy ad A n0 0 0 Q (.invokestatic ix) b.1 b.2) (fun _ h => absurd h List.not_mem_nil) ix (n, G) h⟩) (by decide)
def iX7_pacesTillDressed : List (Option zI) := [some (.aload_n 0, 0, 1, []), some (.getfield 36, 0, 4, []), none, none, some (.aload_n 0, 0, 5, []), some (.getfield 32, 0, 8, []), none, none, some (.invokevirtual 202, 0, 11, []), none, none, some (.aload_n 0, 0, 12, []), some (.getfield 36, 0, 15, []), none, none, some (.iload_n 1, 0, 16, []), some (.putfield 161, 0, 19, []), none, none, some (.aload_n 0, 0, 20, []), some (.getfield 36, 0, 23, []), none, none, some (.iload_n 2, 0, 24, []), some (.putfield 162, 0, 27, []), none, none, some (.iconst 0, 0, 28, []), some (.istore 4, 0, 30, []), none, some (.iload 4, 0, 32, []), none, some (.iload_n 3, 0, 33, []), some (.if_icmp .gt 44, 0, 36, [77]), none, none, some (.aload_n 0, 0, 37, []), some (.getfield 36, 0, 40, []), none, none, some (.invokevirtual 176, 0, 43, []), none, none, some (.aload_n 0, 0, 44, []), some (.getfield 23, 0, 47, []), none, none, some (.getfield 114, 0, 50, []), none, none, some (.if_icmp .ne 6, 0, 53, [56]), none, none, some (.iload 4, 0, 55, []), none, some (.ireturn, 0, 56, []), some (.aload_n 0, 0, 57, []), some (.getfield 36, 0, 60, []), none, none, some (.iconst (-1), (-1), 61, []), some (.invokevirtual 150, 0, 64, []), none, none, some (.ifCond .ne 7, 0, 67, [71]), none, none, some (.sipush (-1009), (-1009), 70, []), none, none, some (.ireturn, 0, 71, []), some (.iinc 4 1, 1, 74, []), none, none, some (.goto (-44), 0, 77, [30]), none, none, some (.sipush (-1009), (-1009), 80, []), none, none, some (.ireturn, 0, 81, [])]
def mX7_pacesTillDressed : zM := (iX7_pacesTillDressed, [(23, 7, 3, (.object "RankWheels$Men")), (32, 7, 4, (.object "RankWheels$Line")), (36, 7, 5, (.object "RankWheels$Line")), (114, 2, 0, .int)], [(161, 1, 5, .int), (162, 1, 6, .int)], [], [], [], [(150, 2, zFV 1 2 (zGoes mX1_wheelOnce 3 3)), (176, 1, zFV 1 1 (zGoes mX1_placesInLine 1 3)), (202, 2, zFV 1 2 (zGoes mX1_copyFrom 0 2))], [])
theorem kX7_pacesTillDressed : zchkL cX7_pacesTillDressed 0 iX7_pacesTillDressed = true := by decide +kernel
set_option maxRecDepth 20000 in
theorem gX7_pacesTillDressed : zGood mX7_pacesTillDressed cX7_pacesTillDressed yX7_pacesTillDressed.cls (zwd yX7_pacesTillDressed cX7_pacesTillDressed 5 (zret 1)) := ⟨fun pc x h => by
    have h1 := zchkL_at kX7_pacesTillDressed pc x h
    rw [Nat.zero_add] at h1
    exact h1, zlookF (fin := false) [(23, 7, 3, (.object "RankWheels$Men")), (32, 7, 4, (.object "RankWheels$Line")), (36, 7, 5, (.object "RankWheels$Line")), (114, 2, 0, .int)] (List.forall_mem_cons.mpr ⟨⟨(RX7, TX7, 11), rfl, by decide, List.mem_cons_of_mem _ zw282, fun w h => List.mem_cons_of_mem _ (zX7 w h), by decide +kernel, fun h => by cases h⟩, List.forall_mem_cons.mpr ⟨⟨(RX7, TX7, 11), rfl, by decide, List.mem_cons_of_mem _ zw283, fun w h => List.mem_cons_of_mem _ (zX7 w h), by decide +kernel, fun h => by cases h⟩, List.forall_mem_cons.mpr ⟨⟨(RX7, TX7, 11), rfl, by decide, List.mem_cons_of_mem _ zw284, fun w h => List.mem_cons_of_mem _ (zX7 w h), by decide +kernel, fun h => by cases h⟩, List.forall_mem_cons.mpr ⟨⟨(RX2, TX2, 3), rfl, by decide, List.mem_cons_of_mem _ zw84, fun w h => List.mem_cons_of_mem _ (zX2 w h), by decide +kernel, fun h => by cases h⟩, fun _ h => absurd h List.not_mem_nil⟩⟩⟩⟩), zlookF (fin := true) [(161, 1, 5, .int), (162, 1, 6, .int)] (List.forall_mem_cons.mpr ⟨⟨(RX1, TX1, 8), rfl, by decide, List.mem_cons_of_mem _ zw165, fun w h => List.mem_cons_of_mem _ (zX1 w h), by decide +kernel, fun _ => rfl⟩, List.forall_mem_cons.mpr ⟨⟨(RX1, TX1, 8), rfl, by decide, List.mem_cons_of_mem _ zw167, fun w h => List.mem_cons_of_mem _ (zX1 w h), by decide +kernel, fun _ => rfl⟩, fun _ h => absurd h List.not_mem_nil⟩⟩), zlookup (β := Int32) (L := []) (P := fun ix b => Jvm.Cond.constant yX7_pacesTillDressed.cls ix b ∈ (zwd yX7_pacesTillDressed cX7_pacesTillDressed 5 (zret 1))) (fun _ h => absurd h List.not_mem_nil), zlookup (β := Int64) (L := []) (P := fun ix b => Jvm.Cond.constantLong yX7_pacesTillDressed.cls ix b ∈ (zwd yX7_pacesTillDressed cX7_pacesTillDressed 5 (zret 1))) (fun _ h => absurd h List.not_mem_nil), zlookup (β := Nat) (L := []) (P := fun ix b => zmok yX7_pacesTillDressed.cls (zwd yX7_pacesTillDressed cX7_pacesTillDressed 5 (zret 1)) ix b) (fun _ h => absurd h List.not_mem_nil)⟩
set_option maxRecDepth 20000 in
theorem sX7_pacesTillDressed (l : Launch) : ∀ (as : List Value) (ws : zW) (K : zP), zFr 4 (zGoes mX7_pacesTillDressed 1 5) as ws K → zMet l yX7_pacesTillDressed (zwd yX7_pacesTillDressed cX7_pacesTillDressed 5 (zret 1)) { frames := 5, cells := 0, slots := 0, locals := 1000 } 1 as ws K := zFr_met (by decide +kernel) (by decide) (by decide) gX7_pacesTillDressed (fun p e s m args below meth c D cy ad A n0 Q S hKK hA => ⟨fun ix n G h => zlookup (β := Nat × zG) (L := [(150, 2, zFV 1 2 (zGoes mX1_wheelOnce 3 3)), (176, 1, zFV 1 1 (zGoes mX1_placesInLine 1 3)), (202, 2, zFV 1 2 (zGoes mX1_copyFrom 0 2))]) (P := fun ix b => zCO p l e { frames := 5, cells := 0, slots := 0, locals := 1000 } s m args below meth c cX7_pacesTillDressed 5 D cy ad A n0 0 0 Q (.invokevirtual ix) b.1 b.2) (List.forall_mem_cons.mpr ⟨zco_V (ci := 1) S hKK hA ⟨Nat.zero_le _, Nat.zero_le _⟩ (cwV 1 S.2.2.2.2 (zgoodV zw433 zw434 zw435 zw52 zw436) rfl rfl rfl (by decide +kernel) (by decide +kernel)) rfl rfl (sX1_wheelOnce l), List.forall_mem_cons.mpr ⟨zco_V (ci := 1) S hKK hA ⟨Nat.zero_le _, Nat.zero_le _⟩ (cwV 0 S.2.2.2.2 (zgoodV zw517 zw518 zw519 zw52 zw520) rfl rfl rfl (by decide +kernel) (by decide +kernel)) rfl rfl (sX1_placesInLine l), List.forall_mem_cons.mpr ⟨zco_V (ci := 1) S hKK hA ⟨Nat.zero_le _, Nat.zero_le _⟩ (cwV 1 S.2.2.2.2 (zgoodV zw529 zw429 zw430 zw52 zw431) rfl rfl rfl (by decide +kernel) (by decide +kernel)) rfl rfl (sX1_copyFrom l), fun _ h => absurd h List.not_mem_nil⟩⟩⟩) ix (n, G) h, fun ix n G h => zlookup (β := Nat × zG) (L := []) (P := fun ix b => zCO p l e { frames := 5, cells := 0, slots := 0, locals := 1000 } s m args below meth c cX7_pacesTillDressed 5 D cy ad A n0 0 0 Q (.invokestatic ix) b.1 b.2) (fun _ h => absurd h List.not_mem_nil) ix (n, G) h⟩) (by decide)
def iX7_dressed : List (Option zI) := [some (.aload_n 0, 0, 1, []), some (.aload_n 0, 0, 2, []), some (.getfield 32, 0, 5, []), none, none, some (.getfield 161, 0, 8, []), none, none, some (.aload_n 0, 0, 9, []), some (.getfield 32, 0, 12, []), none, none, some (.getfield 162, 0, 15, []), none, none, some (.sipush 300, 300, 18, []), none, none, some (.invokevirtual 179, 0, 21, []), none, none, some (.ireturn, 0, 22, [])]
def mX7_dressed : zM := (iX7_dressed, [(32, 7, 4, (.object "RankWheels$Line")), (161, 1, 5, .int), (162, 1, 6, .int)], [], [], [], [], [(179, 4, zFV 7 4 (zGoes mX7_pacesTillDressed 1 5))], [])
theorem kX7_dressed : zchkL cX7_dressed 0 iX7_dressed = true := by decide +kernel
set_option maxRecDepth 20000 in
theorem gX7_dressed : zGood mX7_dressed cX7_dressed yX7_dressed.cls (zwd yX7_dressed cX7_dressed 1 (zret 1)) := ⟨fun pc x h => by
    have h1 := zchkL_at kX7_dressed pc x h
    rw [Nat.zero_add] at h1
    exact h1, zlookF (fin := false) [(32, 7, 4, (.object "RankWheels$Line")), (161, 1, 5, .int), (162, 1, 6, .int)] (List.forall_mem_cons.mpr ⟨⟨(RX7, TX7, 11), rfl, by decide, List.mem_cons_of_mem _ zw283, fun w h => List.mem_cons_of_mem _ (zX7 w h), by decide +kernel, fun h => by cases h⟩, List.forall_mem_cons.mpr ⟨⟨(RX1, TX1, 8), rfl, by decide, List.mem_cons_of_mem _ zw165, fun w h => List.mem_cons_of_mem _ (zX1 w h), by decide +kernel, fun h => by cases h⟩, List.forall_mem_cons.mpr ⟨⟨(RX1, TX1, 8), rfl, by decide, List.mem_cons_of_mem _ zw167, fun w h => List.mem_cons_of_mem _ (zX1 w h), by decide +kernel, fun h => by cases h⟩, fun _ h => absurd h List.not_mem_nil⟩⟩⟩), zlookF (fin := true) [] (fun _ h => absurd h List.not_mem_nil), zlookup (β := Int32) (L := []) (P := fun ix b => Jvm.Cond.constant yX7_dressed.cls ix b ∈ (zwd yX7_dressed cX7_dressed 1 (zret 1))) (fun _ h => absurd h List.not_mem_nil), zlookup (β := Int64) (L := []) (P := fun ix b => Jvm.Cond.constantLong yX7_dressed.cls ix b ∈ (zwd yX7_dressed cX7_dressed 1 (zret 1))) (fun _ h => absurd h List.not_mem_nil), zlookup (β := Nat) (L := []) (P := fun ix b => zmok yX7_dressed.cls (zwd yX7_dressed cX7_dressed 1 (zret 1)) ix b) (fun _ h => absurd h List.not_mem_nil)⟩
set_option maxRecDepth 20000 in
theorem sX7_dressed (l : Launch) : ∀ (as : List Value) (ws : zW) (K : zP), zFr 1 (zGoes mX7_dressed 1 1) as ws K → zMet l yX7_dressed (zwd yX7_dressed cX7_dressed 1 (zret 1)) { frames := 6, cells := 0, slots := 0, locals := 1200 } 1 as ws K := zFr_met (by decide +kernel) (by decide) (by decide) gX7_dressed (fun p e s m args below meth c D cy ad A n0 Q S hKK hA => ⟨fun ix n G h => zlookup (β := Nat × zG) (L := [(179, 4, zFV 7 4 (zGoes mX7_pacesTillDressed 1 5))]) (P := fun ix b => zCO p l e { frames := 6, cells := 0, slots := 0, locals := 1200 } s m args below meth c cX7_dressed 1 D cy ad A n0 0 0 Q (.invokevirtual ix) b.1 b.2) (List.forall_mem_cons.mpr ⟨zco_V (ci := 7) S hKK hA ⟨Nat.zero_le _, Nat.zero_le _⟩ (cwV 3 S.2.2.2.2 (zgoodV zw525 zw527 zw15 zw49 zw528) rfl rfl rfl (by decide +kernel) (by decide +kernel)) rfl rfl (sX7_pacesTillDressed l), fun _ h => absurd h List.not_mem_nil⟩) ix (n, G) h, fun ix n G h => zlookup (β := Nat × zG) (L := []) (P := fun ix b => zCO p l e { frames := 6, cells := 0, slots := 0, locals := 1200 } s m args below meth c cX7_dressed 1 D cy ad A n0 0 0 Q (.invokestatic ix) b.1 b.2) (fun _ h => absurd h List.not_mem_nil) ix (n, G) h⟩) (by decide)
def iX7_lookAhead : List (Option zI) := [some (.aload_n 0, 0, 1, []), some (.getfield 36, 0, 4, []), none, none, some (.aload_n 0, 0, 5, []), some (.getfield 32, 0, 8, []), none, none, some (.invokevirtual 202, 0, 11, []), none, none, some (.iconst 0, 0, 12, []), some (.istore_n 3, 0, 13, []), some (.iload_n 3, 0, 14, []), some (.iload_n 1, 0, 15, []), some (.if_icmp .ge 24, 0, 18, [39]), none, none, some (.iload_n 3, 0, 19, []), some (.bipush 60, 60, 21, []), none, some (.if_icmp .ge 18, 0, 24, [39]), none, none, some (.aload_n 0, 0, 25, []), some (.getfield 36, 0, 28, []), none, none, some (.iload_n 2, 0, 29, []), some (.invokevirtual 150, 0, 32, []), none, none, some (.pop, 0, 33, []), some (.iinc 3 1, 1, 36, []), none, none, some (.goto (-23), 0, 39, [13]), none, none, some (.return_, 0, 40, [])]
def mX7_lookAhead : zM := (iX7_lookAhead, [(32, 7, 4, (.object "RankWheels$Line")), (36, 7, 5, (.object "RankWheels$Line"))], [], [], [], [], [(150, 2, zFV 1 2 (zGoes mX1_wheelOnce 3 3)), (202, 2, zFV 1 2 (zGoes mX1_copyFrom 0 2))], [])
theorem kX7_lookAhead : zchkL cX7_lookAhead 0 iX7_lookAhead = true := by decide +kernel
set_option maxRecDepth 20000 in
theorem gX7_lookAhead : zGood mX7_lookAhead cX7_lookAhead yX7_lookAhead.cls (zwd yX7_lookAhead cX7_lookAhead 4 (zret 0)) := ⟨fun pc x h => by
    have h1 := zchkL_at kX7_lookAhead pc x h
    rw [Nat.zero_add] at h1
    exact h1, zlookF (fin := false) [(32, 7, 4, (.object "RankWheels$Line")), (36, 7, 5, (.object "RankWheels$Line"))] (List.forall_mem_cons.mpr ⟨⟨(RX7, TX7, 11), rfl, by decide, List.mem_cons_of_mem _ zw283, fun w h => List.mem_cons_of_mem _ (zX7 w h), by decide +kernel, fun h => by cases h⟩, List.forall_mem_cons.mpr ⟨⟨(RX7, TX7, 11), rfl, by decide, List.mem_cons_of_mem _ zw284, fun w h => List.mem_cons_of_mem _ (zX7 w h), by decide +kernel, fun h => by cases h⟩, fun _ h => absurd h List.not_mem_nil⟩⟩), zlookF (fin := true) [] (fun _ h => absurd h List.not_mem_nil), zlookup (β := Int32) (L := []) (P := fun ix b => Jvm.Cond.constant yX7_lookAhead.cls ix b ∈ (zwd yX7_lookAhead cX7_lookAhead 4 (zret 0))) (fun _ h => absurd h List.not_mem_nil), zlookup (β := Int64) (L := []) (P := fun ix b => Jvm.Cond.constantLong yX7_lookAhead.cls ix b ∈ (zwd yX7_lookAhead cX7_lookAhead 4 (zret 0))) (fun _ h => absurd h List.not_mem_nil), zlookup (β := Nat) (L := []) (P := fun ix b => zmok yX7_lookAhead.cls (zwd yX7_lookAhead cX7_lookAhead 4 (zret 0)) ix b) (fun _ h => absurd h List.not_mem_nil)⟩
set_option maxRecDepth 20000 in
theorem sX7_lookAhead (l : Launch) : ∀ (as : List Value) (ws : zW) (K : zP), zFr 3 (zGoes mX7_lookAhead 0 4) as ws K → zMet l yX7_lookAhead (zwd yX7_lookAhead cX7_lookAhead 4 (zret 0)) { frames := 5, cells := 0, slots := 0, locals := 1000 } 0 as ws K := zFr_met (by decide +kernel) (by decide) (by decide) gX7_lookAhead (fun p e s m args below meth c D cy ad A n0 Q S hKK hA => ⟨fun ix n G h => zlookup (β := Nat × zG) (L := [(150, 2, zFV 1 2 (zGoes mX1_wheelOnce 3 3)), (202, 2, zFV 1 2 (zGoes mX1_copyFrom 0 2))]) (P := fun ix b => zCO p l e { frames := 5, cells := 0, slots := 0, locals := 1000 } s m args below meth c cX7_lookAhead 4 D cy ad A n0 0 0 Q (.invokevirtual ix) b.1 b.2) (List.forall_mem_cons.mpr ⟨zco_V (ci := 1) S hKK hA ⟨Nat.zero_le _, Nat.zero_le _⟩ (cwV 1 S.2.2.2.2 (zgoodV zw433 zw434 zw435 zw52 zw436) rfl rfl rfl (by decide +kernel) (by decide +kernel)) rfl rfl (sX1_wheelOnce l), List.forall_mem_cons.mpr ⟨zco_V (ci := 1) S hKK hA ⟨Nat.zero_le _, Nat.zero_le _⟩ (cwV 1 S.2.2.2.2 (zgoodV zw529 zw429 zw430 zw52 zw431) rfl rfl rfl (by decide +kernel) (by decide +kernel)) rfl rfl (sX1_copyFrom l), fun _ h => absurd h List.not_mem_nil⟩⟩) ix (n, G) h, fun ix n G h => zlookup (β := Nat × zG) (L := []) (P := fun ix b => zCO p l e { frames := 5, cells := 0, slots := 0, locals := 1000 } s m args below meth c cX7_lookAhead 4 D cy ad A n0 0 0 Q (.invokestatic ix) b.1 b.2) (fun _ h => absurd h List.not_mem_nil) ix (n, G) h⟩) (by decide)
def iX7_looks : List (Option zI) := [some (.iload_n 2, 0, 1, []), some (.iconst (-1), (-1), 2, []), some (.if_icmp .eq 11, 0, 5, [13]), none, none, some (.aload_n 0, 0, 6, []), some (.iload_n 2, 0, 7, []), some (.invokevirtual 127, 0, 10, []), none, none, some (.ifCond .eq 7, 0, 13, [17]), none, none, some (.iconst 1, 1, 14, []), some (.goto 4, 0, 17, [18]), none, none, some (.iconst 0, 0, 18, []), some (.istore_n 3, 0, 19, []), some (.iload_n 3, 0, 20, []), some (.ifCond .eq 13, 0, 23, [33]), none, none, some (.iload_n 1, 0, 24, []), some (.iconst 0, 0, 25, []), some (.bipush 60, 60, 27, []), none, some (.invokestatic 71, 0, 30, []), none, none, some (.ifCond .ne 7, 0, 33, [37]), none, none, some (.sipush (-1001), (-1001), 36, []), none, none, some (.ireturn, 0, 37, []), some (.aload_n 0, 0, 38, []), some (.iload_n 1, 0, 39, []), some (.iconst (-1), (-1), 40, []), some (.invokevirtual 183, 0, 43, []), none, none, some (.aload_n 0, 0, 44, []), some (.iload_n 2, 0, 45, []), some (.invokevirtual 127, 0, 48, []), none, none, some (.ifCond .eq 15, 0, 51, [63]), none, none, some (.aload_n 0, 0, 52, []), some (.getfield 36, 0, 55, []), none, none, some (.getfield 134, 0, 58, []), none, none, some (.iload_n 2, 0, 59, []), some (.iaload, 0, 60, []), some (.goto 10, 0, 63, [70]), none, none, some (.aload_n 0, 0, 64, []), some (.getfield 36, 0, 67, []), none, none, some (.invokevirtual 153, 0, 70, []), none, none, some (.ireturn, 0, 71, [])]
def mX7_looks : zM := (iX7_looks, [(36, 7, 5, (.object "RankWheels$Line")), (134, 1, 2, (.array .int))], [], [], [], [], [(127, 2, zFV 7 2 (zGoes mX7_isPlace 3 2)), (153, 1, zFV 1 1 (zGoes mX1_bulge 1 3)), (183, 3, zFV 7 3 (zGoes mX7_lookAhead 0 4))], [(71, 3, zFr 3 (zGoes mX7_within 3 3))])
theorem kX7_looks : zchkL cX7_looks 0 iX7_looks = true := by decide +kernel
set_option maxRecDepth 20000 in
theorem gX7_looks : zGood mX7_looks cX7_looks yX7_looks.cls (zwd yX7_looks cX7_looks 4 (zret 1)) := ⟨fun pc x h => by
    have h1 := zchkL_at kX7_looks pc x h
    rw [Nat.zero_add] at h1
    exact h1, zlookF (fin := false) [(36, 7, 5, (.object "RankWheels$Line")), (134, 1, 2, (.array .int))] (List.forall_mem_cons.mpr ⟨⟨(RX7, TX7, 11), rfl, by decide, List.mem_cons_of_mem _ zw284, fun w h => List.mem_cons_of_mem _ (zX7 w h), by decide +kernel, fun h => by cases h⟩, List.forall_mem_cons.mpr ⟨⟨(RX1, TX1, 8), rfl, by decide, List.mem_cons_of_mem _ zw159, fun w h => List.mem_cons_of_mem _ (zX1 w h), by decide +kernel, fun h => by cases h⟩, fun _ h => absurd h List.not_mem_nil⟩⟩), zlookF (fin := true) [] (fun _ h => absurd h List.not_mem_nil), zlookup (β := Int32) (L := []) (P := fun ix b => Jvm.Cond.constant yX7_looks.cls ix b ∈ (zwd yX7_looks cX7_looks 4 (zret 1))) (fun _ h => absurd h List.not_mem_nil), zlookup (β := Int64) (L := []) (P := fun ix b => Jvm.Cond.constantLong yX7_looks.cls ix b ∈ (zwd yX7_looks cX7_looks 4 (zret 1))) (fun _ h => absurd h List.not_mem_nil), zlookup (β := Nat) (L := []) (P := fun ix b => zmok yX7_looks.cls (zwd yX7_looks cX7_looks 4 (zret 1)) ix b) (fun _ h => absurd h List.not_mem_nil)⟩
set_option maxRecDepth 20000 in
theorem sX7_looks (l : Launch) : ∀ (as : List Value) (ws : zW) (K : zP), zFr 3 (zGoes mX7_looks 1 4) as ws K → zMet l yX7_looks (zwd yX7_looks cX7_looks 4 (zret 1)) { frames := 6, cells := 0, slots := 0, locals := 1200 } 1 as ws K := zFr_met (by decide +kernel) (by decide) (by decide) gX7_looks (fun p e s m args below meth c D cy ad A n0 Q S hKK hA => ⟨fun ix n G h => zlookup (β := Nat × zG) (L := [(127, 2, zFV 7 2 (zGoes mX7_isPlace 3 2)), (153, 1, zFV 1 1 (zGoes mX1_bulge 1 3)), (183, 3, zFV 7 3 (zGoes mX7_lookAhead 0 4))]) (P := fun ix b => zCO p l e { frames := 6, cells := 0, slots := 0, locals := 1200 } s m args below meth c cX7_looks 4 D cy ad A n0 0 0 Q (.invokevirtual ix) b.1 b.2) (List.forall_mem_cons.mpr ⟨zco_V (ci := 7) S hKK hA ⟨Nat.zero_le _, Nat.zero_le _⟩ (cwV 1 S.2.2.2.2 (zgoodV zw405 zw407 zw9 zw49 zw408) rfl rfl rfl (by decide +kernel) (by decide +kernel)) rfl rfl (sX7_isPlace l), List.forall_mem_cons.mpr ⟨zco_V (ci := 1) S hKK hA ⟨Nat.zero_le _, Nat.zero_le _⟩ (cwV 0 S.2.2.2.2 (zgoodV zw458 zw459 zw460 zw52 zw461) rfl rfl rfl (by decide +kernel) (by decide +kernel)) rfl rfl (sX1_bulge l), List.forall_mem_cons.mpr ⟨zco_V (ci := 7) S hKK hA ⟨Nat.zero_le _, Nat.zero_le _⟩ (cwV 2 S.2.2.2.2 (zgoodV zw534 zw536 zw16 zw49 zw537) rfl rfl rfl (by decide +kernel) (by decide +kernel)) rfl rfl (sX7_lookAhead l), fun _ h => absurd h List.not_mem_nil⟩⟩⟩) ix (n, G) h, fun ix n G h => zlookup (β := Nat × zG) (L := [(71, 3, zFr 3 (zGoes mX7_within 3 3))]) (P := fun ix b => zCO p l e { frames := 6, cells := 0, slots := 0, locals := 1200 } s m args below meth c cX7_looks 4 D cy ad A n0 0 0 Q (.invokestatic ix) b.1 b.2) (List.forall_mem_cons.mpr ⟨zco_S S hKK hA ⟨Nat.zero_le _, Nat.zero_le _⟩ (va_cwS 3 S.2.2.2.2 (zgoodS zw317 zw318 zw49 zw319) rfl rfl rfl (by decide +kernel) (by decide +kernel)) (sX7_within l), fun _ h => absurd h List.not_mem_nil⟩) ix (n, G) h⟩) (by decide)
def iX7_mix : List (Option zI) := [some (.iload_n 1, 0, 1, []), some (.iconst 0, 0, 2, []), some (.iconst 1, 1, 3, []), some (.invokestatic 71, 0, 6, []), none, none, some (.ifCond .ne 7, 0, 9, [13]), none, none, some (.sipush (-1001), (-1001), 12, []), none, none, some (.ireturn, 0, 13, []), some (.sipush (-1009), (-1009), 16, []), none, none, some (.istore_n 2, 0, 17, []), some (.sipush 301, 301, 20, []), none, none, some (.istore_n 3, 0, 21, []), some (.iconst 0, 0, 22, []), some (.istore 4, 0, 24, []), none, some (.iload 4, 0, 26, []), none, some (.bipush 10, 10, 28, []), none, some (.if_icmp .gt 57, 0, 31, [85]), none, none, some (.iconst 0, 0, 32, []), some (.istore 5, 0, 34, []), none, some (.iload 5, 0, 36, []), none, some (.bipush 10, 10, 38, []), none, some (.if_icmp .gt 41, 0, 41, [79]), none, none, some (.aload_n 0, 0, 42, []), some (.iload 4, 0, 44, []), none, some (.iload 5, 0, 46, []), none, some (.iload_n 3, 0, 47, []), some (.iconst 1, 1, 48, []), some (.isub, 0, 49, []), some (.invokevirtual 179, 0, 52, []), none, none, some (.istore 6, 0, 54, []), none, some (.iload 6, 0, 56, []), none, some (.sipush (-1009), (-1009), 59, []), none, none, some (.if_icmp .eq 14, 0, 62, [73]), none, none, some (.iload 6, 0, 64, []), none, some (.istore_n 3, 0, 65, []), some (.iload 4, 0, 67, []), none, some (.iload 5, 0, 69, []), none, some (.invokestatic 163, 0, 72, []), none, none, some (.istore_n 2, 0, 73, []), some (.iinc 5 1, 1, 76, []), none, none, some (.goto (-42), 0, 79, [34]), none, none, some (.iinc 4 1, 1, 82, []), none, none, some (.goto (-58), 0, 85, [24]), none, none, some (.iload_n 1, 0, 86, []), some (.ifCond .eq 10, 0, 89, [96]), none, none, some (.iload_n 2, 0, 90, []), some (.sipush (-1009), (-1009), 93, []), none, none, some (.if_icmp .ne 7, 0, 96, [100]), none, none, some (.iload_n 2, 0, 97, []), some (.goto 4, 0, 100, [101]), none, none, some (.iload_n 3, 0, 101, []), some (.ireturn, 0, 102, [])]
def mX7_mix : zM := (iX7_mix, [], [], [], [], [], [(179, 4, zFV 7 4 (zGoes mX7_pacesTillDressed 1 5))], [(71, 3, zFr 3 (zGoes mX7_within 3 3)), (163, 2, zFr 2 (zGoes mX7_bothMinds 1 2))])
theorem kX7_mix : zchkL cX7_mix 0 iX7_mix = true := by decide +kernel
set_option maxRecDepth 20000 in
theorem gX7_mix : zGood mX7_mix cX7_mix yX7_mix.cls (zwd yX7_mix cX7_mix 7 (zret 1)) := ⟨fun pc x h => by
    have h1 := zchkL_at kX7_mix pc x h
    rw [Nat.zero_add] at h1
    exact h1, zlookF (fin := false) [] (fun _ h => absurd h List.not_mem_nil), zlookF (fin := true) [] (fun _ h => absurd h List.not_mem_nil), zlookup (β := Int32) (L := []) (P := fun ix b => Jvm.Cond.constant yX7_mix.cls ix b ∈ (zwd yX7_mix cX7_mix 7 (zret 1))) (fun _ h => absurd h List.not_mem_nil), zlookup (β := Int64) (L := []) (P := fun ix b => Jvm.Cond.constantLong yX7_mix.cls ix b ∈ (zwd yX7_mix cX7_mix 7 (zret 1))) (fun _ h => absurd h List.not_mem_nil), zlookup (β := Nat) (L := []) (P := fun ix b => zmok yX7_mix.cls (zwd yX7_mix cX7_mix 7 (zret 1)) ix b) (fun _ h => absurd h List.not_mem_nil)⟩
set_option maxRecDepth 20000 in
theorem sX7_mix (l : Launch) : ∀ (as : List Value) (ws : zW) (K : zP), zFr 2 (zGoes mX7_mix 1 7) as ws K → zMet l yX7_mix (zwd yX7_mix cX7_mix 7 (zret 1)) { frames := 6, cells := 0, slots := 0, locals := 1200 } 1 as ws K := zFr_met (by decide +kernel) (by decide) (by decide) gX7_mix (fun p e s m args below meth c D cy ad A n0 Q S hKK hA => ⟨fun ix n G h => zlookup (β := Nat × zG) (L := [(179, 4, zFV 7 4 (zGoes mX7_pacesTillDressed 1 5))]) (P := fun ix b => zCO p l e { frames := 6, cells := 0, slots := 0, locals := 1200 } s m args below meth c cX7_mix 7 D cy ad A n0 0 0 Q (.invokevirtual ix) b.1 b.2) (List.forall_mem_cons.mpr ⟨zco_V (ci := 7) S hKK hA ⟨Nat.zero_le _, Nat.zero_le _⟩ (cwV 3 S.2.2.2.2 (zgoodV zw525 zw527 zw15 zw49 zw528) rfl rfl rfl (by decide +kernel) (by decide +kernel)) rfl rfl (sX7_pacesTillDressed l), fun _ h => absurd h List.not_mem_nil⟩) ix (n, G) h, fun ix n G h => zlookup (β := Nat × zG) (L := [(71, 3, zFr 3 (zGoes mX7_within 3 3)), (163, 2, zFr 2 (zGoes mX7_bothMinds 1 2))]) (P := fun ix b => zCO p l e { frames := 6, cells := 0, slots := 0, locals := 1200 } s m args below meth c cX7_mix 7 D cy ad A n0 0 0 Q (.invokestatic ix) b.1 b.2) (List.forall_mem_cons.mpr ⟨zco_S S hKK hA ⟨Nat.zero_le _, Nat.zero_le _⟩ (va_cwS 3 S.2.2.2.2 (zgoodS zw317 zw318 zw49 zw319) rfl rfl rfl (by decide +kernel) (by decide +kernel)) (sX7_within l), List.forall_mem_cons.mpr ⟨zco_S S hKK hA ⟨Nat.zero_le _, Nat.zero_le _⟩ (va_cwS 2 S.2.2.2.2 (zgoodS zw489 zw490 zw49 zw491) rfl rfl rfl (by decide +kernel) (by decide +kernel)) (sX7_bothMinds l), fun _ h => absurd h List.not_mem_nil⟩⟩) ix (n, G) h⟩) (by decide)
def iX7_allCanStride : List (Option zI) := [some (.iconst 0, 0, 1, []), some (.istore_n 2, 0, 2, []), some (.iload_n 2, 0, 3, []), some (.aload_n 0, 0, 4, []), some (.getfield 23, 0, 7, []), none, none, some (.getfield 114, 0, 10, []), none, none, some (.if_icmp .ge 34, 0, 13, [44]), none, none, some (.iload_n 1, 0, 14, []), some (.iload_n 2, 0, 15, []), some (.aload_n 0, 0, 16, []), some (.getfield 23, 0, 19, []), none, none, some (.getfield 114, 0, 22, []), none, none, some (.invokestatic 260, 0, 25, []), none, none, some (.aload_n 0, 0, 26, []), some (.getfield 32, 0, 29, []), none, none, some (.iload_n 2, 0, 30, []), some (.invokevirtual 263, 0, 33, []), none, none, some (.if_icmp .le 5, 0, 36, [38]), none, none, some (.iconst 0, 0, 37, []), some (.ireturn, 0, 38, []), some (.iinc 2 1, 1, 41, []), none, none, some (.goto (-39), 0, 44, [2]), none, none, some (.iconst 1, 1, 45, []), some (.ireturn, 0, 46, [])]
def mX7_allCanStride : zM := (iX7_allCanStride, [(23, 7, 3, (.object "RankWheels$Men")), (32, 7, 4, (.object "RankWheels$Line")), (114, 2, 0, .int)], [], [], [], [], [(263, 2, zFV 1 2 (zGoes mX1_legAt 1 2))], [(260, 3, zFr 3 (zGoes mX7_wanted 1 3))])
theorem kX7_allCanStride : zchkL cX7_allCanStride 0 iX7_allCanStride = true := by decide +kernel
set_option maxRecDepth 20000 in
theorem gX7_allCanStride : zGood mX7_allCanStride cX7_allCanStride yX7_allCanStride.cls (zwd yX7_allCanStride cX7_allCanStride 3 (zret 3)) := ⟨fun pc x h => by
    have h1 := zchkL_at kX7_allCanStride pc x h
    rw [Nat.zero_add] at h1
    exact h1, zlookF (fin := false) [(23, 7, 3, (.object "RankWheels$Men")), (32, 7, 4, (.object "RankWheels$Line")), (114, 2, 0, .int)] (List.forall_mem_cons.mpr ⟨⟨(RX7, TX7, 11), rfl, by decide, List.mem_cons_of_mem _ zw282, fun w h => List.mem_cons_of_mem _ (zX7 w h), by decide +kernel, fun h => by cases h⟩, List.forall_mem_cons.mpr ⟨⟨(RX7, TX7, 11), rfl, by decide, List.mem_cons_of_mem _ zw283, fun w h => List.mem_cons_of_mem _ (zX7 w h), by decide +kernel, fun h => by cases h⟩, List.forall_mem_cons.mpr ⟨⟨(RX2, TX2, 3), rfl, by decide, List.mem_cons_of_mem _ zw84, fun w h => List.mem_cons_of_mem _ (zX2 w h), by decide +kernel, fun h => by cases h⟩, fun _ h => absurd h List.not_mem_nil⟩⟩⟩), zlookF (fin := true) [] (fun _ h => absurd h List.not_mem_nil), zlookup (β := Int32) (L := []) (P := fun ix b => Jvm.Cond.constant yX7_allCanStride.cls ix b ∈ (zwd yX7_allCanStride cX7_allCanStride 3 (zret 3))) (fun _ h => absurd h List.not_mem_nil), zlookup (β := Int64) (L := []) (P := fun ix b => Jvm.Cond.constantLong yX7_allCanStride.cls ix b ∈ (zwd yX7_allCanStride cX7_allCanStride 3 (zret 3))) (fun _ h => absurd h List.not_mem_nil), zlookup (β := Nat) (L := []) (P := fun ix b => zmok yX7_allCanStride.cls (zwd yX7_allCanStride cX7_allCanStride 3 (zret 3)) ix b) (fun _ h => absurd h List.not_mem_nil)⟩
set_option maxRecDepth 20000 in
theorem sX7_allCanStride (l : Launch) : ∀ (as : List Value) (ws : zW) (K : zP), zFr 2 (zGoes mX7_allCanStride 3 3) as ws K → zMet l yX7_allCanStride (zwd yX7_allCanStride cX7_allCanStride 3 (zret 3)) { frames := 2, cells := 0, slots := 0, locals := 400 } 3 as ws K := zFr_met (by decide +kernel) (by decide) (by decide) gX7_allCanStride (fun p e s m args below meth c D cy ad A n0 Q S hKK hA => ⟨fun ix n G h => zlookup (β := Nat × zG) (L := [(263, 2, zFV 1 2 (zGoes mX1_legAt 1 2))]) (P := fun ix b => zCO p l e { frames := 2, cells := 0, slots := 0, locals := 400 } s m args below meth c cX7_allCanStride 3 D cy ad A n0 0 0 Q (.invokevirtual ix) b.1 b.2) (List.forall_mem_cons.mpr ⟨zco_V (ci := 1) S hKK hA ⟨Nat.zero_le _, Nat.zero_le _⟩ (cwV 1 S.2.2.2.2 (zgoodV zw551 zw447 zw448 zw52 zw449) rfl rfl rfl (by decide +kernel) (by decide +kernel)) rfl rfl (sX1_legAt l), fun _ h => absurd h List.not_mem_nil⟩) ix (n, G) h, fun ix n G h => zlookup (β := Nat × zG) (L := [(260, 3, zFr 3 (zGoes mX7_wanted 1 3))]) (P := fun ix b => zCO p l e { frames := 2, cells := 0, slots := 0, locals := 400 } s m args below meth c cX7_allCanStride 3 D cy ad A n0 0 0 Q (.invokestatic ix) b.1 b.2) (List.forall_mem_cons.mpr ⟨zco_S S hKK hA ⟨Nat.zero_le _, Nat.zero_le _⟩ (va_cwS 3 S.2.2.2.2 (zgoodS zw550 zw414 zw49 zw415) rfl rfl rfl (by decide +kernel) (by decide +kernel)) (sX7_wanted l), fun _ h => absurd h List.not_mem_nil⟩) ix (n, G) h⟩) (by decide)
def iX7_fastest : List (Option zI) := [some (.bipush 60, 60, 2, []), none, some (.istore_n 1, 0, 3, []), some (.iload_n 1, 0, 4, []), some (.iconst 1, 1, 5, []), some (.if_icmp .le 19, 0, 8, [24]), none, none, some (.aload_n 0, 0, 9, []), some (.iload_n 1, 0, 10, []), some (.invokevirtual 186, 0, 13, []), none, none, some (.ifCond .eq 5, 0, 16, [18]), none, none, some (.iload_n 1, 0, 17, []), some (.ireturn, 0, 18, []), some (.iinc 1 (-1), (-1), 21, []), none, none, some (.goto (-18), 0, 24, [3]), none, none, some (.iconst 1, 1, 25, []), some (.ireturn, 0, 26, [])]
def mX7_fastest : zM := (iX7_fastest, [], [], [], [], [], [(186, 2, zFV 7 2 (zGoes mX7_allCanStride 3 3))], [])
theorem kX7_fastest : zchkL cX7_fastest 0 iX7_fastest = true := by decide +kernel
set_option maxRecDepth 20000 in
theorem gX7_fastest : zGood mX7_fastest cX7_fastest yX7_fastest.cls (zwd yX7_fastest cX7_fastest 2 (zret 1)) := ⟨fun pc x h => by
    have h1 := zchkL_at kX7_fastest pc x h
    rw [Nat.zero_add] at h1
    exact h1, zlookF (fin := false) [] (fun _ h => absurd h List.not_mem_nil), zlookF (fin := true) [] (fun _ h => absurd h List.not_mem_nil), zlookup (β := Int32) (L := []) (P := fun ix b => Jvm.Cond.constant yX7_fastest.cls ix b ∈ (zwd yX7_fastest cX7_fastest 2 (zret 1))) (fun _ h => absurd h List.not_mem_nil), zlookup (β := Int64) (L := []) (P := fun ix b => Jvm.Cond.constantLong yX7_fastest.cls ix b ∈ (zwd yX7_fastest cX7_fastest 2 (zret 1))) (fun _ h => absurd h List.not_mem_nil), zlookup (β := Nat) (L := []) (P := fun ix b => zmok yX7_fastest.cls (zwd yX7_fastest cX7_fastest 2 (zret 1)) ix b) (fun _ h => absurd h List.not_mem_nil)⟩
set_option maxRecDepth 20000 in
theorem sX7_fastest (l : Launch) : ∀ (as : List Value) (ws : zW) (K : zP), zFr 1 (zGoes mX7_fastest 1 2) as ws K → zMet l yX7_fastest (zwd yX7_fastest cX7_fastest 2 (zret 1)) { frames := 3, cells := 0, slots := 0, locals := 600 } 1 as ws K := zFr_met (by decide +kernel) (by decide) (by decide) gX7_fastest (fun p e s m args below meth c D cy ad A n0 Q S hKK hA => ⟨fun ix n G h => zlookup (β := Nat × zG) (L := [(186, 2, zFV 7 2 (zGoes mX7_allCanStride 3 3))]) (P := fun ix b => zCO p l e { frames := 3, cells := 0, slots := 0, locals := 600 } s m args below meth c cX7_fastest 2 D cy ad A n0 0 0 Q (.invokevirtual ix) b.1 b.2) (List.forall_mem_cons.mpr ⟨zco_V (ci := 7) S hKK hA ⟨Nat.zero_le _, Nat.zero_le _⟩ (cwV 1 S.2.2.2.2 (zgoodV zw546 zw548 zw17 zw49 zw549) rfl rfl rfl (by decide +kernel) (by decide +kernel)) rfl rfl (sX7_allCanStride l), fun _ h => absurd h List.not_mem_nil⟩) ix (n, G) h, fun ix n G h => zlookup (β := Nat × zG) (L := []) (P := fun ix b => zCO p l e { frames := 3, cells := 0, slots := 0, locals := 600 } s m args below meth c cX7_fastest 2 D cy ad A n0 0 0 Q (.invokestatic ix) b.1 b.2) (fun _ h => absurd h List.not_mem_nil) ix (n, G) h⟩) (by decide)
def iX7_order : List (Option zI) := [some (.iload_n 1, 0, 1, []), some (.iconst (-1), (-1), 2, []), some (.if_icmp .eq 21, 0, 5, [23]), none, none, some (.iload_n 1, 0, 6, []), some (.bipush (-2), (-2), 8, []), none, some (.if_icmp .eq 15, 0, 11, [23]), none, none, some (.aload_n 0, 0, 12, []), some (.iload_n 1, 0, 13, []), some (.invokevirtual 127, 0, 16, []), none, none, some (.ifCond .ne 7, 0, 19, [23]), none, none, some (.sipush (-1001), (-1001), 22, []), none, none, some (.ireturn, 0, 23, []), some (.aload_n 0, 0, 24, []), some (.getfield 62, 0, 27, []), none, none, some (.aload_n 0, 0, 28, []), some (.getfield 32, 0, 31, []), none, none, some (.getfield 166, 0, 34, []), none, none, some (.invokevirtual 189, 0, 37, []), none, none, some (.iload_n 1, 0, 38, []), some (.iconst (-1), (-1), 39, []), some (.if_icmp .ne 11, 0, 42, [50]), none, none, some (.aload_n 0, 0, 43, []), some (.getfield 62, 0, 46, []), none, none, some (.getfield 193, 0, 49, []), none, none, some (.ireturn, 0, 50, []), some (.iload_n 1, 0, 51, []), some (.bipush (-2), (-2), 53, []), none, some (.if_icmp .ne 11, 0, 56, [64]), none, none, some (.aload_n 0, 0, 57, []), some (.getfield 62, 0, 60, []), none, none, some (.getfield 196, 0, 63, []), none, none, some (.ireturn, 0, 64, []), some (.aload_n 0, 0, 65, []), some (.iload_n 1, 0, 66, []), some (.invokevirtual 127, 0, 69, []), none, none, some (.ifCond .eq 15, 0, 72, [84]), none, none, some (.aload_n 0, 0, 73, []), some (.getfield 62, 0, 76, []), none, none, some (.getfield 199, 0, 79, []), none, none, some (.iload_n 1, 0, 80, []), some (.iaload, 0, 81, []), some (.goto 6, 0, 84, [87]), none, none, some (.sipush (-1001), (-1001), 87, []), none, none, some (.ireturn, 0, 88, [])]
def mX7_order : zM := (iX7_order, [(32, 7, 4, (.object "RankWheels$Line")), (62, 7, 9, (.object "RankWheels$Ordering")), (166, 1, 4, .int), (193, 3, 4, .int), (196, 3, 5, .int), (199, 3, 3, (.array .int))], [], [], [], [], [(127, 2, zFV 7 2 (zGoes mX7_isPlace 3 2)), (189, 2, zFV 3 2 (zGoes mX3_arrange 0 2))], [])
theorem kX7_order : zchkL cX7_order 0 iX7_order = true := by decide +kernel
set_option maxRecDepth 20000 in
theorem gX7_order : zGood mX7_order cX7_order yX7_order.cls (zwd yX7_order cX7_order 2 (zret 1)) := ⟨fun pc x h => by
    have h1 := zchkL_at kX7_order pc x h
    rw [Nat.zero_add] at h1
    exact h1, zlookF (fin := false) [(32, 7, 4, (.object "RankWheels$Line")), (62, 7, 9, (.object "RankWheels$Ordering")), (166, 1, 4, .int), (193, 3, 4, .int), (196, 3, 5, .int), (199, 3, 3, (.array .int))] (List.forall_mem_cons.mpr ⟨⟨(RX7, TX7, 11), rfl, by decide, List.mem_cons_of_mem _ zw283, fun w h => List.mem_cons_of_mem _ (zX7 w h), by decide +kernel, fun h => by cases h⟩, List.forall_mem_cons.mpr ⟨⟨(RX7, TX7, 11), rfl, by decide, List.mem_cons_of_mem _ zw288, fun w h => List.mem_cons_of_mem _ (zX7 w h), by decide +kernel, fun h => by cases h⟩, List.forall_mem_cons.mpr ⟨⟨(RX1, TX1, 8), rfl, by decide, List.mem_cons_of_mem _ zw163, fun w h => List.mem_cons_of_mem _ (zX1 w h), by decide +kernel, fun h => by cases h⟩, List.forall_mem_cons.mpr ⟨⟨(RX3, TX3, 6), rfl, by decide, List.mem_cons_of_mem _ zw238, fun w h => List.mem_cons_of_mem _ (zX3 w h), by decide +kernel, fun h => by cases h⟩, List.forall_mem_cons.mpr ⟨⟨(RX3, TX3, 6), rfl, by decide, List.mem_cons_of_mem _ zw240, fun w h => List.mem_cons_of_mem _ (zX3 w h), by decide +kernel, fun h => by cases h⟩, List.forall_mem_cons.mpr ⟨⟨(RX3, TX3, 6), rfl, by decide, List.mem_cons_of_mem _ zw236, fun w h => List.mem_cons_of_mem _ (zX3 w h), by decide +kernel, fun h => by cases h⟩, fun _ h => absurd h List.not_mem_nil⟩⟩⟩⟩⟩⟩), zlookF (fin := true) [] (fun _ h => absurd h List.not_mem_nil), zlookup (β := Int32) (L := []) (P := fun ix b => Jvm.Cond.constant yX7_order.cls ix b ∈ (zwd yX7_order cX7_order 2 (zret 1))) (fun _ h => absurd h List.not_mem_nil), zlookup (β := Int64) (L := []) (P := fun ix b => Jvm.Cond.constantLong yX7_order.cls ix b ∈ (zwd yX7_order cX7_order 2 (zret 1))) (fun _ h => absurd h List.not_mem_nil), zlookup (β := Nat) (L := []) (P := fun ix b => zmok yX7_order.cls (zwd yX7_order cX7_order 2 (zret 1)) ix b) (fun _ h => absurd h List.not_mem_nil)⟩
set_option maxRecDepth 20000 in
theorem sX7_order (l : Launch) : ∀ (as : List Value) (ws : zW) (K : zP), zFr 2 (zGoes mX7_order 1 2) as ws K → zMet l yX7_order (zwd yX7_order cX7_order 2 (zret 1)) { frames := 14, cells := 0, slots := 0, locals := 2800 } 1 as ws K := zFr_met (by decide +kernel) (by decide) (by decide) gX7_order (fun p e s m args below meth c D cy ad A n0 Q S hKK hA => ⟨fun ix n G h => zlookup (β := Nat × zG) (L := [(127, 2, zFV 7 2 (zGoes mX7_isPlace 3 2)), (189, 2, zFV 3 2 (zGoes mX3_arrange 0 2))]) (P := fun ix b => zCO p l e { frames := 14, cells := 0, slots := 0, locals := 2800 } s m args below meth c cX7_order 2 D cy ad A n0 0 0 Q (.invokevirtual ix) b.1 b.2) (List.forall_mem_cons.mpr ⟨zco_V (ci := 7) S hKK hA ⟨Nat.zero_le _, Nat.zero_le _⟩ (cwV 1 S.2.2.2.2 (zgoodV zw405 zw407 zw9 zw49 zw408) rfl rfl rfl (by decide +kernel) (by decide +kernel)) rfl rfl (sX7_isPlace l), List.forall_mem_cons.mpr ⟨zco_V (ci := 3) S hKK hA ⟨Nat.zero_le _, Nat.zero_le _⟩ (cwV 1 S.2.2.2.2 (zgoodV zw556 zw557 zw558 zw55 zw559) rfl rfl rfl (by decide +kernel) (by decide +kernel)) rfl rfl (sX3_arrange l), fun _ h => absurd h List.not_mem_nil⟩⟩) ix (n, G) h, fun ix n G h => zlookup (β := Nat × zG) (L := []) (P := fun ix b => zCO p l e { frames := 14, cells := 0, slots := 0, locals := 2800 } s m args below meth c cX7_order 2 D cy ad A n0 0 0 Q (.invokestatic ix) b.1 b.2) (fun _ h => absurd h List.not_mem_nil) ix (n, G) h⟩) (by decide)
def iX7_inStep : List (Option zI) := [some (.aload_n 0, 0, 1, []), some (.getfield 36, 0, 4, []), none, none, some (.aload_n 0, 0, 5, []), some (.getfield 32, 0, 8, []), none, none, some (.invokevirtual 202, 0, 11, []), none, none, some (.iconst 0, 0, 12, []), some (.istore_n 1, 0, 13, []), some (.iload_n 1, 0, 14, []), some (.bipush 20, 20, 16, []), none, some (.if_icmp .gt 30, 0, 19, [46]), none, none, some (.aload_n 0, 0, 20, []), some (.getfield 36, 0, 23, []), none, none, some (.invokevirtual 204, 0, 26, []), none, none, some (.ifCond .eq 5, 0, 29, [31]), none, none, some (.iload_n 1, 0, 30, []), some (.ireturn, 0, 31, []), some (.aload_n 0, 0, 32, []), some (.getfield 36, 0, 35, []), none, none, some (.iconst (-1), (-1), 36, []), some (.invokevirtual 150, 0, 39, []), none, none, some (.pop, 0, 40, []), some (.iinc 1 1, 1, 43, []), none, none, some (.goto (-30), 0, 46, [13]), none, none, some (.sipush (-1009), (-1009), 49, []), none, none, some (.ireturn, 0, 50, [])]
def mX7_inStep : zM := (iX7_inStep, [(32, 7, 4, (.object "RankWheels$Line")), (36, 7, 5, (.object "RankWheels$Line"))], [], [], [], [], [(150, 2, zFV 1 2 (zGoes mX1_wheelOnce 3 3)), (202, 2, zFV 1 2 (zGoes mX1_copyFrom 0 2)), (204, 1, zFV 1 1 (zGoes mX1_feetAlike 3 2))], [])
theorem kX7_inStep : zchkL cX7_inStep 0 iX7_inStep = true := by decide +kernel
set_option maxRecDepth 20000 in
theorem gX7_inStep : zGood mX7_inStep cX7_inStep yX7_inStep.cls (zwd yX7_inStep cX7_inStep 2 (zret 1)) := ⟨fun pc x h => by
    have h1 := zchkL_at kX7_inStep pc x h
    rw [Nat.zero_add] at h1
    exact h1, zlookF (fin := false) [(32, 7, 4, (.object "RankWheels$Line")), (36, 7, 5, (.object "RankWheels$Line"))] (List.forall_mem_cons.mpr ⟨⟨(RX7, TX7, 11), rfl, by decide, List.mem_cons_of_mem _ zw283, fun w h => List.mem_cons_of_mem _ (zX7 w h), by decide +kernel, fun h => by cases h⟩, List.forall_mem_cons.mpr ⟨⟨(RX7, TX7, 11), rfl, by decide, List.mem_cons_of_mem _ zw284, fun w h => List.mem_cons_of_mem _ (zX7 w h), by decide +kernel, fun h => by cases h⟩, fun _ h => absurd h List.not_mem_nil⟩⟩), zlookF (fin := true) [] (fun _ h => absurd h List.not_mem_nil), zlookup (β := Int32) (L := []) (P := fun ix b => Jvm.Cond.constant yX7_inStep.cls ix b ∈ (zwd yX7_inStep cX7_inStep 2 (zret 1))) (fun _ h => absurd h List.not_mem_nil), zlookup (β := Int64) (L := []) (P := fun ix b => Jvm.Cond.constantLong yX7_inStep.cls ix b ∈ (zwd yX7_inStep cX7_inStep 2 (zret 1))) (fun _ h => absurd h List.not_mem_nil), zlookup (β := Nat) (L := []) (P := fun ix b => zmok yX7_inStep.cls (zwd yX7_inStep cX7_inStep 2 (zret 1)) ix b) (fun _ h => absurd h List.not_mem_nil)⟩
set_option maxRecDepth 20000 in
theorem sX7_inStep (l : Launch) : ∀ (as : List Value) (ws : zW) (K : zP), zFr 1 (zGoes mX7_inStep 1 2) as ws K → zMet l yX7_inStep (zwd yX7_inStep cX7_inStep 2 (zret 1)) { frames := 5, cells := 0, slots := 0, locals := 1000 } 1 as ws K := zFr_met (by decide +kernel) (by decide) (by decide) gX7_inStep (fun p e s m args below meth c D cy ad A n0 Q S hKK hA => ⟨fun ix n G h => zlookup (β := Nat × zG) (L := [(150, 2, zFV 1 2 (zGoes mX1_wheelOnce 3 3)), (202, 2, zFV 1 2 (zGoes mX1_copyFrom 0 2)), (204, 1, zFV 1 1 (zGoes mX1_feetAlike 3 2))]) (P := fun ix b => zCO p l e { frames := 5, cells := 0, slots := 0, locals := 1000 } s m args below meth c cX7_inStep 2 D cy ad A n0 0 0 Q (.invokevirtual ix) b.1 b.2) (List.forall_mem_cons.mpr ⟨zco_V (ci := 1) S hKK hA ⟨Nat.zero_le _, Nat.zero_le _⟩ (cwV 1 S.2.2.2.2 (zgoodV zw433 zw434 zw435 zw52 zw436) rfl rfl rfl (by decide +kernel) (by decide +kernel)) rfl rfl (sX1_wheelOnce l), List.forall_mem_cons.mpr ⟨zco_V (ci := 1) S hKK hA ⟨Nat.zero_le _, Nat.zero_le _⟩ (cwV 1 S.2.2.2.2 (zgoodV zw529 zw429 zw430 zw52 zw431) rfl rfl rfl (by decide +kernel) (by decide +kernel)) rfl rfl (sX1_copyFrom l), List.forall_mem_cons.mpr ⟨zco_V (ci := 1) S hKK hA ⟨Nat.zero_le _, Nat.zero_le _⟩ (cwV 0 S.2.2.2.2 (zgoodV zw588 zw589 zw590 zw52 zw591) rfl rfl rfl (by decide +kernel) (by decide +kernel)) rfl rfl (sX1_feetAlike l), fun _ h => absurd h List.not_mem_nil⟩⟩⟩) ix (n, G) h, fun ix n G h => zlookup (β := Nat × zG) (L := []) (P := fun ix b => zCO p l e { frames := 5, cells := 0, slots := 0, locals := 1000 } s m args below meth c cX7_inStep 2 D cy ad A n0 0 0 Q (.invokestatic ix) b.1 b.2) (fun _ h => absurd h List.not_mem_nil) ix (n, G) h⟩) (by decide)
def iX7_behind : List (Option zI) := [some (.iload_n 1, 0, 1, []), some (.iconst 0, 0, 2, []), some (.bipush 99, 99, 4, []), none, some (.invokestatic 71, 0, 7, []), none, none, some (.ifCond .ne 7, 0, 10, [14]), none, none, some (.sipush (-1001), (-1001), 13, []), none, none, some (.ireturn, 0, 14, []), some (.aload_n 0, 0, 15, []), some (.getfield 36, 0, 18, []), none, none, some (.aload_n 0, 0, 19, []), some (.getfield 32, 0, 22, []), none, none, some (.invokevirtual 202, 0, 25, []), none, none, some (.aload_n 0, 0, 26, []), some (.getfield 36, 0, 29, []), none, none, some (.iload_n 1, 0, 30, []), some (.invokevirtual 208, 0, 33, []), none, none, some (.istore_n 2, 0, 34, []), some (.iconst 0, 0, 35, []), some (.istore_n 3, 0, 36, []), some (.iload_n 3, 0, 37, []), some (.bipush 60, 60, 39, []), none, some (.if_icmp .ge 31, 0, 42, [70]), none, none, some (.aload_n 0, 0, 43, []), some (.getfield 36, 0, 46, []), none, none, some (.iconst (-1), (-1), 47, []), some (.invokevirtual 150, 0, 50, []), none, none, some (.pop, 0, 51, []), some (.iload_n 2, 0, 52, []), some (.aload_n 0, 0, 53, []), some (.getfield 36, 0, 56, []), none, none, some (.iload_n 1, 0, 57, []), some (.invokevirtual 208, 0, 60, []), none, none, some (.invokestatic 211, 0, 63, []), none, none, some (.istore_n 2, 0, 64, []), some (.iinc 3 1, 1, 67, []), none, none, some (.goto (-31), 0, 70, [36]), none, none, some (.iload_n 2, 0, 71, []), some (.bipush 60, 60, 73, []), none, some (.if_icmp .le 9, 0, 76, [82]), none, none, some (.sipush (-1009), (-1009), 79, []), none, none, some (.goto 4, 0, 82, [83]), none, none, some (.iload_n 2, 0, 83, []), some (.ireturn, 0, 84, [])]
def mX7_behind : zM := (iX7_behind, [(32, 7, 4, (.object "RankWheels$Line")), (36, 7, 5, (.object "RankWheels$Line"))], [], [], [], [(211, 0)], [(150, 2, zFV 1 2 (zGoes mX1_wheelOnce 3 3)), (202, 2, zFV 1 2 (zGoes mX1_copyFrom 0 2)), (208, 2, zFV 1 2 (zGoes mX1_pacesBehind 1 6))], [(71, 3, zFr 3 (zGoes mX7_within 3 3))])
theorem kX7_behind : zchkL cX7_behind 0 iX7_behind = true := by decide +kernel
set_option maxRecDepth 20000 in
theorem gX7_behind : zGood mX7_behind cX7_behind yX7_behind.cls (zwd yX7_behind cX7_behind 4 (zret 1)) := ⟨fun pc x h => by
    have h1 := zchkL_at kX7_behind pc x h
    rw [Nat.zero_add] at h1
    exact h1, zlookF (fin := false) [(32, 7, 4, (.object "RankWheels$Line")), (36, 7, 5, (.object "RankWheels$Line"))] (List.forall_mem_cons.mpr ⟨⟨(RX7, TX7, 11), rfl, by decide, List.mem_cons_of_mem _ zw283, fun w h => List.mem_cons_of_mem _ (zX7 w h), by decide +kernel, fun h => by cases h⟩, List.forall_mem_cons.mpr ⟨⟨(RX7, TX7, 11), rfl, by decide, List.mem_cons_of_mem _ zw284, fun w h => List.mem_cons_of_mem _ (zX7 w h), by decide +kernel, fun h => by cases h⟩, fun _ h => absurd h List.not_mem_nil⟩⟩), zlookF (fin := true) [] (fun _ h => absurd h List.not_mem_nil), zlookup (β := Int32) (L := []) (P := fun ix b => Jvm.Cond.constant yX7_behind.cls ix b ∈ (zwd yX7_behind cX7_behind 4 (zret 1))) (fun _ h => absurd h List.not_mem_nil), zlookup (β := Int64) (L := []) (P := fun ix b => Jvm.Cond.constantLong yX7_behind.cls ix b ∈ (zwd yX7_behind cX7_behind 4 (zret 1))) (fun _ h => absurd h List.not_mem_nil), zlookup (β := Nat) (L := [(211, 0)]) (P := fun ix b => zmok yX7_behind.cls (zwd yX7_behind cX7_behind 4 (zret 1)) ix b) (List.forall_mem_cons.mpr ⟨⟨List.mem_cons_of_mem _ zw600, List.mem_cons_of_mem _ zw451, List.mem_cons_of_mem _ zw58, List.mem_cons_of_mem _ zw452⟩, fun _ h => absurd h List.not_mem_nil⟩)⟩
set_option maxRecDepth 20000 in
theorem sX7_behind (l : Launch) : ∀ (as : List Value) (ws : zW) (K : zP), zFr 2 (zGoes mX7_behind 1 4) as ws K → zMet l yX7_behind (zwd yX7_behind cX7_behind 4 (zret 1)) { frames := 5, cells := 0, slots := 0, locals := 1000 } 1 as ws K := zFr_met (by decide +kernel) (by decide) (by decide) gX7_behind (fun p e s m args below meth c D cy ad A n0 Q S hKK hA => ⟨fun ix n G h => zlookup (β := Nat × zG) (L := [(150, 2, zFV 1 2 (zGoes mX1_wheelOnce 3 3)), (202, 2, zFV 1 2 (zGoes mX1_copyFrom 0 2)), (208, 2, zFV 1 2 (zGoes mX1_pacesBehind 1 6))]) (P := fun ix b => zCO p l e { frames := 5, cells := 0, slots := 0, locals := 1000 } s m args below meth c cX7_behind 4 D cy ad A n0 0 0 Q (.invokevirtual ix) b.1 b.2) (List.forall_mem_cons.mpr ⟨zco_V (ci := 1) S hKK hA ⟨Nat.zero_le _, Nat.zero_le _⟩ (cwV 1 S.2.2.2.2 (zgoodV zw433 zw434 zw435 zw52 zw436) rfl rfl rfl (by decide +kernel) (by decide +kernel)) rfl rfl (sX1_wheelOnce l), List.forall_mem_cons.mpr ⟨zco_V (ci := 1) S hKK hA ⟨Nat.zero_le _, Nat.zero_le _⟩ (cwV 1 S.2.2.2.2 (zgoodV zw529 zw429 zw430 zw52 zw431) rfl rfl rfl (by decide +kernel) (by decide +kernel)) rfl rfl (sX1_copyFrom l), List.forall_mem_cons.mpr ⟨zco_V (ci := 1) S hKK hA ⟨Nat.zero_le _, Nat.zero_le _⟩ (cwV 1 S.2.2.2.2 (zgoodV zw596 zw597 zw598 zw52 zw599) rfl rfl rfl (by decide +kernel) (by decide +kernel)) rfl rfl (sX1_pacesBehind l), fun _ h => absurd h List.not_mem_nil⟩⟩⟩) ix (n, G) h, fun ix n G h => zlookup (β := Nat × zG) (L := [(71, 3, zFr 3 (zGoes mX7_within 3 3))]) (P := fun ix b => zCO p l e { frames := 5, cells := 0, slots := 0, locals := 1000 } s m args below meth c cX7_behind 4 D cy ad A n0 0 0 Q (.invokestatic ix) b.1 b.2) (List.forall_mem_cons.mpr ⟨zco_S S hKK hA ⟨Nat.zero_le _, Nat.zero_le _⟩ (va_cwS 3 S.2.2.2.2 (zgoodS zw317 zw318 zw49 zw319) rfl rfl rfl (by decide +kernel) (by decide +kernel)) (sX7_within l), fun _ h => absurd h List.not_mem_nil⟩) ix (n, G) h⟩) (by decide)
def iX7_post : List (Option zI) := [some (.aload_n 0, 0, 1, []), some (.iload_n 1, 0, 2, []), some (.invokevirtual 127, 0, 5, []), none, none, some (.ifCond .eq 13, 0, 8, [18]), none, none, some (.iload_n 2, 0, 9, []), some (.iconst 1, 1, 10, []), some (.bipush 20, 20, 12, []), none, some (.invokestatic 71, 0, 15, []), none, none, some (.ifCond .ne 7, 0, 18, [22]), none, none, some (.sipush (-1001), (-1001), 21, []), none, none, some (.ireturn, 0, 22, []), some (.aload_n 0, 0, 23, []), some (.iload_n 2, 0, 24, []), some (.iload_n 1, 0, 25, []), some (.invokevirtual 183, 0, 28, []), none, none, some (.aload_n 0, 0, 29, []), some (.getfield 36, 0, 32, []), none, none, some (.invokevirtual 153, 0, 35, []), none, none, some (.ireturn, 0, 36, [])]
def mX7_post : zM := (iX7_post, [(36, 7, 5, (.object "RankWheels$Line"))], [], [], [], [], [(127, 2, zFV 7 2 (zGoes mX7_isPlace 3 2)), (153, 1, zFV 1 1 (zGoes mX1_bulge 1 3)), (183, 3, zFV 7 3 (zGoes mX7_lookAhead 0 4))], [(71, 3, zFr 3 (zGoes mX7_within 3 3))])
theorem kX7_post : zchkL cX7_post 0 iX7_post = true := by decide +kernel
set_option maxRecDepth 20000 in
theorem gX7_post : zGood mX7_post cX7_post yX7_post.cls (zwd yX7_post cX7_post 3 (zret 1)) := ⟨fun pc x h => by
    have h1 := zchkL_at kX7_post pc x h
    rw [Nat.zero_add] at h1
    exact h1, zlookF (fin := false) [(36, 7, 5, (.object "RankWheels$Line"))] (List.forall_mem_cons.mpr ⟨⟨(RX7, TX7, 11), rfl, by decide, List.mem_cons_of_mem _ zw284, fun w h => List.mem_cons_of_mem _ (zX7 w h), by decide +kernel, fun h => by cases h⟩, fun _ h => absurd h List.not_mem_nil⟩), zlookF (fin := true) [] (fun _ h => absurd h List.not_mem_nil), zlookup (β := Int32) (L := []) (P := fun ix b => Jvm.Cond.constant yX7_post.cls ix b ∈ (zwd yX7_post cX7_post 3 (zret 1))) (fun _ h => absurd h List.not_mem_nil), zlookup (β := Int64) (L := []) (P := fun ix b => Jvm.Cond.constantLong yX7_post.cls ix b ∈ (zwd yX7_post cX7_post 3 (zret 1))) (fun _ h => absurd h List.not_mem_nil), zlookup (β := Nat) (L := []) (P := fun ix b => zmok yX7_post.cls (zwd yX7_post cX7_post 3 (zret 1)) ix b) (fun _ h => absurd h List.not_mem_nil)⟩
set_option maxRecDepth 20000 in
theorem sX7_post (l : Launch) : ∀ (as : List Value) (ws : zW) (K : zP), zFr 3 (zGoes mX7_post 1 3) as ws K → zMet l yX7_post (zwd yX7_post cX7_post 3 (zret 1)) { frames := 6, cells := 0, slots := 0, locals := 1200 } 1 as ws K := zFr_met (by decide +kernel) (by decide) (by decide) gX7_post (fun p e s m args below meth c D cy ad A n0 Q S hKK hA => ⟨fun ix n G h => zlookup (β := Nat × zG) (L := [(127, 2, zFV 7 2 (zGoes mX7_isPlace 3 2)), (153, 1, zFV 1 1 (zGoes mX1_bulge 1 3)), (183, 3, zFV 7 3 (zGoes mX7_lookAhead 0 4))]) (P := fun ix b => zCO p l e { frames := 6, cells := 0, slots := 0, locals := 1200 } s m args below meth c cX7_post 3 D cy ad A n0 0 0 Q (.invokevirtual ix) b.1 b.2) (List.forall_mem_cons.mpr ⟨zco_V (ci := 7) S hKK hA ⟨Nat.zero_le _, Nat.zero_le _⟩ (cwV 1 S.2.2.2.2 (zgoodV zw405 zw407 zw9 zw49 zw408) rfl rfl rfl (by decide +kernel) (by decide +kernel)) rfl rfl (sX7_isPlace l), List.forall_mem_cons.mpr ⟨zco_V (ci := 1) S hKK hA ⟨Nat.zero_le _, Nat.zero_le _⟩ (cwV 0 S.2.2.2.2 (zgoodV zw458 zw459 zw460 zw52 zw461) rfl rfl rfl (by decide +kernel) (by decide +kernel)) rfl rfl (sX1_bulge l), List.forall_mem_cons.mpr ⟨zco_V (ci := 7) S hKK hA ⟨Nat.zero_le _, Nat.zero_le _⟩ (cwV 2 S.2.2.2.2 (zgoodV zw534 zw536 zw16 zw49 zw537) rfl rfl rfl (by decide +kernel) (by decide +kernel)) rfl rfl (sX7_lookAhead l), fun _ h => absurd h List.not_mem_nil⟩⟩⟩) ix (n, G) h, fun ix n G h => zlookup (β := Nat × zG) (L := [(71, 3, zFr 3 (zGoes mX7_within 3 3))]) (P := fun ix b => zCO p l e { frames := 6, cells := 0, slots := 0, locals := 1200 } s m args below meth c cX7_post 3 D cy ad A n0 0 0 Q (.invokestatic ix) b.1 b.2) (List.forall_mem_cons.mpr ⟨zco_S S hKK hA ⟨Nat.zero_le _, Nat.zero_le _⟩ (va_cwS 3 S.2.2.2.2 (zgoodS zw317 zw318 zw49 zw319) rfl rfl rfl (by decide +kernel) (by decide +kernel)) (sX7_within l), fun _ h => absurd h List.not_mem_nil⟩) ix (n, G) h⟩) (by decide)
def iX7_power : List (Option zI) := [some (.iconst 1, 1, 1, []), some (.istore_n 2, 0, 2, []), some (.iconst 0, 0, 3, []), some (.istore_n 3, 0, 4, []), some (.iload_n 3, 0, 5, []), some (.iload_n 1, 0, 6, []), some (.if_icmp .ge 13, 0, 9, [19]), none, none, some (.iload_n 2, 0, 10, []), some (.iload_n 0, 0, 11, []), some (.imul, 0, 12, []), some (.istore_n 2, 0, 13, []), some (.iinc 3 1, 1, 16, []), none, none, some (.goto (-12), 0, 19, [4]), none, none, some (.iload_n 2, 0, 20, []), some (.ireturn, 0, 21, [])]
def mX7_power : zM := (iX7_power, [], [], [], [], [], [], [])
theorem kX7_power : zchkL cX7_power 0 iX7_power = true := by decide +kernel
set_option maxRecDepth 20000 in
theorem gX7_power : zGood mX7_power cX7_power yX7_power.cls (zwd yX7_power cX7_power 4 (zret 1)) := ⟨fun pc x h => by
    have h1 := zchkL_at kX7_power pc x h
    rw [Nat.zero_add] at h1
    exact h1, zlookF (fin := false) [] (fun _ h => absurd h List.not_mem_nil), zlookF (fin := true) [] (fun _ h => absurd h List.not_mem_nil), zlookup (β := Int32) (L := []) (P := fun ix b => Jvm.Cond.constant yX7_power.cls ix b ∈ (zwd yX7_power cX7_power 4 (zret 1))) (fun _ h => absurd h List.not_mem_nil), zlookup (β := Int64) (L := []) (P := fun ix b => Jvm.Cond.constantLong yX7_power.cls ix b ∈ (zwd yX7_power cX7_power 4 (zret 1))) (fun _ h => absurd h List.not_mem_nil), zlookup (β := Nat) (L := []) (P := fun ix b => zmok yX7_power.cls (zwd yX7_power cX7_power 4 (zret 1)) ix b) (fun _ h => absurd h List.not_mem_nil)⟩
set_option maxRecDepth 20000 in
theorem sX7_power (l : Launch) : ∀ (as : List Value) (ws : zW) (K : zP), zFr 2 (zGoes mX7_power 1 4) as ws K → zMet l yX7_power (zwd yX7_power cX7_power 4 (zret 1)) { frames := 1, cells := 0, slots := 0, locals := 200 } 1 as ws K := zFr_met (by decide +kernel) (by decide) (by decide) gX7_power (fun p e s m args below meth c D cy ad A n0 Q S hKK hA => ⟨fun ix n G h => zlookup (β := Nat × zG) (L := []) (P := fun ix b => zCO p l e { frames := 1, cells := 0, slots := 0, locals := 200 } s m args below meth c cX7_power 4 D cy ad A n0 0 0 Q (.invokevirtual ix) b.1 b.2) (fun _ h => absurd h List.not_mem_nil) ix (n, G) h, fun ix n G h => zlookup (β := Nat × zG) (L := []) (P := fun ix b => zCO p l e { frames := 1, cells := 0, slots := 0, locals := 200 } s m args below meth c cX7_power 4 D cy ad A n0 0 0 Q (.invokestatic ix) b.1 b.2) (fun _ h => absurd h List.not_mem_nil) ix (n, G) h⟩) (by decide)
def iX7_waysInTenths : List (Option zI) := [some (.iconst 0, 0, 1, []), some (.istore_n 3, 0, 2, []), some (.iconst 1, 1, 3, []), some (.istore 4, 0, 5, []), none, some (.iconst 0, 0, 6, []), some (.istore 5, 0, 8, []), none, some (.iload 5, 0, 10, []), none, some (.iload_n 1, 0, 11, []), some (.if_icmp .gt 53, 0, 14, [64]), none, none, some (.iload 5, 0, 16, []), none, some (.iload_n 2, 0, 17, []), some (.if_icmp .gt 47, 0, 20, [64]), none, none, some (.iload_n 3, 0, 21, []), some (.iload 4, 0, 23, []), none, some (.iload_n 0, 0, 24, []), some (.iload 5, 0, 26, []), none, some (.invokestatic 219, 0, 29, []), none, none, some (.imul, 0, 30, []), some (.bipush 10, 10, 32, []), none, some (.iload_n 0, 0, 33, []), some (.isub, 0, 34, []), some (.iload_n 2, 0, 35, []), some (.iload 5, 0, 37, []), none, some (.isub, 0, 38, []), some (.invokestatic 219, 0, 41, []), none, none, some (.imul, 0, 42, []), some (.iadd, 0, 43, []), some (.istore_n 3, 0, 44, []), some (.iload 4, 0, 46, []), none, some (.iload_n 2, 0, 47, []), some (.iload 5, 0, 49, []), none, some (.isub, 0, 50, []), some (.imul, 0, 51, []), some (.iload 5, 0, 53, []), none, some (.iconst 1, 1, 54, []), some (.iadd, 0, 55, []), some (.idiv, 0, 56, []), some (.istore 4, 0, 58, []), none, some (.iinc 5 1, 1, 61, []), none, none, some (.goto (-53), 0, 64, [8]), none, none, some (.iload_n 3, 0, 65, []), some (.ireturn, 0, 66, [])]
def mX7_waysInTenths : zM := (iX7_waysInTenths, [], [], [], [], [], [], [(219, 2, zFr 2 (zGoes mX7_power 1 4))])
theorem kX7_waysInTenths : zchkL cX7_waysInTenths 0 iX7_waysInTenths = true := by decide +kernel
set_option maxRecDepth 20000 in
theorem gX7_waysInTenths : zGood mX7_waysInTenths cX7_waysInTenths yX7_waysInTenths.cls (zwd yX7_waysInTenths cX7_waysInTenths 6 (zret 1)) := ⟨fun pc x h => by
    have h1 := zchkL_at kX7_waysInTenths pc x h
    rw [Nat.zero_add] at h1
    exact h1, zlookF (fin := false) [] (fun _ h => absurd h List.not_mem_nil), zlookF (fin := true) [] (fun _ h => absurd h List.not_mem_nil), zlookup (β := Int32) (L := []) (P := fun ix b => Jvm.Cond.constant yX7_waysInTenths.cls ix b ∈ (zwd yX7_waysInTenths cX7_waysInTenths 6 (zret 1))) (fun _ h => absurd h List.not_mem_nil), zlookup (β := Int64) (L := []) (P := fun ix b => Jvm.Cond.constantLong yX7_waysInTenths.cls ix b ∈ (zwd yX7_waysInTenths cX7_waysInTenths 6 (zret 1))) (fun _ h => absurd h List.not_mem_nil), zlookup (β := Nat) (L := []) (P := fun ix b => zmok yX7_waysInTenths.cls (zwd yX7_waysInTenths cX7_waysInTenths 6 (zret 1)) ix b) (fun _ h => absurd h List.not_mem_nil)⟩
set_option maxRecDepth 20000 in
theorem sX7_waysInTenths (l : Launch) : ∀ (as : List Value) (ws : zW) (K : zP), zFr 3 (zGoes mX7_waysInTenths 1 6) as ws K → zMet l yX7_waysInTenths (zwd yX7_waysInTenths cX7_waysInTenths 6 (zret 1)) { frames := 2, cells := 0, slots := 0, locals := 400 } 1 as ws K := zFr_met (by decide +kernel) (by decide) (by decide) gX7_waysInTenths (fun p e s m args below meth c D cy ad A n0 Q S hKK hA => ⟨fun ix n G h => zlookup (β := Nat × zG) (L := []) (P := fun ix b => zCO p l e { frames := 2, cells := 0, slots := 0, locals := 400 } s m args below meth c cX7_waysInTenths 6 D cy ad A n0 0 0 Q (.invokevirtual ix) b.1 b.2) (fun _ h => absurd h List.not_mem_nil) ix (n, G) h, fun ix n G h => zlookup (β := Nat × zG) (L := [(219, 2, zFr 2 (zGoes mX7_power 1 4))]) (P := fun ix b => zCO p l e { frames := 2, cells := 0, slots := 0, locals := 400 } s m args below meth c cX7_waysInTenths 6 D cy ad A n0 0 0 Q (.invokestatic ix) b.1 b.2) (List.forall_mem_cons.mpr ⟨zco_S S hKK hA ⟨Nat.zero_le _, Nat.zero_le _⟩ (va_cwS 2 S.2.2.2.2 (zgoodS zw612 zw613 zw49 zw614) rfl rfl rfl (by decide +kernel) (by decide +kernel)) (sX7_power l), fun _ h => absurd h List.not_mem_nil⟩) ix (n, G) h⟩) (by decide)
def iX7_greatestDivisor : List (Option zI) := [some (.iload_n 0, 0, 1, []), some (.istore_n 2, 0, 2, []), some (.iload_n 1, 0, 3, []), some (.istore_n 3, 0, 4, []), some (.iconst 0, 0, 5, []), some (.istore 4, 0, 7, []), none, some (.iload 4, 0, 9, []), none, some (.bipush 100, 100, 11, []), none, some (.if_icmp .ge 23, 0, 14, [34]), none, none, some (.iload_n 3, 0, 15, []), some (.ifCond .eq 19, 0, 18, [34]), none, none, some (.iload_n 2, 0, 19, []), some (.iload_n 3, 0, 20, []), some (.irem, 0, 21, []), some (.istore 5, 0, 23, []), none, some (.iload_n 3, 0, 24, []), some (.istore_n 2, 0, 25, []), some (.iload 5, 0, 27, []), none, some (.istore_n 3, 0, 28, []), some (.iinc 4 1, 1, 31, []), none, none, some (.goto (-24), 0, 34, [7]), none, none, some (.iload_n 2, 0, 35, []), some (.ireturn, 0, 36, [])]
def mX7_greatestDivisor : zM := (iX7_greatestDivisor, [], [], [], [], [], [], [])
theorem kX7_greatestDivisor : zchkL cX7_greatestDivisor 0 iX7_greatestDivisor = true := by decide +kernel
set_option maxRecDepth 20000 in
theorem gX7_greatestDivisor : zGood mX7_greatestDivisor cX7_greatestDivisor yX7_greatestDivisor.cls (zwd yX7_greatestDivisor cX7_greatestDivisor 6 (zret 1)) := ⟨fun pc x h => by
    have h1 := zchkL_at kX7_greatestDivisor pc x h
    rw [Nat.zero_add] at h1
    exact h1, zlookF (fin := false) [] (fun _ h => absurd h List.not_mem_nil), zlookF (fin := true) [] (fun _ h => absurd h List.not_mem_nil), zlookup (β := Int32) (L := []) (P := fun ix b => Jvm.Cond.constant yX7_greatestDivisor.cls ix b ∈ (zwd yX7_greatestDivisor cX7_greatestDivisor 6 (zret 1))) (fun _ h => absurd h List.not_mem_nil), zlookup (β := Int64) (L := []) (P := fun ix b => Jvm.Cond.constantLong yX7_greatestDivisor.cls ix b ∈ (zwd yX7_greatestDivisor cX7_greatestDivisor 6 (zret 1))) (fun _ h => absurd h List.not_mem_nil), zlookup (β := Nat) (L := []) (P := fun ix b => zmok yX7_greatestDivisor.cls (zwd yX7_greatestDivisor cX7_greatestDivisor 6 (zret 1)) ix b) (fun _ h => absurd h List.not_mem_nil)⟩
set_option maxRecDepth 20000 in
theorem sX7_greatestDivisor (l : Launch) : ∀ (as : List Value) (ws : zW) (K : zP), zFr 2 (zGoes mX7_greatestDivisor 1 6) as ws K → zMet l yX7_greatestDivisor (zwd yX7_greatestDivisor cX7_greatestDivisor 6 (zret 1)) { frames := 1, cells := 0, slots := 0, locals := 200 } 1 as ws K := zFr_met (by decide +kernel) (by decide) (by decide) gX7_greatestDivisor (fun p e s m args below meth c D cy ad A n0 Q S hKK hA => ⟨fun ix n G h => zlookup (β := Nat × zG) (L := []) (P := fun ix b => zCO p l e { frames := 1, cells := 0, slots := 0, locals := 200 } s m args below meth c cX7_greatestDivisor 6 D cy ad A n0 0 0 Q (.invokevirtual ix) b.1 b.2) (fun _ h => absurd h List.not_mem_nil) ix (n, G) h, fun ix n G h => zlookup (β := Nat × zG) (L := []) (P := fun ix b => zCO p l e { frames := 1, cells := 0, slots := 0, locals := 200 } s m args below meth c cX7_greatestDivisor 6 D cy ad A n0 0 0 Q (.invokestatic ix) b.1 b.2) (fun _ h => absurd h List.not_mem_nil) ix (n, G) h⟩) (by decide)
def iX7_odds : List (Option zI) := [some (.iload_n 1, 0, 1, []), some (.iconst 0, 0, 2, []), some (.bipush 10, 10, 4, []), none, some (.invokestatic 71, 0, 7, []), none, none, some (.ifCond .eq 22, 0, 10, [29]), none, none, some (.iload_n 2, 0, 11, []), some (.iconst 0, 0, 12, []), some (.bipush 7, 7, 14, []), none, some (.invokestatic 71, 0, 17, []), none, none, some (.ifCond .eq 12, 0, 20, [29]), none, none, some (.iload_n 3, 0, 21, []), some (.iconst 0, 0, 22, []), some (.iconst 1, 1, 23, []), some (.invokestatic 71, 0, 26, []), none, none, some (.ifCond .ne 7, 0, 29, [33]), none, none, some (.sipush (-1001), (-1001), 32, []), none, none, some (.ireturn, 0, 33, []), some (.iload_n 1, 0, 34, []), some (.iload_n 2, 0, 35, []), some (.aload_n 0, 0, 36, []), some (.getfield 23, 0, 39, []), none, none, some (.getfield 114, 0, 42, []), none, none, some (.invokestatic 216, 0, 45, []), none, none, some (.istore 4, 0, 47, []), none, some (.bipush 10, 10, 49, []), none, some (.aload_n 0, 0, 50, []), some (.getfield 23, 0, 53, []), none, none, some (.getfield 114, 0, 56, []), none, none, some (.invokestatic 219, 0, 59, []), none, none, some (.istore 5, 0, 61, []), none, some (.iload 5, 0, 63, []), none, some (.iload 4, 0, 65, []), none, some (.invokestatic 222, 0, 68, []), none, none, some (.istore 6, 0, 70, []), none, some (.iload 6, 0, 72, []), none, some (.ifCond .ne 7, 0, 75, [79]), none, none, some (.sipush (-1001), (-1001), 78, []), none, none, some (.ireturn, 0, 79, []), some (.iload_n 3, 0, 80, []), some (.ifCond .ne 11, 0, 83, [91]), none, none, some (.iload 4, 0, 85, []), none, some (.iload 6, 0, 87, []), none, some (.idiv, 0, 88, []), some (.goto 8, 0, 91, [96]), none, none, some (.iload 5, 0, 93, []), none, some (.iload 6, 0, 95, []), none, some (.idiv, 0, 96, []), some (.ireturn, 0, 97, [])]
def mX7_odds : zM := (iX7_odds, [(23, 7, 3, (.object "RankWheels$Men")), (114, 2, 0, .int)], [], [], [], [], [], [(71, 3, zFr 3 (zGoes mX7_within 3 3)), (216, 3, zFr 3 (zGoes mX7_waysInTenths 1 6)), (219, 2, zFr 2 (zGoes mX7_power 1 4)), (222, 2, zFr 2 (zGoes mX7_greatestDivisor 1 6))])
theorem kX7_odds : zchkL cX7_odds 0 iX7_odds = true := by decide +kernel
set_option maxRecDepth 20000 in
theorem gX7_odds : zGood mX7_odds cX7_odds yX7_odds.cls (zwd yX7_odds cX7_odds 7 (zret 1)) := ⟨fun pc x h => by
    have h1 := zchkL_at kX7_odds pc x h
    rw [Nat.zero_add] at h1
    exact h1, zlookF (fin := false) [(23, 7, 3, (.object "RankWheels$Men")), (114, 2, 0, .int)] (List.forall_mem_cons.mpr ⟨⟨(RX7, TX7, 11), rfl, by decide, List.mem_cons_of_mem _ zw282, fun w h => List.mem_cons_of_mem _ (zX7 w h), by decide +kernel, fun h => by cases h⟩, List.forall_mem_cons.mpr ⟨⟨(RX2, TX2, 3), rfl, by decide, List.mem_cons_of_mem _ zw84, fun w h => List.mem_cons_of_mem _ (zX2 w h), by decide +kernel, fun h => by cases h⟩, fun _ h => absurd h List.not_mem_nil⟩⟩), zlookF (fin := true) [] (fun _ h => absurd h List.not_mem_nil), zlookup (β := Int32) (L := []) (P := fun ix b => Jvm.Cond.constant yX7_odds.cls ix b ∈ (zwd yX7_odds cX7_odds 7 (zret 1))) (fun _ h => absurd h List.not_mem_nil), zlookup (β := Int64) (L := []) (P := fun ix b => Jvm.Cond.constantLong yX7_odds.cls ix b ∈ (zwd yX7_odds cX7_odds 7 (zret 1))) (fun _ h => absurd h List.not_mem_nil), zlookup (β := Nat) (L := []) (P := fun ix b => zmok yX7_odds.cls (zwd yX7_odds cX7_odds 7 (zret 1)) ix b) (fun _ h => absurd h List.not_mem_nil)⟩
set_option maxRecDepth 20000 in
theorem sX7_odds (l : Launch) : ∀ (as : List Value) (ws : zW) (K : zP), zFr 4 (zGoes mX7_odds 1 7) as ws K → zMet l yX7_odds (zwd yX7_odds cX7_odds 7 (zret 1)) { frames := 3, cells := 0, slots := 0, locals := 600 } 1 as ws K := zFr_met (by decide +kernel) (by decide) (by decide) gX7_odds (fun p e s m args below meth c D cy ad A n0 Q S hKK hA => ⟨fun ix n G h => zlookup (β := Nat × zG) (L := []) (P := fun ix b => zCO p l e { frames := 3, cells := 0, slots := 0, locals := 600 } s m args below meth c cX7_odds 7 D cy ad A n0 0 0 Q (.invokevirtual ix) b.1 b.2) (fun _ h => absurd h List.not_mem_nil) ix (n, G) h, fun ix n G h => zlookup (β := Nat × zG) (L := [(71, 3, zFr 3 (zGoes mX7_within 3 3)), (216, 3, zFr 3 (zGoes mX7_waysInTenths 1 6)), (219, 2, zFr 2 (zGoes mX7_power 1 4)), (222, 2, zFr 2 (zGoes mX7_greatestDivisor 1 6))]) (P := fun ix b => zCO p l e { frames := 3, cells := 0, slots := 0, locals := 600 } s m args below meth c cX7_odds 7 D cy ad A n0 0 0 Q (.invokestatic ix) b.1 b.2) (List.forall_mem_cons.mpr ⟨zco_S S hKK hA ⟨Nat.zero_le _, Nat.zero_le _⟩ (va_cwS 3 S.2.2.2.2 (zgoodS zw317 zw318 zw49 zw319) rfl rfl rfl (by decide +kernel) (by decide +kernel)) (sX7_within l), List.forall_mem_cons.mpr ⟨zco_S S hKK hA ⟨Nat.zero_le _, Nat.zero_le _⟩ (va_cwS 3 S.2.2.2.2 (zgoodS zw609 zw610 zw49 zw611) rfl rfl rfl (by decide +kernel) (by decide +kernel)) (sX7_waysInTenths l), List.forall_mem_cons.mpr ⟨zco_S S hKK hA ⟨Nat.zero_le _, Nat.zero_le _⟩ (va_cwS 2 S.2.2.2.2 (zgoodS zw612 zw613 zw49 zw614) rfl rfl rfl (by decide +kernel) (by decide +kernel)) (sX7_power l), List.forall_mem_cons.mpr ⟨zco_S S hKK hA ⟨Nat.zero_le _, Nat.zero_le _⟩ (va_cwS 2 S.2.2.2.2 (zgoodS zw615 zw616 zw49 zw617) rfl rfl rfl (by decide +kernel) (by decide +kernel)) (sX7_greatestDivisor l), fun _ h => absurd h List.not_mem_nil⟩⟩⟩⟩) ix (n, G) h⟩) (by decide)
def iX7_saw : List (Option zI) := [some (.aload_n 0, 0, 1, []), some (.iload_n 1, 0, 2, []), some (.invokevirtual 127, 0, 5, []), none, none, some (.ifCond .eq 26, 0, 8, [31]), none, none, some (.iload_n 2, 0, 9, []), some (.iconst 0, 0, 10, []), some (.bipush 60, 60, 12, []), none, some (.invokestatic 71, 0, 15, []), none, none, some (.ifCond .eq 16, 0, 18, [31]), none, none, some (.iload_n 3, 0, 19, []), some (.sipush (-999), (-999), 22, []), none, none, some (.sipush 999, 999, 25, []), none, none, some (.invokestatic 71, 0, 28, []), none, none, some (.ifCond .ne 7, 0, 31, [35]), none, none, some (.sipush (-1001), (-1001), 34, []), none, none, some (.ireturn, 0, 35, []), some (.aload_n 0, 0, 36, []), some (.getfield 55, 0, 39, []), none, none, some (.getfield 106, 0, 42, []), none, none, some (.bipush 6, 6, 44, []), none, some (.if_icmp .lt 7, 0, 47, [51]), none, none, some (.sipush (-1003), (-1003), 50, []), none, none, some (.ireturn, 0, 51, []), some (.aload_n 0, 0, 52, []), some (.getfield 55, 0, 55, []), none, none, some (.iload_n 1, 0, 56, []), some (.iload_n 2, 0, 57, []), some (.iload_n 3, 0, 58, []), some (.invokevirtual 225, 0, 61, []), none, none, some (.aload_n 0, 0, 62, []), some (.getfield 55, 0, 65, []), none, none, some (.getfield 106, 0, 68, []), none, none, some (.ireturn, 0, 69, [])]
def mX7_saw : zM := (iX7_saw, [(55, 7, 8, (.object "RankWheels$Sightings")), (106, 5, 0, .int)], [], [], [], [], [(127, 2, zFV 7 2 (zGoes mX7_isPlace 3 2)), (225, 4, zFV 5 4 (zGoes mX5_note 0 4))], [(71, 3, zFr 3 (zGoes mX7_within 3 3))])
theorem kX7_saw : zchkL cX7_saw 0 iX7_saw = true := by decide +kernel
set_option maxRecDepth 20000 in
theorem gX7_saw : zGood mX7_saw cX7_saw yX7_saw.cls (zwd yX7_saw cX7_saw 4 (zret 1)) := ⟨fun pc x h => by
    have h1 := zchkL_at kX7_saw pc x h
    rw [Nat.zero_add] at h1
    exact h1, zlookF (fin := false) [(55, 7, 8, (.object "RankWheels$Sightings")), (106, 5, 0, .int)] (List.forall_mem_cons.mpr ⟨⟨(RX7, TX7, 11), rfl, by decide, List.mem_cons_of_mem _ zw287, fun w h => List.mem_cons_of_mem _ (zX7 w h), by decide +kernel, fun h => by cases h⟩, List.forall_mem_cons.mpr ⟨⟨(RX5, TX5, 4), rfl, by decide, List.mem_cons_of_mem _ zw213, fun w h => List.mem_cons_of_mem _ (zX5 w h), by decide +kernel, fun h => by cases h⟩, fun _ h => absurd h List.not_mem_nil⟩⟩), zlookF (fin := true) [] (fun _ h => absurd h List.not_mem_nil), zlookup (β := Int32) (L := []) (P := fun ix b => Jvm.Cond.constant yX7_saw.cls ix b ∈ (zwd yX7_saw cX7_saw 4 (zret 1))) (fun _ h => absurd h List.not_mem_nil), zlookup (β := Int64) (L := []) (P := fun ix b => Jvm.Cond.constantLong yX7_saw.cls ix b ∈ (zwd yX7_saw cX7_saw 4 (zret 1))) (fun _ h => absurd h List.not_mem_nil), zlookup (β := Nat) (L := []) (P := fun ix b => zmok yX7_saw.cls (zwd yX7_saw cX7_saw 4 (zret 1)) ix b) (fun _ h => absurd h List.not_mem_nil)⟩
set_option maxRecDepth 20000 in
theorem sX7_saw (l : Launch) : ∀ (as : List Value) (ws : zW) (K : zP), zFr 4 (zGoes mX7_saw 1 4) as ws K → zMet l yX7_saw (zwd yX7_saw cX7_saw 4 (zret 1)) { frames := 3, cells := 0, slots := 0, locals := 600 } 1 as ws K := zFr_met (by decide +kernel) (by decide) (by decide) gX7_saw (fun p e s m args below meth c D cy ad A n0 Q S hKK hA => ⟨fun ix n G h => zlookup (β := Nat × zG) (L := [(127, 2, zFV 7 2 (zGoes mX7_isPlace 3 2)), (225, 4, zFV 5 4 (zGoes mX5_note 0 4))]) (P := fun ix b => zCO p l e { frames := 3, cells := 0, slots := 0, locals := 600 } s m args below meth c cX7_saw 4 D cy ad A n0 0 0 Q (.invokevirtual ix) b.1 b.2) (List.forall_mem_cons.mpr ⟨zco_V (ci := 7) S hKK hA ⟨Nat.zero_le _, Nat.zero_le _⟩ (cwV 1 S.2.2.2.2 (zgoodV zw405 zw407 zw9 zw49 zw408) rfl rfl rfl (by decide +kernel) (by decide +kernel)) rfl rfl (sX7_isPlace l), List.forall_mem_cons.mpr ⟨zco_V (ci := 5) S hKK hA ⟨Nat.zero_le _, Nat.zero_le _⟩ (cwV 3 S.2.2.2.2 (zgoodV zw622 zw623 zw624 zw54 zw625) rfl rfl rfl (by decide +kernel) (by decide +kernel)) rfl rfl (sX5_note l), fun _ h => absurd h List.not_mem_nil⟩⟩) ix (n, G) h, fun ix n G h => zlookup (β := Nat × zG) (L := [(71, 3, zFr 3 (zGoes mX7_within 3 3))]) (P := fun ix b => zCO p l e { frames := 3, cells := 0, slots := 0, locals := 600 } s m args below meth c cX7_saw 4 D cy ad A n0 0 0 Q (.invokestatic ix) b.1 b.2) (List.forall_mem_cons.mpr ⟨zco_S S hKK hA ⟨Nat.zero_le _, Nat.zero_le _⟩ (va_cwS 3 S.2.2.2.2 (zgoodS zw317 zw318 zw49 zw319) rfl rfl rfl (by decide +kernel) (by decide +kernel)) (sX7_within l), fun _ h => absurd h List.not_mem_nil⟩) ix (n, G) h⟩) (by decide)
def iX7_forget : List (Option zI) := [some (.aload_n 0, 0, 1, []), some (.getfield 55, 0, 4, []), none, none, some (.getfield 106, 0, 7, []), none, none, some (.istore_n 1, 0, 8, []), some (.aload_n 0, 0, 9, []), some (.getfield 55, 0, 12, []), none, none, some (.iconst 0, 0, 13, []), some (.putfield 106, 0, 16, []), none, none, some (.iload_n 1, 0, 17, []), some (.ireturn, 0, 18, [])]
def mX7_forget : zM := (iX7_forget, [(55, 7, 8, (.object "RankWheels$Sightings")), (106, 5, 0, .int)], [(106, 5, 0, .int)], [], [], [], [], [])
theorem kX7_forget : zchkL cX7_forget 0 iX7_forget = true := by decide +kernel
set_option maxRecDepth 20000 in
theorem gX7_forget : zGood mX7_forget cX7_forget yX7_forget.cls (zwd yX7_forget cX7_forget 2 (zret 1)) := ⟨fun pc x h => by
    have h1 := zchkL_at kX7_forget pc x h
    rw [Nat.zero_add] at h1
    exact h1, zlookF (fin := false) [(55, 7, 8, (.object "RankWheels$Sightings")), (106, 5, 0, .int)] (List.forall_mem_cons.mpr ⟨⟨(RX7, TX7, 11), rfl, by decide, List.mem_cons_of_mem _ zw287, fun w h => List.mem_cons_of_mem _ (zX7 w h), by decide +kernel, fun h => by cases h⟩, List.forall_mem_cons.mpr ⟨⟨(RX5, TX5, 4), rfl, by decide, List.mem_cons_of_mem _ zw213, fun w h => List.mem_cons_of_mem _ (zX5 w h), by decide +kernel, fun h => by cases h⟩, fun _ h => absurd h List.not_mem_nil⟩⟩), zlookF (fin := true) [(106, 5, 0, .int)] (List.forall_mem_cons.mpr ⟨⟨(RX5, TX5, 4), rfl, by decide, List.mem_cons_of_mem _ zw213, fun w h => List.mem_cons_of_mem _ (zX5 w h), by decide +kernel, fun _ => rfl⟩, fun _ h => absurd h List.not_mem_nil⟩), zlookup (β := Int32) (L := []) (P := fun ix b => Jvm.Cond.constant yX7_forget.cls ix b ∈ (zwd yX7_forget cX7_forget 2 (zret 1))) (fun _ h => absurd h List.not_mem_nil), zlookup (β := Int64) (L := []) (P := fun ix b => Jvm.Cond.constantLong yX7_forget.cls ix b ∈ (zwd yX7_forget cX7_forget 2 (zret 1))) (fun _ h => absurd h List.not_mem_nil), zlookup (β := Nat) (L := []) (P := fun ix b => zmok yX7_forget.cls (zwd yX7_forget cX7_forget 2 (zret 1)) ix b) (fun _ h => absurd h List.not_mem_nil)⟩
set_option maxRecDepth 20000 in
theorem sX7_forget (l : Launch) : ∀ (as : List Value) (ws : zW) (K : zP), zFr 1 (zGoes mX7_forget 1 2) as ws K → zMet l yX7_forget (zwd yX7_forget cX7_forget 2 (zret 1)) { frames := 1, cells := 0, slots := 0, locals := 200 } 1 as ws K := zFr_met (by decide +kernel) (by decide) (by decide) gX7_forget (fun p e s m args below meth c D cy ad A n0 Q S hKK hA => ⟨fun ix n G h => zlookup (β := Nat × zG) (L := []) (P := fun ix b => zCO p l e { frames := 1, cells := 0, slots := 0, locals := 200 } s m args below meth c cX7_forget 2 D cy ad A n0 0 0 Q (.invokevirtual ix) b.1 b.2) (fun _ h => absurd h List.not_mem_nil) ix (n, G) h, fun ix n G h => zlookup (β := Nat × zG) (L := []) (P := fun ix b => zCO p l e { frames := 1, cells := 0, slots := 0, locals := 200 } s m args below meth c cX7_forget 2 D cy ad A n0 0 0 Q (.invokestatic ix) b.1 b.2) (fun _ h => absurd h List.not_mem_nil) ix (n, G) h⟩) (by decide)
def iX7_tellsAllSeen : List (Option zI) := [some (.aload_n 0, 0, 1, []), some (.getfield 36, 0, 4, []), none, none, some (.aload_n 0, 0, 5, []), some (.getfield 32, 0, 8, []), none, none, some (.invokevirtual 202, 0, 11, []), none, none, some (.aload_n 0, 0, 12, []), some (.getfield 36, 0, 15, []), none, none, some (.iload_n 1, 0, 16, []), some (.iload_n 2, 0, 17, []), some (.invokevirtual 157, 0, 20, []), none, none, some (.aload_n 0, 0, 21, []), some (.getfield 55, 0, 24, []), none, none, some (.invokevirtual 266, 0, 27, []), none, none, some (.istore_n 3, 0, 28, []), some (.iconst 0, 0, 29, []), some (.istore 4, 0, 31, []), none, some (.iload 4, 0, 33, []), none, some (.iload_n 3, 0, 34, []), some (.if_icmp .gt 36, 0, 37, [70]), none, none, some (.aload_n 0, 0, 38, []), some (.getfield 55, 0, 41, []), none, none, some (.aload_n 0, 0, 42, []), some (.getfield 36, 0, 45, []), none, none, some (.iload 4, 0, 47, []), none, some (.invokevirtual 269, 0, 50, []), none, none, some (.ifCond .ne 5, 0, 53, [55]), none, none, some (.iconst 0, 0, 54, []), some (.ireturn, 0, 55, []), some (.aload_n 0, 0, 56, []), some (.getfield 36, 0, 59, []), none, none, some (.iconst (-1), (-1), 60, []), some (.invokevirtual 150, 0, 63, []), none, none, some (.pop, 0, 64, []), some (.iinc 4 1, 1, 67, []), none, none, some (.goto (-36), 0, 70, [31]), none, none, some (.iconst 1, 1, 71, []), some (.ireturn, 0, 72, [])]
def mX7_tellsAllSeen : zM := (iX7_tellsAllSeen, [(32, 7, 4, (.object "RankWheels$Line")), (36, 7, 5, (.object "RankWheels$Line")), (55, 7, 8, (.object "RankWheels$Sightings"))], [], [], [], [], [(150, 2, zFV 1 2 (zGoes mX1_wheelOnce 3 3)), (157, 3, zFV 1 3 (zGoes mX1_lose 0 3)), (202, 2, zFV 1 2 (zGoes mX1_copyFrom 0 2)), (266, 1, zFV 5 1 (zGoes mX5_lastPace 1 3)), (269, 3, zFV 5 3 (zGoes mX5_fit 3 4))], [])
theorem kX7_tellsAllSeen : zchkL cX7_tellsAllSeen 0 iX7_tellsAllSeen = true := by decide +kernel
set_option maxRecDepth 20000 in
theorem gX7_tellsAllSeen : zGood mX7_tellsAllSeen cX7_tellsAllSeen yX7_tellsAllSeen.cls (zwd yX7_tellsAllSeen cX7_tellsAllSeen 5 (zret 3)) := ⟨fun pc x h => by
    have h1 := zchkL_at kX7_tellsAllSeen pc x h
    rw [Nat.zero_add] at h1
    exact h1, zlookF (fin := false) [(32, 7, 4, (.object "RankWheels$Line")), (36, 7, 5, (.object "RankWheels$Line")), (55, 7, 8, (.object "RankWheels$Sightings"))] (List.forall_mem_cons.mpr ⟨⟨(RX7, TX7, 11), rfl, by decide, List.mem_cons_of_mem _ zw283, fun w h => List.mem_cons_of_mem _ (zX7 w h), by decide +kernel, fun h => by cases h⟩, List.forall_mem_cons.mpr ⟨⟨(RX7, TX7, 11), rfl, by decide, List.mem_cons_of_mem _ zw284, fun w h => List.mem_cons_of_mem _ (zX7 w h), by decide +kernel, fun h => by cases h⟩, List.forall_mem_cons.mpr ⟨⟨(RX7, TX7, 11), rfl, by decide, List.mem_cons_of_mem _ zw287, fun w h => List.mem_cons_of_mem _ (zX7 w h), by decide +kernel, fun h => by cases h⟩, fun _ h => absurd h List.not_mem_nil⟩⟩⟩), zlookF (fin := true) [] (fun _ h => absurd h List.not_mem_nil), zlookup (β := Int32) (L := []) (P := fun ix b => Jvm.Cond.constant yX7_tellsAllSeen.cls ix b ∈ (zwd yX7_tellsAllSeen cX7_tellsAllSeen 5 (zret 3))) (fun _ h => absurd h List.not_mem_nil), zlookup (β := Int64) (L := []) (P := fun ix b => Jvm.Cond.constantLong yX7_tellsAllSeen.cls ix b ∈ (zwd yX7_tellsAllSeen cX7_tellsAllSeen 5 (zret 3))) (fun _ h => absurd h List.not_mem_nil), zlookup (β := Nat) (L := []) (P := fun ix b => zmok yX7_tellsAllSeen.cls (zwd yX7_tellsAllSeen cX7_tellsAllSeen 5 (zret 3)) ix b) (fun _ h => absurd h List.not_mem_nil)⟩
set_option maxRecDepth 20000 in
theorem sX7_tellsAllSeen (l : Launch) : ∀ (as : List Value) (ws : zW) (K : zP), zFr 3 (zGoes mX7_tellsAllSeen 3 5) as ws K → zMet l yX7_tellsAllSeen (zwd yX7_tellsAllSeen cX7_tellsAllSeen 5 (zret 3)) { frames := 5, cells := 0, slots := 0, locals := 1000 } 3 as ws K := zFr_met (by decide +kernel) (by decide) (by decide) gX7_tellsAllSeen (fun p e s m args below meth c D cy ad A n0 Q S hKK hA => ⟨fun ix n G h => zlookup (β := Nat × zG) (L := [(150, 2, zFV 1 2 (zGoes mX1_wheelOnce 3 3)), (157, 3, zFV 1 3 (zGoes mX1_lose 0 3)), (202, 2, zFV 1 2 (zGoes mX1_copyFrom 0 2)), (266, 1, zFV 5 1 (zGoes mX5_lastPace 1 3)), (269, 3, zFV 5 3 (zGoes mX5_fit 3 4))]) (P := fun ix b => zCO p l e { frames := 5, cells := 0, slots := 0, locals := 1000 } s m args below meth c cX7_tellsAllSeen 5 D cy ad A n0 0 0 Q (.invokevirtual ix) b.1 b.2) (List.forall_mem_cons.mpr ⟨zco_V (ci := 1) S hKK hA ⟨Nat.zero_le _, Nat.zero_le _⟩ (cwV 1 S.2.2.2.2 (zgoodV zw433 zw434 zw435 zw52 zw436) rfl rfl rfl (by decide +kernel) (by decide +kernel)) rfl rfl (sX1_wheelOnce l), List.forall_mem_cons.mpr ⟨zco_V (ci := 1) S hKK hA ⟨Nat.zero_le _, Nat.zero_le _⟩ (cwV 2 S.2.2.2.2 (zgoodV zw473 zw474 zw475 zw52 zw476) rfl rfl rfl (by decide +kernel) (by decide +kernel)) rfl rfl (sX1_lose l), List.forall_mem_cons.mpr ⟨zco_V (ci := 1) S hKK hA ⟨Nat.zero_le _, Nat.zero_le _⟩ (cwV 1 S.2.2.2.2 (zgoodV zw529 zw429 zw430 zw52 zw431) rfl rfl rfl (by decide +kernel) (by decide +kernel)) rfl rfl (sX1_copyFrom l), List.forall_mem_cons.mpr ⟨zco_V (ci := 5) S hKK hA ⟨Nat.zero_le _, Nat.zero_le _⟩ (cwV 0 S.2.2.2.2 (zgoodV zw638 zw639 zw640 zw54 zw641) rfl rfl rfl (by decide +kernel) (by decide +kernel)) rfl rfl (sX5_lastPace l), List.forall_mem_cons.mpr ⟨zco_V (ci := 5) S hKK hA ⟨Nat.zero_le _, Nat.zero_le _⟩ (cwV 2 S.2.2.2.2 (zgoodV zw643 zw644 zw645 zw54 zw646) rfl rfl rfl (by decide +kernel) (by decide +kernel)) rfl rfl (sX5_fit l), fun _ h => absurd h List.not_mem_nil⟩⟩⟩⟩⟩) ix (n, G) h, fun ix n G h => zlookup (β := Nat × zG) (L := []) (P := fun ix b => zCO p l e { frames := 5, cells := 0, slots := 0, locals := 1000 } s m args below meth c cX7_tellsAllSeen 5 D cy ad A n0 0 0 Q (.invokestatic ix) b.1 b.2) (fun _ h => absurd h List.not_mem_nil) ix (n, G) h⟩) (by decide)
def iX7_whose : List (Option zI) := [some (.iload_n 1, 0, 1, []), some (.iconst 0, 0, 2, []), some (.iconst 2, 2, 3, []), some (.invokestatic 71, 0, 6, []), none, none, some (.ifCond .ne 7, 0, 9, [13]), none, none, some (.sipush (-1001), (-1001), 12, []), none, none, some (.ireturn, 0, 13, []), some (.iconst 0, 0, 14, []), some (.istore_n 2, 0, 15, []), some (.sipush (-1009), (-1009), 18, []), none, none, some (.istore_n 3, 0, 19, []), some (.iconst 0, 0, 20, []), some (.istore 4, 0, 22, []), none, some (.iconst 0, 0, 23, []), some (.istore 5, 0, 25, []), none, some (.iload 5, 0, 27, []), none, some (.aload_n 0, 0, 28, []), some (.getfield 23, 0, 31, []), none, none, some (.getfield 114, 0, 34, []), none, none, some (.if_icmp .ge 68, 0, 37, [102]), none, none, some (.iconst 1, 1, 38, []), some (.istore 6, 0, 40, []), none, some (.iload 6, 0, 42, []), none, some (.bipush 40, 40, 44, []), none, some (.if_icmp .gt 52, 0, 47, [96]), none, none, some (.aload_n 0, 0, 48, []), some (.iload 5, 0, 50, []), none, some (.iload 6, 0, 52, []), none, some (.invokevirtual 228, 0, 55, []), none, none, some (.ifCond .eq 35, 0, 58, [90]), none, none, some (.iinc 2 1, 1, 61, []), none, none, some (.iload_n 3, 0, 62, []), some (.sipush (-1009), (-1009), 65, []), none, none, some (.if_icmp .ne 14, 0, 68, [79]), none, none, some (.bipush 100, 100, 70, []), none, some (.iload 5, 0, 72, []), none, some (.imul, 0, 73, []), some (.iload 6, 0, 75, []), none, some (.iadd, 0, 76, []), some (.goto 4, 0, 79, [80]), none, none, some (.iload_n 3, 0, 80, []), some (.istore_n 3, 0, 81, []), some (.iload 4, 0, 83, []), none, some (.iconst 1, 1, 84, []), some (.iload 5, 0, 86, []), none, some (.ishl, 0, 87, []), some (.ior, 0, 88, []), some (.istore 4, 0, 90, []), none, some (.iinc 6 1, 1, 93, []), none, none, some (.goto (-53), 0, 96, [40]), none, none, some (.iinc 5 1, 1, 99, []), none, none, some (.goto (-74), 0, 102, [25]), none, none, some (.iload_n 1, 0, 103, []), some (.ifCond .ne 5, 0, 106, [108]), none, none, some (.iload_n 2, 0, 107, []), some (.ireturn, 0, 108, []), some (.iload_n 1, 0, 109, []), some (.iconst 1, 1, 110, []), some (.if_icmp .ne 7, 0, 113, [117]), none, none, some (.iload_n 3, 0, 114, []), some (.goto 5, 0, 117, [119]), none, none, some (.iload 4, 0, 119, []), none, some (.ireturn, 0, 120, [])]
def mX7_whose : zM := (iX7_whose, [(23, 7, 3, (.object "RankWheels$Men")), (114, 2, 0, .int)], [], [], [], [], [(228, 3, zFV 7 3 (zGoes mX7_tellsAllSeen 3 5))], [(71, 3, zFr 3 (zGoes mX7_within 3 3))])
theorem kX7_whose : zchkL cX7_whose 0 iX7_whose = true := by decide +kernel
set_option maxRecDepth 20000 in
theorem gX7_whose : zGood mX7_whose cX7_whose yX7_whose.cls (zwd yX7_whose cX7_whose 7 (zret 1)) := ⟨fun pc x h => by
    have h1 := zchkL_at kX7_whose pc x h
    rw [Nat.zero_add] at h1
    exact h1, zlookF (fin := false) [(23, 7, 3, (.object "RankWheels$Men")), (114, 2, 0, .int)] (List.forall_mem_cons.mpr ⟨⟨(RX7, TX7, 11), rfl, by decide, List.mem_cons_of_mem _ zw282, fun w h => List.mem_cons_of_mem _ (zX7 w h), by decide +kernel, fun h => by cases h⟩, List.forall_mem_cons.mpr ⟨⟨(RX2, TX2, 3), rfl, by decide, List.mem_cons_of_mem _ zw84, fun w h => List.mem_cons_of_mem _ (zX2 w h), by decide +kernel, fun h => by cases h⟩, fun _ h => absurd h List.not_mem_nil⟩⟩), zlookF (fin := true) [] (fun _ h => absurd h List.not_mem_nil), zlookup (β := Int32) (L := []) (P := fun ix b => Jvm.Cond.constant yX7_whose.cls ix b ∈ (zwd yX7_whose cX7_whose 7 (zret 1))) (fun _ h => absurd h List.not_mem_nil), zlookup (β := Int64) (L := []) (P := fun ix b => Jvm.Cond.constantLong yX7_whose.cls ix b ∈ (zwd yX7_whose cX7_whose 7 (zret 1))) (fun _ h => absurd h List.not_mem_nil), zlookup (β := Nat) (L := []) (P := fun ix b => zmok yX7_whose.cls (zwd yX7_whose cX7_whose 7 (zret 1)) ix b) (fun _ h => absurd h List.not_mem_nil)⟩
set_option maxRecDepth 20000 in
theorem sX7_whose (l : Launch) : ∀ (as : List Value) (ws : zW) (K : zP), zFr 2 (zGoes mX7_whose 1 7) as ws K → zMet l yX7_whose (zwd yX7_whose cX7_whose 7 (zret 1)) { frames := 6, cells := 0, slots := 0, locals := 1200 } 1 as ws K := zFr_met (by decide +kernel) (by decide) (by decide) gX7_whose (fun p e s m args below meth c D cy ad A n0 Q S hKK hA => ⟨fun ix n G h => zlookup (β := Nat × zG) (L := [(228, 3, zFV 7 3 (zGoes mX7_tellsAllSeen 3 5))]) (P := fun ix b => zCO p l e { frames := 6, cells := 0, slots := 0, locals := 1200 } s m args below meth c cX7_whose 7 D cy ad A n0 0 0 Q (.invokevirtual ix) b.1 b.2) (List.forall_mem_cons.mpr ⟨zco_V (ci := 7) S hKK hA ⟨Nat.zero_le _, Nat.zero_le _⟩ (cwV 2 S.2.2.2.2 (zgoodV zw634 zw636 zw22 zw49 zw637) rfl rfl rfl (by decide +kernel) (by decide +kernel)) rfl rfl (sX7_tellsAllSeen l), fun _ h => absurd h List.not_mem_nil⟩) ix (n, G) h, fun ix n G h => zlookup (β := Nat × zG) (L := [(71, 3, zFr 3 (zGoes mX7_within 3 3))]) (P := fun ix b => zCO p l e { frames := 6, cells := 0, slots := 0, locals := 1200 } s m args below meth c cX7_whose 7 D cy ad A n0 0 0 Q (.invokestatic ix) b.1 b.2) (List.forall_mem_cons.mpr ⟨zco_S S hKK hA ⟨Nat.zero_le _, Nat.zero_le _⟩ (va_cwS 3 S.2.2.2.2 (zgoodS zw317 zw318 zw49 zw319) rfl rfl rfl (by decide +kernel) (by decide +kernel)) (sX7_within l), fun _ h => absurd h List.not_mem_nil⟩) ix (n, G) h⟩) (by decide)
def iX7_rateOfStep : List (Option zI) := [some (.aload_n 0, 0, 1, []), some (.dup, 0, 2, []), some (.getfield 256, 0, 5, []), none, none, some (.lconst 1, 0, 6, []), some (.ladd, 0, 7, []), some (.putfield 256, 0, 10, []), none, none, some (.aload_n 0, 0, 11, []), some (.getfield 32, 0, 14, []), none, none, some (.iload_n 1, 0, 15, []), some (.invokevirtual 140, 0, 18, []), none, none, some (.ireturn, 0, 19, [])]
def mX7_rateOfStep : zM := (iX7_rateOfStep, [(32, 7, 4, (.object "RankWheels$Line")), (256, 7, 10, .long)], [(256, 7, 10, .long)], [], [], [], [(140, 2, zFV 1 2 (zGoes mX1_wants 1 2))], [])
theorem kX7_rateOfStep : zchkL cX7_rateOfStep 0 iX7_rateOfStep = true := by decide +kernel
set_option maxRecDepth 20000 in
theorem gX7_rateOfStep : zGood mX7_rateOfStep cX7_rateOfStep yX7_rateOfStep.cls (zwd yX7_rateOfStep cX7_rateOfStep 2 (zret 1)) := ⟨fun pc x h => by
    have h1 := zchkL_at kX7_rateOfStep pc x h
    rw [Nat.zero_add] at h1
    exact h1, zlookF (fin := false) [(32, 7, 4, (.object "RankWheels$Line")), (256, 7, 10, .long)] (List.forall_mem_cons.mpr ⟨⟨(RX7, TX7, 11), rfl, by decide, List.mem_cons_of_mem _ zw283, fun w h => List.mem_cons_of_mem _ (zX7 w h), by decide +kernel, fun h => by cases h⟩, List.forall_mem_cons.mpr ⟨⟨(RX7, TX7, 11), rfl, by decide, List.mem_cons_of_mem _ zw289, fun w h => List.mem_cons_of_mem _ (zX7 w h), by decide +kernel, fun h => by cases h⟩, fun _ h => absurd h List.not_mem_nil⟩⟩), zlookF (fin := true) [(256, 7, 10, .long)] (List.forall_mem_cons.mpr ⟨⟨(RX7, TX7, 11), rfl, by decide, List.mem_cons_of_mem _ zw289, fun w h => List.mem_cons_of_mem _ (zX7 w h), by decide +kernel, fun _ => rfl⟩, fun _ h => absurd h List.not_mem_nil⟩), zlookup (β := Int32) (L := []) (P := fun ix b => Jvm.Cond.constant yX7_rateOfStep.cls ix b ∈ (zwd yX7_rateOfStep cX7_rateOfStep 2 (zret 1))) (fun _ h => absurd h List.not_mem_nil), zlookup (β := Int64) (L := []) (P := fun ix b => Jvm.Cond.constantLong yX7_rateOfStep.cls ix b ∈ (zwd yX7_rateOfStep cX7_rateOfStep 2 (zret 1))) (fun _ h => absurd h List.not_mem_nil), zlookup (β := Nat) (L := []) (P := fun ix b => zmok yX7_rateOfStep.cls (zwd yX7_rateOfStep cX7_rateOfStep 2 (zret 1)) ix b) (fun _ h => absurd h List.not_mem_nil)⟩
set_option maxRecDepth 20000 in
theorem sX7_rateOfStep (l : Launch) : ∀ (as : List Value) (ws : zW) (K : zP), zFr 2 (zGoes mX7_rateOfStep 1 2) as ws K → zMet l yX7_rateOfStep (zwd yX7_rateOfStep cX7_rateOfStep 2 (zret 1)) { frames := 3, cells := 0, slots := 0, locals := 600 } 1 as ws K := zFr_met (by decide +kernel) (by decide) (by decide) gX7_rateOfStep (fun p e s m args below meth c D cy ad A n0 Q S hKK hA => ⟨fun ix n G h => zlookup (β := Nat × zG) (L := [(140, 2, zFV 1 2 (zGoes mX1_wants 1 2))]) (P := fun ix b => zCO p l e { frames := 3, cells := 0, slots := 0, locals := 600 } s m args below meth c cX7_rateOfStep 2 D cy ad A n0 0 0 Q (.invokevirtual ix) b.1 b.2) (List.forall_mem_cons.mpr ⟨zco_V (ci := 1) S hKK hA ⟨Nat.zero_le _, Nat.zero_le _⟩ (cwV 1 S.2.2.2.2 (zgoodV zw409 zw410 zw411 zw52 zw412) rfl rfl rfl (by decide +kernel) (by decide +kernel)) rfl rfl (sX1_wants l), fun _ h => absurd h List.not_mem_nil⟩) ix (n, G) h, fun ix n G h => zlookup (β := Nat × zG) (L := []) (P := fun ix b => zCO p l e { frames := 3, cells := 0, slots := 0, locals := 600 } s m args below meth c cX7_rateOfStep 2 D cy ad A n0 0 0 Q (.invokestatic ix) b.1 b.2) (fun _ h => absurd h List.not_mem_nil) ix (n, G) h⟩) (by decide)
def iX7_rateOfShort : List (Option zI) := [some (.aload_n 0, 0, 1, []), some (.dup, 0, 2, []), some (.getfield 256, 0, 5, []), none, none, some (.ldc2_w 273, 0, 8, []), none, none, some (.ladd, 0, 9, []), some (.putfield 256, 0, 12, []), none, none, some (.aload_n 0, 0, 13, []), some (.iload_n 1, 0, 14, []), some (.invokevirtual 233, 0, 17, []), none, none, some (.aload_n 0, 0, 18, []), some (.getfield 32, 0, 21, []), none, none, some (.iload_n 1, 0, 22, []), some (.invokevirtual 263, 0, 25, []), none, none, some (.iadd, 0, 26, []), some (.ireturn, 0, 27, [])]
def mX7_rateOfShort : zM := (iX7_rateOfShort, [(32, 7, 4, (.object "RankWheels$Line")), (256, 7, 10, .long)], [(256, 7, 10, .long)], [], [(273, 10)], [], [(233, 2, zFV 7 2 (zGoes mX7_rateOfStep 1 2)), (263, 2, zFV 1 2 (zGoes mX1_legAt 1 2))], [])
theorem kX7_rateOfShort : zchkL cX7_rateOfShort 0 iX7_rateOfShort = true := by decide +kernel
set_option maxRecDepth 20000 in
theorem gX7_rateOfShort : zGood mX7_rateOfShort cX7_rateOfShort yX7_rateOfShort.cls (zwd yX7_rateOfShort cX7_rateOfShort 2 (zret 1)) := ⟨fun pc x h => by
    have h1 := zchkL_at kX7_rateOfShort pc x h
    rw [Nat.zero_add] at h1
    exact h1, zlookF (fin := false) [(32, 7, 4, (.object "RankWheels$Line")), (256, 7, 10, .long)] (List.forall_mem_cons.mpr ⟨⟨(RX7, TX7, 11), rfl, by decide, List.mem_cons_of_mem _ zw283, fun w h => List.mem_cons_of_mem _ (zX7 w h), by decide +kernel, fun h => by cases h⟩, List.forall_mem_cons.mpr ⟨⟨(RX7, TX7, 11), rfl, by decide, List.mem_cons_of_mem _ zw289, fun w h => List.mem_cons_of_mem _ (zX7 w h), by decide +kernel, fun h => by cases h⟩, fun _ h => absurd h List.not_mem_nil⟩⟩), zlookF (fin := true) [(256, 7, 10, .long)] (List.forall_mem_cons.mpr ⟨⟨(RX7, TX7, 11), rfl, by decide, List.mem_cons_of_mem _ zw289, fun w h => List.mem_cons_of_mem _ (zX7 w h), by decide +kernel, fun _ => rfl⟩, fun _ h => absurd h List.not_mem_nil⟩), zlookup (β := Int32) (L := []) (P := fun ix b => Jvm.Cond.constant yX7_rateOfShort.cls ix b ∈ (zwd yX7_rateOfShort cX7_rateOfShort 2 (zret 1))) (fun _ h => absurd h List.not_mem_nil), zlookup (β := Int64) (L := [(273, 10)]) (P := fun ix b => Jvm.Cond.constantLong yX7_rateOfShort.cls ix b ∈ (zwd yX7_rateOfShort cX7_rateOfShort 2 (zret 1))) (List.forall_mem_cons.mpr ⟨List.mem_cons_of_mem _ zw660, fun _ h => absurd h List.not_mem_nil⟩), zlookup (β := Nat) (L := []) (P := fun ix b => zmok yX7_rateOfShort.cls (zwd yX7_rateOfShort cX7_rateOfShort 2 (zret 1)) ix b) (fun _ h => absurd h List.not_mem_nil)⟩
set_option maxRecDepth 20000 in
theorem sX7_rateOfShort (l : Launch) : ∀ (as : List Value) (ws : zW) (K : zP), zFr 2 (zGoes mX7_rateOfShort 1 2) as ws K → zMet l yX7_rateOfShort (zwd yX7_rateOfShort cX7_rateOfShort 2 (zret 1)) { frames := 4, cells := 0, slots := 0, locals := 800 } 1 as ws K := zFr_met (by decide +kernel) (by decide) (by decide) gX7_rateOfShort (fun p e s m args below meth c D cy ad A n0 Q S hKK hA => ⟨fun ix n G h => zlookup (β := Nat × zG) (L := [(233, 2, zFV 7 2 (zGoes mX7_rateOfStep 1 2)), (263, 2, zFV 1 2 (zGoes mX1_legAt 1 2))]) (P := fun ix b => zCO p l e { frames := 4, cells := 0, slots := 0, locals := 800 } s m args below meth c cX7_rateOfShort 2 D cy ad A n0 0 0 Q (.invokevirtual ix) b.1 b.2) (List.forall_mem_cons.mpr ⟨zco_V (ci := 7) S hKK hA ⟨Nat.zero_le _, Nat.zero_le _⟩ (cwV 1 S.2.2.2.2 (zgoodV zw652 zw654 zw23 zw49 zw655) rfl rfl rfl (by decide +kernel) (by decide +kernel)) rfl rfl (sX7_rateOfStep l), List.forall_mem_cons.mpr ⟨zco_V (ci := 1) S hKK hA ⟨Nat.zero_le _, Nat.zero_le _⟩ (cwV 1 S.2.2.2.2 (zgoodV zw551 zw447 zw448 zw52 zw449) rfl rfl rfl (by decide +kernel) (by decide +kernel)) rfl rfl (sX1_legAt l), fun _ h => absurd h List.not_mem_nil⟩⟩) ix (n, G) h, fun ix n G h => zlookup (β := Nat × zG) (L := []) (P := fun ix b => zCO p l e { frames := 4, cells := 0, slots := 0, locals := 800 } s m args below meth c cX7_rateOfShort 2 D cy ad A n0 0 0 Q (.invokestatic ix) b.1 b.2) (fun _ h => absurd h List.not_mem_nil) ix (n, G) h⟩) (by decide)
def iX7_rateOfSeen : List (Option zI) := [some (.aload_n 0, 0, 1, []), some (.dup, 0, 2, []), some (.getfield 256, 0, 5, []), none, none, some (.ldc2_w 275, 0, 8, []), none, none, some (.ladd, 0, 9, []), some (.putfield 256, 0, 12, []), none, none, some (.aload_n 0, 0, 13, []), some (.iload_n 1, 0, 14, []), some (.invokevirtual 233, 0, 17, []), none, none, some (.aload_n 0, 0, 18, []), some (.getfield 32, 0, 21, []), none, none, some (.getfield 134, 0, 24, []), none, none, some (.iload_n 1, 0, 25, []), some (.iaload, 0, 26, []), some (.isub, 0, 27, []), some (.ireturn, 0, 28, [])]
def mX7_rateOfSeen : zM := (iX7_rateOfSeen, [(32, 7, 4, (.object "RankWheels$Line")), (134, 1, 2, (.array .int)), (256, 7, 10, .long)], [(256, 7, 10, .long)], [], [(275, 100)], [], [(233, 2, zFV 7 2 (zGoes mX7_rateOfStep 1 2))], [])
theorem kX7_rateOfSeen : zchkL cX7_rateOfSeen 0 iX7_rateOfSeen = true := by decide +kernel
set_option maxRecDepth 20000 in
theorem gX7_rateOfSeen : zGood mX7_rateOfSeen cX7_rateOfSeen yX7_rateOfSeen.cls (zwd yX7_rateOfSeen cX7_rateOfSeen 2 (zret 1)) := ⟨fun pc x h => by
    have h1 := zchkL_at kX7_rateOfSeen pc x h
    rw [Nat.zero_add] at h1
    exact h1, zlookF (fin := false) [(32, 7, 4, (.object "RankWheels$Line")), (134, 1, 2, (.array .int)), (256, 7, 10, .long)] (List.forall_mem_cons.mpr ⟨⟨(RX7, TX7, 11), rfl, by decide, List.mem_cons_of_mem _ zw283, fun w h => List.mem_cons_of_mem _ (zX7 w h), by decide +kernel, fun h => by cases h⟩, List.forall_mem_cons.mpr ⟨⟨(RX1, TX1, 8), rfl, by decide, List.mem_cons_of_mem _ zw159, fun w h => List.mem_cons_of_mem _ (zX1 w h), by decide +kernel, fun h => by cases h⟩, List.forall_mem_cons.mpr ⟨⟨(RX7, TX7, 11), rfl, by decide, List.mem_cons_of_mem _ zw289, fun w h => List.mem_cons_of_mem _ (zX7 w h), by decide +kernel, fun h => by cases h⟩, fun _ h => absurd h List.not_mem_nil⟩⟩⟩), zlookF (fin := true) [(256, 7, 10, .long)] (List.forall_mem_cons.mpr ⟨⟨(RX7, TX7, 11), rfl, by decide, List.mem_cons_of_mem _ zw289, fun w h => List.mem_cons_of_mem _ (zX7 w h), by decide +kernel, fun _ => rfl⟩, fun _ h => absurd h List.not_mem_nil⟩), zlookup (β := Int32) (L := []) (P := fun ix b => Jvm.Cond.constant yX7_rateOfSeen.cls ix b ∈ (zwd yX7_rateOfSeen cX7_rateOfSeen 2 (zret 1))) (fun _ h => absurd h List.not_mem_nil), zlookup (β := Int64) (L := [(275, 100)]) (P := fun ix b => Jvm.Cond.constantLong yX7_rateOfSeen.cls ix b ∈ (zwd yX7_rateOfSeen cX7_rateOfSeen 2 (zret 1))) (List.forall_mem_cons.mpr ⟨List.mem_cons_of_mem _ zw665, fun _ h => absurd h List.not_mem_nil⟩), zlookup (β := Nat) (L := []) (P := fun ix b => zmok yX7_rateOfSeen.cls (zwd yX7_rateOfSeen cX7_rateOfSeen 2 (zret 1)) ix b) (fun _ h => absurd h List.not_mem_nil)⟩
set_option maxRecDepth 20000 in
theorem sX7_rateOfSeen (l : Launch) : ∀ (as : List Value) (ws : zW) (K : zP), zFr 2 (zGoes mX7_rateOfSeen 1 2) as ws K → zMet l yX7_rateOfSeen (zwd yX7_rateOfSeen cX7_rateOfSeen 2 (zret 1)) { frames := 4, cells := 0, slots := 0, locals := 800 } 1 as ws K := zFr_met (by decide +kernel) (by decide) (by decide) gX7_rateOfSeen (fun p e s m args below meth c D cy ad A n0 Q S hKK hA => ⟨fun ix n G h => zlookup (β := Nat × zG) (L := [(233, 2, zFV 7 2 (zGoes mX7_rateOfStep 1 2))]) (P := fun ix b => zCO p l e { frames := 4, cells := 0, slots := 0, locals := 800 } s m args below meth c cX7_rateOfSeen 2 D cy ad A n0 0 0 Q (.invokevirtual ix) b.1 b.2) (List.forall_mem_cons.mpr ⟨zco_V (ci := 7) S hKK hA ⟨Nat.zero_le _, Nat.zero_le _⟩ (cwV 1 S.2.2.2.2 (zgoodV zw652 zw654 zw23 zw49 zw655) rfl rfl rfl (by decide +kernel) (by decide +kernel)) rfl rfl (sX7_rateOfStep l), fun _ h => absurd h List.not_mem_nil⟩) ix (n, G) h, fun ix n G h => zlookup (β := Nat × zG) (L := []) (P := fun ix b => zCO p l e { frames := 4, cells := 0, slots := 0, locals := 800 } s m args below meth c cX7_rateOfSeen 2 D cy ad A n0 0 0 Q (.invokestatic ix) b.1 b.2) (fun _ h => absurd h List.not_mem_nil) ix (n, G) h⟩) (by decide)
def iX7_rateOfMarked : List (Option zI) := [some (.aload_n 0, 0, 1, []), some (.dup, 0, 2, []), some (.getfield 256, 0, 5, []), none, none, some (.ldc2_w 277, 0, 8, []), none, none, some (.ladd, 0, 9, []), some (.putfield 256, 0, 12, []), none, none, some (.aload_n 0, 0, 13, []), some (.iload_n 1, 0, 14, []), some (.invokevirtual 236, 0, 17, []), none, none, some (.iconst 2, 2, 18, []), some (.imul, 0, 19, []), some (.ireturn, 0, 20, [])]
def mX7_rateOfMarked : zM := (iX7_rateOfMarked, [(256, 7, 10, .long)], [(256, 7, 10, .long)], [], [(277, 1000)], [], [(236, 2, zFV 7 2 (zGoes mX7_rateOfShort 1 2))], [])
theorem kX7_rateOfMarked : zchkL cX7_rateOfMarked 0 iX7_rateOfMarked = true := by decide +kernel
set_option maxRecDepth 20000 in
theorem gX7_rateOfMarked : zGood mX7_rateOfMarked cX7_rateOfMarked yX7_rateOfMarked.cls (zwd yX7_rateOfMarked cX7_rateOfMarked 2 (zret 1)) := ⟨fun pc x h => by
    have h1 := zchkL_at kX7_rateOfMarked pc x h
    rw [Nat.zero_add] at h1
    exact h1, zlookF (fin := false) [(256, 7, 10, .long)] (List.forall_mem_cons.mpr ⟨⟨(RX7, TX7, 11), rfl, by decide, List.mem_cons_of_mem _ zw289, fun w h => List.mem_cons_of_mem _ (zX7 w h), by decide +kernel, fun h => by cases h⟩, fun _ h => absurd h List.not_mem_nil⟩), zlookF (fin := true) [(256, 7, 10, .long)] (List.forall_mem_cons.mpr ⟨⟨(RX7, TX7, 11), rfl, by decide, List.mem_cons_of_mem _ zw289, fun w h => List.mem_cons_of_mem _ (zX7 w h), by decide +kernel, fun _ => rfl⟩, fun _ h => absurd h List.not_mem_nil⟩), zlookup (β := Int32) (L := []) (P := fun ix b => Jvm.Cond.constant yX7_rateOfMarked.cls ix b ∈ (zwd yX7_rateOfMarked cX7_rateOfMarked 2 (zret 1))) (fun _ h => absurd h List.not_mem_nil), zlookup (β := Int64) (L := [(277, 1000)]) (P := fun ix b => Jvm.Cond.constantLong yX7_rateOfMarked.cls ix b ∈ (zwd yX7_rateOfMarked cX7_rateOfMarked 2 (zret 1))) (List.forall_mem_cons.mpr ⟨List.mem_cons_of_mem _ zw670, fun _ h => absurd h List.not_mem_nil⟩), zlookup (β := Nat) (L := []) (P := fun ix b => zmok yX7_rateOfMarked.cls (zwd yX7_rateOfMarked cX7_rateOfMarked 2 (zret 1)) ix b) (fun _ h => absurd h List.not_mem_nil)⟩
set_option maxRecDepth 20000 in
theorem sX7_rateOfMarked (l : Launch) : ∀ (as : List Value) (ws : zW) (K : zP), zFr 2 (zGoes mX7_rateOfMarked 1 2) as ws K → zMet l yX7_rateOfMarked (zwd yX7_rateOfMarked cX7_rateOfMarked 2 (zret 1)) { frames := 5, cells := 0, slots := 0, locals := 1000 } 1 as ws K := zFr_met (by decide +kernel) (by decide) (by decide) gX7_rateOfMarked (fun p e s m args below meth c D cy ad A n0 Q S hKK hA => ⟨fun ix n G h => zlookup (β := Nat × zG) (L := [(236, 2, zFV 7 2 (zGoes mX7_rateOfShort 1 2))]) (P := fun ix b => zCO p l e { frames := 5, cells := 0, slots := 0, locals := 1000 } s m args below meth c cX7_rateOfMarked 2 D cy ad A n0 0 0 Q (.invokevirtual ix) b.1 b.2) (List.forall_mem_cons.mpr ⟨zco_V (ci := 7) S hKK hA ⟨Nat.zero_le _, Nat.zero_le _⟩ (cwV 1 S.2.2.2.2 (zgoodV zw656 zw658 zw24 zw49 zw659) rfl rfl rfl (by decide +kernel) (by decide +kernel)) rfl rfl (sX7_rateOfShort l), fun _ h => absurd h List.not_mem_nil⟩) ix (n, G) h, fun ix n G h => zlookup (β := Nat × zG) (L := []) (P := fun ix b => zCO p l e { frames := 5, cells := 0, slots := 0, locals := 1000 } s m args below meth c cX7_rateOfMarked 2 D cy ad A n0 0 0 Q (.invokestatic ix) b.1 b.2) (fun _ h => absurd h List.not_mem_nil) ix (n, G) h⟩) (by decide)
end
section
def iX7_rateOfBulging : List (Option zI) := [some (.aload_n 0, 0, 1, []), some (.dup, 0, 2, []), some (.getfield 256, 0, 5, []), none, none, some (.ldc2_w 279, 0, 8, []), none, none, some (.ladd, 0, 9, []), some (.putfield 256, 0, 12, []), none, none, some (.aload_n 0, 0, 13, []), some (.iload_n 1, 0, 14, []), some (.invokevirtual 239, 0, 17, []), none, none, some (.aload_n 0, 0, 18, []), some (.getfield 32, 0, 21, []), none, none, some (.invokevirtual 153, 0, 24, []), none, none, some (.iadd, 0, 25, []), some (.ireturn, 0, 26, [])]
def mX7_rateOfBulging : zM := (iX7_rateOfBulging, [(32, 7, 4, (.object "RankWheels$Line")), (256, 7, 10, .long)], [(256, 7, 10, .long)], [], [(279, 10000)], [], [(153, 1, zFV 1 1 (zGoes mX1_bulge 1 3)), (239, 2, zFV 7 2 (zGoes mX7_rateOfSeen 1 2))], [])
theorem kX7_rateOfBulging : zchkL cX7_rateOfBulging 0 iX7_rateOfBulging = true := by decide +kernel
set_option maxRecDepth 20000 in
theorem gX7_rateOfBulging : zGood mX7_rateOfBulging cX7_rateOfBulging yX7_rateOfBulging.cls (zwd yX7_rateOfBulging cX7_rateOfBulging 2 (zret 1)) := ⟨fun pc x h => by
    have h1 := zchkL_at kX7_rateOfBulging pc x h
    rw [Nat.zero_add] at h1
    exact h1, zlookF (fin := false) [(32, 7, 4, (.object "RankWheels$Line")), (256, 7, 10, .long)] (List.forall_mem_cons.mpr ⟨⟨(RX7, TX7, 11), rfl, by decide, List.mem_cons_of_mem _ zw283, fun w h => List.mem_cons_of_mem _ (zX7 w h), by decide +kernel, fun h => by cases h⟩, List.forall_mem_cons.mpr ⟨⟨(RX7, TX7, 11), rfl, by decide, List.mem_cons_of_mem _ zw289, fun w h => List.mem_cons_of_mem _ (zX7 w h), by decide +kernel, fun h => by cases h⟩, fun _ h => absurd h List.not_mem_nil⟩⟩), zlookF (fin := true) [(256, 7, 10, .long)] (List.forall_mem_cons.mpr ⟨⟨(RX7, TX7, 11), rfl, by decide, List.mem_cons_of_mem _ zw289, fun w h => List.mem_cons_of_mem _ (zX7 w h), by decide +kernel, fun _ => rfl⟩, fun _ h => absurd h List.not_mem_nil⟩), zlookup (β := Int32) (L := []) (P := fun ix b => Jvm.Cond.constant yX7_rateOfBulging.cls ix b ∈ (zwd yX7_rateOfBulging cX7_rateOfBulging 2 (zret 1))) (fun _ h => absurd h List.not_mem_nil), zlookup (β := Int64) (L := [(279, 10000)]) (P := fun ix b => Jvm.Cond.constantLong yX7_rateOfBulging.cls ix b ∈ (zwd yX7_rateOfBulging cX7_rateOfBulging 2 (zret 1))) (List.forall_mem_cons.mpr ⟨List.mem_cons_of_mem _ zw675, fun _ h => absurd h List.not_mem_nil⟩), zlookup (β := Nat) (L := []) (P := fun ix b => zmok yX7_rateOfBulging.cls (zwd yX7_rateOfBulging cX7_rateOfBulging 2 (zret 1)) ix b) (fun _ h => absurd h List.not_mem_nil)⟩
set_option maxRecDepth 20000 in
theorem sX7_rateOfBulging (l : Launch) : ∀ (as : List Value) (ws : zW) (K : zP), zFr 2 (zGoes mX7_rateOfBulging 1 2) as ws K → zMet l yX7_rateOfBulging (zwd yX7_rateOfBulging cX7_rateOfBulging 2 (zret 1)) { frames := 5, cells := 0, slots := 0, locals := 1000 } 1 as ws K := zFr_met (by decide +kernel) (by decide) (by decide) gX7_rateOfBulging (fun p e s m args below meth c D cy ad A n0 Q S hKK hA => ⟨fun ix n G h => zlookup (β := Nat × zG) (L := [(153, 1, zFV 1 1 (zGoes mX1_bulge 1 3)), (239, 2, zFV 7 2 (zGoes mX7_rateOfSeen 1 2))]) (P := fun ix b => zCO p l e { frames := 5, cells := 0, slots := 0, locals := 1000 } s m args below meth c cX7_rateOfBulging 2 D cy ad A n0 0 0 Q (.invokevirtual ix) b.1 b.2) (List.forall_mem_cons.mpr ⟨zco_V (ci := 1) S hKK hA ⟨Nat.zero_le _, Nat.zero_le _⟩ (cwV 0 S.2.2.2.2 (zgoodV zw458 zw459 zw460 zw52 zw461) rfl rfl rfl (by decide +kernel) (by decide +kernel)) rfl rfl (sX1_bulge l), List.forall_mem_cons.mpr ⟨zco_V (ci := 7) S hKK hA ⟨Nat.zero_le _, Nat.zero_le _⟩ (cwV 1 S.2.2.2.2 (zgoodV zw661 zw663 zw25 zw49 zw664) rfl rfl rfl (by decide +kernel) (by decide +kernel)) rfl rfl (sX7_rateOfSeen l), fun _ h => absurd h List.not_mem_nil⟩⟩) ix (n, G) h, fun ix n G h => zlookup (β := Nat × zG) (L := []) (P := fun ix b => zCO p l e { frames := 5, cells := 0, slots := 0, locals := 1000 } s m args below meth c cX7_rateOfBulging 2 D cy ad A n0 0 0 Q (.invokestatic ix) b.1 b.2) (fun _ h => absurd h List.not_mem_nil) ix (n, G) h⟩) (by decide)
def iX7_rateOfHopped : List (Option zI) := [some (.aload_n 0, 0, 1, []), some (.dup, 0, 2, []), some (.getfield 256, 0, 5, []), none, none, some (.ldc2_w 281, 0, 8, []), none, none, some (.ladd, 0, 9, []), some (.putfield 256, 0, 12, []), none, none, some (.aload_n 0, 0, 13, []), some (.iload_n 1, 0, 14, []), some (.invokevirtual 233, 0, 17, []), none, none, some (.aload_n 0, 0, 18, []), some (.getfield 32, 0, 21, []), none, none, some (.getfield 137, 0, 24, []), none, none, some (.iload_n 1, 0, 25, []), some (.iaload, 0, 26, []), some (.bipush 9, 9, 28, []), none, some (.imul, 0, 29, []), some (.iadd, 0, 30, []), some (.ireturn, 0, 31, [])]
def mX7_rateOfHopped : zM := (iX7_rateOfHopped, [(32, 7, 4, (.object "RankWheels$Line")), (137, 1, 3, (.array .int)), (256, 7, 10, .long)], [(256, 7, 10, .long)], [], [(281, 100000)], [], [(233, 2, zFV 7 2 (zGoes mX7_rateOfStep 1 2))], [])
theorem kX7_rateOfHopped : zchkL cX7_rateOfHopped 0 iX7_rateOfHopped = true := by decide +kernel
set_option maxRecDepth 20000 in
theorem gX7_rateOfHopped : zGood mX7_rateOfHopped cX7_rateOfHopped yX7_rateOfHopped.cls (zwd yX7_rateOfHopped cX7_rateOfHopped 2 (zret 1)) := ⟨fun pc x h => by
    have h1 := zchkL_at kX7_rateOfHopped pc x h
    rw [Nat.zero_add] at h1
    exact h1, zlookF (fin := false) [(32, 7, 4, (.object "RankWheels$Line")), (137, 1, 3, (.array .int)), (256, 7, 10, .long)] (List.forall_mem_cons.mpr ⟨⟨(RX7, TX7, 11), rfl, by decide, List.mem_cons_of_mem _ zw283, fun w h => List.mem_cons_of_mem _ (zX7 w h), by decide +kernel, fun h => by cases h⟩, List.forall_mem_cons.mpr ⟨⟨(RX1, TX1, 8), rfl, by decide, List.mem_cons_of_mem _ zw161, fun w h => List.mem_cons_of_mem _ (zX1 w h), by decide +kernel, fun h => by cases h⟩, List.forall_mem_cons.mpr ⟨⟨(RX7, TX7, 11), rfl, by decide, List.mem_cons_of_mem _ zw289, fun w h => List.mem_cons_of_mem _ (zX7 w h), by decide +kernel, fun h => by cases h⟩, fun _ h => absurd h List.not_mem_nil⟩⟩⟩), zlookF (fin := true) [(256, 7, 10, .long)] (List.forall_mem_cons.mpr ⟨⟨(RX7, TX7, 11), rfl, by decide, List.mem_cons_of_mem _ zw289, fun w h => List.mem_cons_of_mem _ (zX7 w h), by decide +kernel, fun _ => rfl⟩, fun _ h => absurd h List.not_mem_nil⟩), zlookup (β := Int32) (L := []) (P := fun ix b => Jvm.Cond.constant yX7_rateOfHopped.cls ix b ∈ (zwd yX7_rateOfHopped cX7_rateOfHopped 2 (zret 1))) (fun _ h => absurd h List.not_mem_nil), zlookup (β := Int64) (L := [(281, 100000)]) (P := fun ix b => Jvm.Cond.constantLong yX7_rateOfHopped.cls ix b ∈ (zwd yX7_rateOfHopped cX7_rateOfHopped 2 (zret 1))) (List.forall_mem_cons.mpr ⟨List.mem_cons_of_mem _ zw680, fun _ h => absurd h List.not_mem_nil⟩), zlookup (β := Nat) (L := []) (P := fun ix b => zmok yX7_rateOfHopped.cls (zwd yX7_rateOfHopped cX7_rateOfHopped 2 (zret 1)) ix b) (fun _ h => absurd h List.not_mem_nil)⟩
set_option maxRecDepth 20000 in
theorem sX7_rateOfHopped (l : Launch) : ∀ (as : List Value) (ws : zW) (K : zP), zFr 2 (zGoes mX7_rateOfHopped 1 2) as ws K → zMet l yX7_rateOfHopped (zwd yX7_rateOfHopped cX7_rateOfHopped 2 (zret 1)) { frames := 4, cells := 0, slots := 0, locals := 800 } 1 as ws K := zFr_met (by decide +kernel) (by decide) (by decide) gX7_rateOfHopped (fun p e s m args below meth c D cy ad A n0 Q S hKK hA => ⟨fun ix n G h => zlookup (β := Nat × zG) (L := [(233, 2, zFV 7 2 (zGoes mX7_rateOfStep 1 2))]) (P := fun ix b => zCO p l e { frames := 4, cells := 0, slots := 0, locals := 800 } s m args below meth c cX7_rateOfHopped 2 D cy ad A n0 0 0 Q (.invokevirtual ix) b.1 b.2) (List.forall_mem_cons.mpr ⟨zco_V (ci := 7) S hKK hA ⟨Nat.zero_le _, Nat.zero_le _⟩ (cwV 1 S.2.2.2.2 (zgoodV zw652 zw654 zw23 zw49 zw655) rfl rfl rfl (by decide +kernel) (by decide +kernel)) rfl rfl (sX7_rateOfStep l), fun _ h => absurd h List.not_mem_nil⟩) ix (n, G) h, fun ix n G h => zlookup (β := Nat × zG) (L := []) (P := fun ix b => zCO p l e { frames := 4, cells := 0, slots := 0, locals := 800 } s m args below meth c cX7_rateOfHopped 2 D cy ad A n0 0 0 Q (.invokestatic ix) b.1 b.2) (fun _ h => absurd h List.not_mem_nil) ix (n, G) h⟩) (by decide)
def iX7_rate : List (Option zI) := [some (.aload_n 0, 0, 1, []), some (.iload_n 2, 0, 2, []), some (.invokevirtual 127, 0, 5, []), none, none, some (.ifCond .ne 6, 0, 8, [11]), none, none, some (.ldc 232, 0, 10, []), none, some (.ireturn, 0, 11, []), some (.iload_n 1, 0, 12, []), some (.tableswitch 76 0 5 #[40, 46, 52, 58, 64, 70], 0, 52, [88, 52, 58, 64, 70, 76, 82]), none, none, none, none, none, none, none, none, none, none, none, none, none, none, none, none, none, none, none, none, none, none, none, none, none, none, none, none, none, none, none, none, none, none, none, none, none, none, none, some (.aload_n 0, 0, 53, []), some (.iload_n 2, 0, 54, []), some (.invokevirtual 233, 0, 57, []), none, none, some (.ireturn, 0, 58, []), some (.aload_n 0, 0, 59, []), some (.iload_n 2, 0, 60, []), some (.invokevirtual 236, 0, 63, []), none, none, some (.ireturn, 0, 64, []), some (.aload_n 0, 0, 65, []), some (.iload_n 2, 0, 66, []), some (.invokevirtual 239, 0, 69, []), none, none, some (.ireturn, 0, 70, []), some (.aload_n 0, 0, 71, []), some (.iload_n 2, 0, 72, []), some (.invokevirtual 242, 0, 75, []), none, none, some (.ireturn, 0, 76, []), some (.aload_n 0, 0, 77, []), some (.iload_n 2, 0, 78, []), some (.invokevirtual 245, 0, 81, []), none, none, some (.ireturn, 0, 82, []), some (.aload_n 0, 0, 83, []), some (.iload_n 2, 0, 84, []), some (.invokevirtual 248, 0, 87, []), none, none, some (.ireturn, 0, 88, []), some (.ldc 232, 0, 90, []), none, some (.ireturn, 0, 91, [])]
def mX7_rate : zM := (iX7_rate, [], [], [(232, (-1000000))], [], [], [(127, 2, zFV 7 2 (zGoes mX7_isPlace 3 2)), (233, 2, zFV 7 2 (zGoes mX7_rateOfStep 1 2)), (236, 2, zFV 7 2 (zGoes mX7_rateOfShort 1 2)), (239, 2, zFV 7 2 (zGoes mX7_rateOfSeen 1 2)), (242, 2, zFV 7 2 (zGoes mX7_rateOfMarked 1 2)), (245, 2, zFV 7 2 (zGoes mX7_rateOfBulging 1 2)), (248, 2, zFV 7 2 (zGoes mX7_rateOfHopped 1 2))], [])
theorem kX7_rate : zchkL cX7_rate 0 iX7_rate = true := by decide +kernel
set_option maxRecDepth 20000 in
theorem gX7_rate : zGood mX7_rate cX7_rate yX7_rate.cls (zwd yX7_rate cX7_rate 3 (zret 1)) := ⟨fun pc x h => by
    have h1 := zchkL_at kX7_rate pc x h
    rw [Nat.zero_add] at h1
    exact h1, zlookF (fin := false) [] (fun _ h => absurd h List.not_mem_nil), zlookF (fin := true) [] (fun _ h => absurd h List.not_mem_nil), zlookup (β := Int32) (L := [(232, (-1000000))]) (P := fun ix b => Jvm.Cond.constant yX7_rate.cls ix b ∈ (zwd yX7_rate cX7_rate 3 (zret 1))) (List.forall_mem_cons.mpr ⟨List.mem_cons_of_mem _ zw651, fun _ h => absurd h List.not_mem_nil⟩), zlookup (β := Int64) (L := []) (P := fun ix b => Jvm.Cond.constantLong yX7_rate.cls ix b ∈ (zwd yX7_rate cX7_rate 3 (zret 1))) (fun _ h => absurd h List.not_mem_nil), zlookup (β := Nat) (L := []) (P := fun ix b => zmok yX7_rate.cls (zwd yX7_rate cX7_rate 3 (zret 1)) ix b) (fun _ h => absurd h List.not_mem_nil)⟩
set_option maxRecDepth 20000 in
theorem sX7_rate (l : Launch) : ∀ (as : List Value) (ws : zW) (K : zP), zFr 3 (zGoes mX7_rate 1 3) as ws K → zMet l yX7_rate (zwd yX7_rate cX7_rate 3 (zret 1)) { frames := 6, cells := 0, slots := 0, locals := 1200 } 1 as ws K := zFr_met (by decide +kernel) (by decide) (by decide) gX7_rate (fun p e s m args below meth c D cy ad A n0 Q S hKK hA => ⟨fun ix n G h => zlookup (β := Nat × zG) (L := [(127, 2, zFV 7 2 (zGoes mX7_isPlace 3 2)), (233, 2, zFV 7 2 (zGoes mX7_rateOfStep 1 2)), (236, 2, zFV 7 2 (zGoes mX7_rateOfShort 1 2)), (239, 2, zFV 7 2 (zGoes mX7_rateOfSeen 1 2)), (242, 2, zFV 7 2 (zGoes mX7_rateOfMarked 1 2)), (245, 2, zFV 7 2 (zGoes mX7_rateOfBulging 1 2)), (248, 2, zFV 7 2 (zGoes mX7_rateOfHopped 1 2))]) (P := fun ix b => zCO p l e { frames := 6, cells := 0, slots := 0, locals := 1200 } s m args below meth c cX7_rate 3 D cy ad A n0 0 0 Q (.invokevirtual ix) b.1 b.2) (List.forall_mem_cons.mpr ⟨zco_V (ci := 7) S hKK hA ⟨Nat.zero_le _, Nat.zero_le _⟩ (cwV 1 S.2.2.2.2 (zgoodV zw405 zw407 zw9 zw49 zw408) rfl rfl rfl (by decide +kernel) (by decide +kernel)) rfl rfl (sX7_isPlace l), List.forall_mem_cons.mpr ⟨zco_V (ci := 7) S hKK hA ⟨Nat.zero_le _, Nat.zero_le _⟩ (cwV 1 S.2.2.2.2 (zgoodV zw652 zw654 zw23 zw49 zw655) rfl rfl rfl (by decide +kernel) (by decide +kernel)) rfl rfl (sX7_rateOfStep l), List.forall_mem_cons.mpr ⟨zco_V (ci := 7) S hKK hA ⟨Nat.zero_le _, Nat.zero_le _⟩ (cwV 1 S.2.2.2.2 (zgoodV zw656 zw658 zw24 zw49 zw659) rfl rfl rfl (by decide +kernel) (by decide +kernel)) rfl rfl (sX7_rateOfShort l), List.forall_mem_cons.mpr ⟨zco_V (ci := 7) S hKK hA ⟨Nat.zero_le _, Nat.zero_le _⟩ (cwV 1 S.2.2.2.2 (zgoodV zw661 zw663 zw25 zw49 zw664) rfl rfl rfl (by decide +kernel) (by decide +kernel)) rfl rfl (sX7_rateOfSeen l), List.forall_mem_cons.mpr ⟨zco_V (ci := 7) S hKK hA ⟨Nat.zero_le _, Nat.zero_le _⟩ (cwV 1 S.2.2.2.2 (zgoodV zw666 zw668 zw26 zw49 zw669) rfl rfl rfl (by decide +kernel) (by decide +kernel)) rfl rfl (sX7_rateOfMarked l), List.forall_mem_cons.mpr ⟨zco_V (ci := 7) S hKK hA ⟨Nat.zero_le _, Nat.zero_le _⟩ (cwV 1 S.2.2.2.2 (zgoodV zw671 zw673 zw27 zw49 zw674) rfl rfl rfl (by decide +kernel) (by decide +kernel)) rfl rfl (sX7_rateOfBulging l), List.forall_mem_cons.mpr ⟨zco_V (ci := 7) S hKK hA ⟨Nat.zero_le _, Nat.zero_le _⟩ (cwV 1 S.2.2.2.2 (zgoodV zw676 zw678 zw28 zw49 zw679) rfl rfl rfl (by decide +kernel) (by decide +kernel)) rfl rfl (sX7_rateOfHopped l), fun _ h => absurd h List.not_mem_nil⟩⟩⟩⟩⟩⟩⟩) ix (n, G) h, fun ix n G h => zlookup (β := Nat × zG) (L := []) (P := fun ix b => zCO p l e { frames := 6, cells := 0, slots := 0, locals := 1200 } s m args below meth c cX7_rate 3 D cy ad A n0 0 0 Q (.invokestatic ix) b.1 b.2) (fun _ h => absurd h List.not_mem_nil) ix (n, G) h⟩) (by decide)
def iX7_keep : List (Option zI) := [some (.iload_n 1, 0, 1, []), some (.iconst 0, 0, 2, []), some (.iconst 1, 1, 3, []), some (.invokestatic 71, 0, 6, []), none, none, some (.ifCond .ne 7, 0, 9, [13]), none, none, some (.sipush (-1001), (-1001), 12, []), none, none, some (.ireturn, 0, 13, []), some (.aload_n 0, 0, 14, []), some (.getfield 48, 0, 17, []), none, none, some (.iload_n 1, 0, 18, []), some (.aaload, 0, 19, []), some (.getfield 251, 0, 22, []), none, none, some (.aload_n 0, 0, 23, []), some (.getfield 32, 0, 26, []), none, none, some (.invokevirtual 202, 0, 29, []), none, none, some (.aload_n 0, 0, 30, []), some (.getfield 48, 0, 33, []), none, none, some (.iload_n 1, 0, 34, []), some (.aaload, 0, 35, []), some (.getfield 252, 0, 38, []), none, none, some (.aload_n 0, 0, 39, []), some (.getfield 42, 0, 42, []), none, none, some (.invokevirtual 253, 0, 45, []), none, none, some (.aload_n 0, 0, 46, []), some (.getfield 48, 0, 49, []), none, none, some (.iload_n 1, 0, 50, []), some (.aaload, 0, 51, []), some (.iconst 1, 1, 52, []), some (.putfield 107, 0, 55, []), none, none, some (.aload_n 0, 0, 56, []), some (.getfield 32, 0, 59, []), none, none, some (.getfield 143, 0, 62, []), none, none, some (.ireturn, 0, 63, [])]
def mX7_keep : zM := (iX7_keep, [(32, 7, 4, (.object "RankWheels$Line")), (42, 7, 6, (.object "RankWheels$Past")), (48, 7, 7, (.array (.object "RankWheels$Image"))), (143, 1, 7, .int), (251, 0, 0, (.object "RankWheels$Line")), (252, 0, 1, (.object "RankWheels$Past"))], [(107, 0, 2, .boolean)], [], [], [], [(202, 2, zFV 1 2 (zGoes mX1_copyFrom 0 2)), (253, 2, zFV 4 2 (zGoes mX4_copyFrom 0 3))], [(71, 3, zFr 3 (zGoes mX7_within 3 3))])
theorem kX7_keep : zchkL cX7_keep 0 iX7_keep = true := by decide +kernel
set_option maxRecDepth 20000 in
theorem gX7_keep : zGood mX7_keep cX7_keep yX7_keep.cls (zwd yX7_keep cX7_keep 2 (zret 1)) := ⟨fun pc x h => by
    have h1 := zchkL_at kX7_keep pc x h
    rw [Nat.zero_add] at h1
    exact h1, zlookF (fin := false) [(32, 7, 4, (.object "RankWheels$Line")), (42, 7, 6, (.object "RankWheels$Past")), (48, 7, 7, (.array (.object "RankWheels$Image"))), (143, 1, 7, .int), (251, 0, 0, (.object "RankWheels$Line")), (252, 0, 1, (.object "RankWheels$Past"))] (List.forall_mem_cons.mpr ⟨⟨(RX7, TX7, 11), rfl, by decide, List.mem_cons_of_mem _ zw283, fun w h => List.mem_cons_of_mem _ (zX7 w h), by decide +kernel, fun h => by cases h⟩, List.forall_mem_cons.mpr ⟨⟨(RX7, TX7, 11), rfl, by decide, List.mem_cons_of_mem _ zw285, fun w h => List.mem_cons_of_mem _ (zX7 w h), by decide +kernel, fun h => by cases h⟩, List.forall_mem_cons.mpr ⟨⟨(RX7, TX7, 11), rfl, by decide, List.mem_cons_of_mem _ zw286, fun w h => List.mem_cons_of_mem _ (zX7 w h), by decide +kernel, fun h => by cases h⟩, List.forall_mem_cons.mpr ⟨⟨(RX1, TX1, 8), rfl, by decide, List.mem_cons_of_mem _ zw169, fun w h => List.mem_cons_of_mem _ (zX1 w h), by decide +kernel, fun h => by cases h⟩, List.forall_mem_cons.mpr ⟨⟨(RX0, TX0, 3), rfl, by decide, List.mem_cons_of_mem _ zw264, fun w h => List.mem_cons_of_mem _ (zX0 w h), by decide +kernel, fun h => by cases h⟩, List.forall_mem_cons.mpr ⟨⟨(RX0, TX0, 3), rfl, by decide, List.mem_cons_of_mem _ zw266, fun w h => List.mem_cons_of_mem _ (zX0 w h), by decide +kernel, fun h => by cases h⟩, fun _ h => absurd h List.not_mem_nil⟩⟩⟩⟩⟩⟩), zlookF (fin := true) [(107, 0, 2, .boolean)] (List.forall_mem_cons.mpr ⟨⟨(RX0, TX0, 3), rfl, by decide, List.mem_cons_of_mem _ zw267, fun w h => List.mem_cons_of_mem _ (zX0 w h), by decide +kernel, fun _ => rfl⟩, fun _ h => absurd h List.not_mem_nil⟩), zlookup (β := Int32) (L := []) (P := fun ix b => Jvm.Cond.constant yX7_keep.cls ix b ∈ (zwd yX7_keep cX7_keep 2 (zret 1))) (fun _ h => absurd h List.not_mem_nil), zlookup (β := Int64) (L := []) (P := fun ix b => Jvm.Cond.constantLong yX7_keep.cls ix b ∈ (zwd yX7_keep cX7_keep 2 (zret 1))) (fun _ h => absurd h List.not_mem_nil), zlookup (β := Nat) (L := []) (P := fun ix b => zmok yX7_keep.cls (zwd yX7_keep cX7_keep 2 (zret 1)) ix b) (fun _ h => absurd h List.not_mem_nil)⟩
set_option maxRecDepth 20000 in
theorem sX7_keep (l : Launch) : ∀ (as : List Value) (ws : zW) (K : zP), zFr 2 (zGoes mX7_keep 1 2) as ws K → zMet l yX7_keep (zwd yX7_keep cX7_keep 2 (zret 1)) { frames := 3, cells := 0, slots := 0, locals := 600 } 1 as ws K := zFr_met (by decide +kernel) (by decide) (by decide) gX7_keep (fun p e s m args below meth c D cy ad A n0 Q S hKK hA => ⟨fun ix n G h => zlookup (β := Nat × zG) (L := [(202, 2, zFV 1 2 (zGoes mX1_copyFrom 0 2)), (253, 2, zFV 4 2 (zGoes mX4_copyFrom 0 3))]) (P := fun ix b => zCO p l e { frames := 3, cells := 0, slots := 0, locals := 600 } s m args below meth c cX7_keep 2 D cy ad A n0 0 0 Q (.invokevirtual ix) b.1 b.2) (List.forall_mem_cons.mpr ⟨zco_V (ci := 1) S hKK hA ⟨Nat.zero_le _, Nat.zero_le _⟩ (cwV 1 S.2.2.2.2 (zgoodV zw529 zw429 zw430 zw52 zw431) rfl rfl rfl (by decide +kernel) (by decide +kernel)) rfl rfl (sX1_copyFrom l), List.forall_mem_cons.mpr ⟨zco_V (ci := 4) S hKK hA ⟨Nat.zero_le _, Nat.zero_le _⟩ (cwV 1 S.2.2.2.2 (zgoodV zw685 zw686 zw687 zw53 zw688) rfl rfl rfl (by decide +kernel) (by decide +kernel)) rfl rfl (sX4_copyFrom l), fun _ h => absurd h List.not_mem_nil⟩⟩) ix (n, G) h, fun ix n G h => zlookup (β := Nat × zG) (L := [(71, 3, zFr 3 (zGoes mX7_within 3 3))]) (P := fun ix b => zCO p l e { frames := 3, cells := 0, slots := 0, locals := 600 } s m args below meth c cX7_keep 2 D cy ad A n0 0 0 Q (.invokestatic ix) b.1 b.2) (List.forall_mem_cons.mpr ⟨zco_S S hKK hA ⟨Nat.zero_le _, Nat.zero_le _⟩ (va_cwS 3 S.2.2.2.2 (zgoodS zw317 zw318 zw49 zw319) rfl rfl rfl (by decide +kernel) (by decide +kernel)) (sX7_within l), fun _ h => absurd h List.not_mem_nil⟩) ix (n, G) h⟩) (by decide)
def iX7_back : List (Option zI) := [some (.iload_n 1, 0, 1, []), some (.iconst 0, 0, 2, []), some (.iconst 1, 1, 3, []), some (.invokestatic 71, 0, 6, []), none, none, some (.ifCond .ne 7, 0, 9, [13]), none, none, some (.sipush (-1001), (-1001), 12, []), none, none, some (.ireturn, 0, 13, []), some (.aload_n 0, 0, 14, []), some (.getfield 48, 0, 17, []), none, none, some (.iload_n 1, 0, 18, []), some (.aaload, 0, 19, []), some (.getfield 107, 0, 22, []), none, none, some (.ifCond .ne 7, 0, 25, [29]), none, none, some (.sipush (-1002), (-1002), 28, []), none, none, some (.ireturn, 0, 29, []), some (.aload_n 0, 0, 30, []), some (.getfield 32, 0, 33, []), none, none, some (.aload_n 0, 0, 34, []), some (.getfield 48, 0, 37, []), none, none, some (.iload_n 1, 0, 38, []), some (.aaload, 0, 39, []), some (.getfield 251, 0, 42, []), none, none, some (.invokevirtual 202, 0, 45, []), none, none, some (.aload_n 0, 0, 46, []), some (.getfield 42, 0, 49, []), none, none, some (.aload_n 0, 0, 50, []), some (.getfield 48, 0, 53, []), none, none, some (.iload_n 1, 0, 54, []), some (.aaload, 0, 55, []), some (.getfield 252, 0, 58, []), none, none, some (.invokevirtual 253, 0, 61, []), none, none, some (.aload_n 0, 0, 62, []), some (.getfield 32, 0, 65, []), none, none, some (.getfield 143, 0, 68, []), none, none, some (.ireturn, 0, 69, [])]
def mX7_back : zM := (iX7_back, [(32, 7, 4, (.object "RankWheels$Line")), (42, 7, 6, (.object "RankWheels$Past")), (48, 7, 7, (.array (.object "RankWheels$Image"))), (107, 0, 2, .boolean), (143, 1, 7, .int), (251, 0, 0, (.object "RankWheels$Line")), (252, 0, 1, (.object "RankWheels$Past"))], [], [], [], [], [(202, 2, zFV 1 2 (zGoes mX1_copyFrom 0 2)), (253, 2, zFV 4 2 (zGoes mX4_copyFrom 0 3))], [(71, 3, zFr 3 (zGoes mX7_within 3 3))])
theorem kX7_back : zchkL cX7_back 0 iX7_back = true := by decide +kernel
set_option maxRecDepth 20000 in
theorem gX7_back : zGood mX7_back cX7_back yX7_back.cls (zwd yX7_back cX7_back 2 (zret 1)) := ⟨fun pc x h => by
    have h1 := zchkL_at kX7_back pc x h
    rw [Nat.zero_add] at h1
    exact h1, zlookF (fin := false) [(32, 7, 4, (.object "RankWheels$Line")), (42, 7, 6, (.object "RankWheels$Past")), (48, 7, 7, (.array (.object "RankWheels$Image"))), (107, 0, 2, .boolean), (143, 1, 7, .int), (251, 0, 0, (.object "RankWheels$Line")), (252, 0, 1, (.object "RankWheels$Past"))] (List.forall_mem_cons.mpr ⟨⟨(RX7, TX7, 11), rfl, by decide, List.mem_cons_of_mem _ zw283, fun w h => List.mem_cons_of_mem _ (zX7 w h), by decide +kernel, fun h => by cases h⟩, List.forall_mem_cons.mpr ⟨⟨(RX7, TX7, 11), rfl, by decide, List.mem_cons_of_mem _ zw285, fun w h => List.mem_cons_of_mem _ (zX7 w h), by decide +kernel, fun h => by cases h⟩, List.forall_mem_cons.mpr ⟨⟨(RX7, TX7, 11), rfl, by decide, List.mem_cons_of_mem _ zw286, fun w h => List.mem_cons_of_mem _ (zX7 w h), by decide +kernel, fun h => by cases h⟩, List.forall_mem_cons.mpr ⟨⟨(RX0, TX0, 3), rfl, by decide, List.mem_cons_of_mem _ zw267, fun w h => List.mem_cons_of_mem _ (zX0 w h), by decide +kernel, fun h => by cases h⟩, List.forall_mem_cons.mpr ⟨⟨(RX1, TX1, 8), rfl, by decide, List.mem_cons_of_mem _ zw169, fun w h => List.mem_cons_of_mem _ (zX1 w h), by decide +kernel, fun h => by cases h⟩, List.forall_mem_cons.mpr ⟨⟨(RX0, TX0, 3), rfl, by decide, List.mem_cons_of_mem _ zw264, fun w h => List.mem_cons_of_mem _ (zX0 w h), by decide +kernel, fun h => by cases h⟩, List.forall_mem_cons.mpr ⟨⟨(RX0, TX0, 3), rfl, by decide, List.mem_cons_of_mem _ zw266, fun w h => List.mem_cons_of_mem _ (zX0 w h), by decide +kernel, fun h => by cases h⟩, fun _ h => absurd h List.not_mem_nil⟩⟩⟩⟩⟩⟩⟩), zlookF (fin := true) [] (fun _ h => absurd h List.not_mem_nil), zlookup (β := Int32) (L := []) (P := fun ix b => Jvm.Cond.constant yX7_back.cls ix b ∈ (zwd yX7_back cX7_back 2 (zret 1))) (fun _ h => absurd h List.not_mem_nil), zlookup (β := Int64) (L := []) (P := fun ix b => Jvm.Cond.constantLong yX7_back.cls ix b ∈ (zwd yX7_back cX7_back 2 (zret 1))) (fun _ h => absurd h List.not_mem_nil), zlookup (β := Nat) (L := []) (P := fun ix b => zmok yX7_back.cls (zwd yX7_back cX7_back 2 (zret 1)) ix b) (fun _ h => absurd h List.not_mem_nil)⟩
set_option maxRecDepth 20000 in
theorem sX7_back (l : Launch) : ∀ (as : List Value) (ws : zW) (K : zP), zFr 2 (zGoes mX7_back 1 2) as ws K → zMet l yX7_back (zwd yX7_back cX7_back 2 (zret 1)) { frames := 3, cells := 0, slots := 0, locals := 600 } 1 as ws K := zFr_met (by decide +kernel) (by decide) (by decide) gX7_back (fun p e s m args below meth c D cy ad A n0 Q S hKK hA => ⟨fun ix n G h => zlookup (β := Nat × zG) (L := [(202, 2, zFV 1 2 (zGoes mX1_copyFrom 0 2)), (253, 2, zFV 4 2 (zGoes mX4_copyFrom 0 3))]) (P := fun ix b => zCO p l e { frames := 3, cells := 0, slots := 0, locals := 600 } s m args below meth c cX7_back 2 D cy ad A n0 0 0 Q (.invokevirtual ix) b.1 b.2) (List.forall_mem_cons.mpr ⟨zco_V (ci := 1) S hKK hA ⟨Nat.zero_le _, Nat.zero_le _⟩ (cwV 1 S.2.2.2.2 (zgoodV zw529 zw429 zw430 zw52 zw431) rfl rfl rfl (by decide +kernel) (by decide +kernel)) rfl rfl (sX1_copyFrom l), List.forall_mem_cons.mpr ⟨zco_V (ci := 4) S hKK hA ⟨Nat.zero_le _, Nat.zero_le _⟩ (cwV 1 S.2.2.2.2 (zgoodV zw685 zw686 zw687 zw53 zw688) rfl rfl rfl (by decide +kernel) (by decide +kernel)) rfl rfl (sX4_copyFrom l), fun _ h => absurd h List.not_mem_nil⟩⟩) ix (n, G) h, fun ix n G h => zlookup (β := Nat × zG) (L := [(71, 3, zFr 3 (zGoes mX7_within 3 3))]) (P := fun ix b => zCO p l e { frames := 3, cells := 0, slots := 0, locals := 600 } s m args below meth c cX7_back 2 D cy ad A n0 0 0 Q (.invokestatic ix) b.1 b.2) (List.forall_mem_cons.mpr ⟨zco_S S hKK hA ⟨Nat.zero_le _, Nat.zero_le _⟩ (va_cwS 3 S.2.2.2.2 (zgoodS zw317 zw318 zw49 zw319) rfl rfl rfl (by decide +kernel) (by decide +kernel)) (sX7_within l), fun _ h => absurd h List.not_mem_nil⟩) ix (n, G) h⟩) (by decide)
def iX7_count : List (Option zI) := [some (.iload_n 1, 0, 1, []), some (.tableswitch 60 0 3 #[31, 39, 47, 55], 0, 32, [61, 32, 40, 48, 56]), none, none, none, none, none, none, none, none, none, none, none, none, none, none, none, none, none, none, none, none, none, none, none, none, none, none, none, none, none, none, some (.aload_n 0, 0, 33, []), some (.getfield 23, 0, 36, []), none, none, some (.getfield 114, 0, 39, []), none, none, some (.ireturn, 0, 40, []), some (.aload_n 0, 0, 41, []), some (.getfield 55, 0, 44, []), none, none, some (.getfield 106, 0, 47, []), none, none, some (.ireturn, 0, 48, []), some (.aload_n 0, 0, 49, []), some (.getfield 42, 0, 52, []), none, none, some (.getfield 103, 0, 55, []), none, none, some (.ireturn, 0, 56, []), some (.aload_n 0, 0, 57, []), some (.getfield 75, 0, 60, []), none, none, some (.ireturn, 0, 61, []), some (.sipush (-1001), (-1001), 64, []), none, none, some (.ireturn, 0, 65, [])]
def mX7_count : zM := (iX7_count, [(23, 7, 3, (.object "RankWheels$Men")), (42, 7, 6, (.object "RankWheels$Past")), (55, 7, 8, (.object "RankWheels$Sightings")), (75, 7, 1, .int), (103, 4, 1, .int), (106, 5, 0, .int), (114, 2, 0, .int)], [], [], [], [], [], [])
theorem kX7_count : zchkL cX7_count 0 iX7_count = true := by decide +kernel
set_option maxRecDepth 20000 in
theorem gX7_count : zGood mX7_count cX7_count yX7_count.cls (zwd yX7_count cX7_count 2 (zret 1)) := ⟨fun pc x h => by
    have h1 := zchkL_at kX7_count pc x h
    rw [Nat.zero_add] at h1
    exact h1, zlookF (fin := false) [(23, 7, 3, (.object "RankWheels$Men")), (42, 7, 6, (.object "RankWheels$Past")), (55, 7, 8, (.object "RankWheels$Sightings")), (75, 7, 1, .int), (103, 4, 1, .int), (106, 5, 0, .int), (114, 2, 0, .int)] (List.forall_mem_cons.mpr ⟨⟨(RX7, TX7, 11), rfl, by decide, List.mem_cons_of_mem _ zw282, fun w h => List.mem_cons_of_mem _ (zX7 w h), by decide +kernel, fun h => by cases h⟩, List.forall_mem_cons.mpr ⟨⟨(RX7, TX7, 11), rfl, by decide, List.mem_cons_of_mem _ zw285, fun w h => List.mem_cons_of_mem _ (zX7 w h), by decide +kernel, fun h => by cases h⟩, List.forall_mem_cons.mpr ⟨⟨(RX7, TX7, 11), rfl, by decide, List.mem_cons_of_mem _ zw287, fun w h => List.mem_cons_of_mem _ (zX7 w h), by decide +kernel, fun h => by cases h⟩, List.forall_mem_cons.mpr ⟨⟨(RX7, TX7, 11), rfl, by decide, List.mem_cons_of_mem _ zw280, fun w h => List.mem_cons_of_mem _ (zX7 w h), by decide +kernel, fun h => by cases h⟩, List.forall_mem_cons.mpr ⟨⟨(RX4, TX4, 2), rfl, by decide, List.mem_cons_of_mem _ zw198, fun w h => List.mem_cons_of_mem _ (zX4 w h), by decide +kernel, fun h => by cases h⟩, List.forall_mem_cons.mpr ⟨⟨(RX5, TX5, 4), rfl, by decide, List.mem_cons_of_mem _ zw213, fun w h => List.mem_cons_of_mem _ (zX5 w h), by decide +kernel, fun h => by cases h⟩, List.forall_mem_cons.mpr ⟨⟨(RX2, TX2, 3), rfl, by decide, List.mem_cons_of_mem _ zw84, fun w h => List.mem_cons_of_mem _ (zX2 w h), by decide +kernel, fun h => by cases h⟩, fun _ h => absurd h List.not_mem_nil⟩⟩⟩⟩⟩⟩⟩), zlookF (fin := true) [] (fun _ h => absurd h List.not_mem_nil), zlookup (β := Int32) (L := []) (P := fun ix b => Jvm.Cond.constant yX7_count.cls ix b ∈ (zwd yX7_count cX7_count 2 (zret 1))) (fun _ h => absurd h List.not_mem_nil), zlookup (β := Int64) (L := []) (P := fun ix b => Jvm.Cond.constantLong yX7_count.cls ix b ∈ (zwd yX7_count cX7_count 2 (zret 1))) (fun _ h => absurd h List.not_mem_nil), zlookup (β := Nat) (L := []) (P := fun ix b => zmok yX7_count.cls (zwd yX7_count cX7_count 2 (zret 1)) ix b) (fun _ h => absurd h List.not_mem_nil)⟩
set_option maxRecDepth 20000 in
theorem sX7_count (l : Launch) : ∀ (as : List Value) (ws : zW) (K : zP), zFr 2 (zGoes mX7_count 1 2) as ws K → zMet l yX7_count (zwd yX7_count cX7_count 2 (zret 1)) { frames := 1, cells := 0, slots := 0, locals := 200 } 1 as ws K := zFr_met (by decide +kernel) (by decide) (by decide) gX7_count (fun p e s m args below meth c D cy ad A n0 Q S hKK hA => ⟨fun ix n G h => zlookup (β := Nat × zG) (L := []) (P := fun ix b => zCO p l e { frames := 1, cells := 0, slots := 0, locals := 200 } s m args below meth c cX7_count 2 D cy ad A n0 0 0 Q (.invokevirtual ix) b.1 b.2) (fun _ h => absurd h List.not_mem_nil) ix (n, G) h, fun ix n G h => zlookup (β := Nat × zG) (L := []) (P := fun ix b => zCO p l e { frames := 1, cells := 0, slots := 0, locals := 200 } s m args below meth c cX7_count 2 D cy ad A n0 0 0 Q (.invokestatic ix) b.1 b.2) (fun _ h => absurd h List.not_mem_nil) ix (n, G) h⟩) (by decide)
def iX7_trace : List (Option zI) := [some (.aload_n 0, 0, 1, []), some (.getfield 256, 0, 4, []), none, none, some (.lreturn, 0, 5, [])]
def mX7_trace : zM := (iX7_trace, [(256, 7, 10, .long)], [], [], [], [], [], [])
theorem kX7_trace : zchkL cX7_trace 0 iX7_trace = true := by decide +kernel
set_option maxRecDepth 20000 in
theorem gX7_trace : zGood mX7_trace cX7_trace yX7_trace.cls (zwd yX7_trace cX7_trace 1 (zret 2)) := ⟨fun pc x h => by
    have h1 := zchkL_at kX7_trace pc x h
    rw [Nat.zero_add] at h1
    exact h1, zlookF (fin := false) [(256, 7, 10, .long)] (List.forall_mem_cons.mpr ⟨⟨(RX7, TX7, 11), rfl, by decide, List.mem_cons_of_mem _ zw289, fun w h => List.mem_cons_of_mem _ (zX7 w h), by decide +kernel, fun h => by cases h⟩, fun _ h => absurd h List.not_mem_nil⟩), zlookF (fin := true) [] (fun _ h => absurd h List.not_mem_nil), zlookup (β := Int32) (L := []) (P := fun ix b => Jvm.Cond.constant yX7_trace.cls ix b ∈ (zwd yX7_trace cX7_trace 1 (zret 2))) (fun _ h => absurd h List.not_mem_nil), zlookup (β := Int64) (L := []) (P := fun ix b => Jvm.Cond.constantLong yX7_trace.cls ix b ∈ (zwd yX7_trace cX7_trace 1 (zret 2))) (fun _ h => absurd h List.not_mem_nil), zlookup (β := Nat) (L := []) (P := fun ix b => zmok yX7_trace.cls (zwd yX7_trace cX7_trace 1 (zret 2)) ix b) (fun _ h => absurd h List.not_mem_nil)⟩
set_option maxRecDepth 20000 in
theorem sX7_trace (l : Launch) : ∀ (as : List Value) (ws : zW) (K : zP), zFr 1 (zGoes mX7_trace 2 1) as ws K → zMet l yX7_trace (zwd yX7_trace cX7_trace 1 (zret 2)) { frames := 1, cells := 0, slots := 0, locals := 200 } 2 as ws K := zFr_met (by decide +kernel) (by decide) (by decide) gX7_trace (fun p e s m args below meth c D cy ad A n0 Q S hKK hA => ⟨fun ix n G h => zlookup (β := Nat × zG) (L := []) (P := fun ix b => zCO p l e { frames := 1, cells := 0, slots := 0, locals := 200 } s m args below meth c cX7_trace 1 D cy ad A n0 0 0 Q (.invokevirtual ix) b.1 b.2) (fun _ h => absurd h List.not_mem_nil) ix (n, G) h, fun ix n G h => zlookup (β := Nat × zG) (L := []) (P := fun ix b => zCO p l e { frames := 1, cells := 0, slots := 0, locals := 200 } s m args below meth c cX7_trace 1 D cy ad A n0 0 0 Q (.invokestatic ix) b.1 b.2) (fun _ h => absurd h List.not_mem_nil) ix (n, G) h⟩) (by decide)
def iX8_in : List (Option zI) := [some (.iload_n 0, 0, 1, []), some (.iload_n 1, 0, 2, []), some (.if_icmp .lt 12, 0, 5, [14]), none, none, some (.iload_n 0, 0, 6, []), some (.iload_n 2, 0, 7, []), some (.if_icmp .gt 7, 0, 10, [14]), none, none, some (.iconst 1, 1, 11, []), some (.goto 4, 0, 14, [15]), none, none, some (.iconst 0, 0, 15, []), some (.ireturn, 0, 16, [])]
def mX8_in : zM := (iX8_in, [], [], [], [], [], [], [])
theorem kX8_in : zchkL cX8_in 0 iX8_in = true := by decide +kernel
set_option maxRecDepth 20000 in
theorem gX8_in : zGood mX8_in cX8_in yX8_in.cls (zwd yX8_in cX8_in 3 (zret 3)) := ⟨fun pc x h => by
    have h1 := zchkL_at kX8_in pc x h
    rw [Nat.zero_add] at h1
    exact h1, zlookF (fin := false) [] (fun _ h => absurd h List.not_mem_nil), zlookF (fin := true) [] (fun _ h => absurd h List.not_mem_nil), zlookup (β := Int32) (L := []) (P := fun ix b => Jvm.Cond.constant yX8_in.cls ix b ∈ (zwd yX8_in cX8_in 3 (zret 3))) (fun _ h => absurd h List.not_mem_nil), zlookup (β := Int64) (L := []) (P := fun ix b => Jvm.Cond.constantLong yX8_in.cls ix b ∈ (zwd yX8_in cX8_in 3 (zret 3))) (fun _ h => absurd h List.not_mem_nil), zlookup (β := Nat) (L := []) (P := fun ix b => zmok yX8_in.cls (zwd yX8_in cX8_in 3 (zret 3)) ix b) (fun _ h => absurd h List.not_mem_nil)⟩
set_option maxRecDepth 20000 in
theorem sX8_in (l : Launch) : ∀ (as : List Value) (ws : zW) (K : zP), zFr 3 (zGoes mX8_in 3 3) as ws K → zMet l yX8_in (zwd yX8_in cX8_in 3 (zret 3)) { frames := 1, cells := 0, slots := 0, locals := 200 } 3 as ws K := zFr_met (by decide +kernel) (by decide) (by decide) gX8_in (fun p e s m args below meth c D cy ad A n0 Q S hKK hA => ⟨fun ix n G h => zlookup (β := Nat × zG) (L := []) (P := fun ix b => zCO p l e { frames := 1, cells := 0, slots := 0, locals := 200 } s m args below meth c cX8_in 3 D cy ad A n0 0 0 Q (.invokevirtual ix) b.1 b.2) (fun _ h => absurd h List.not_mem_nil) ix (n, G) h, fun ix n G h => zlookup (β := Nat × zG) (L := []) (P := fun ix b => zCO p l e { frames := 1, cells := 0, slots := 0, locals := 200 } s m args below meth c cX8_in 3 D cy ad A n0 0 0 Q (.invokestatic ix) b.1 b.2) (fun _ h => absurd h List.not_mem_nil) ix (n, G) h⟩) (by decide)
def iX8_type : List (Option zI) := [some (.iload_n 1, 0, 1, []), some (.iconst 0, 0, 2, []), some (.sipush 255, 255, 5, []), none, none, some (.invokestatic 54, 0, 8, []), none, none, some (.ifCond .ne 7, 0, 11, [15]), none, none, some (.sipush (-1001), (-1001), 14, []), none, none, some (.ireturn, 0, 15, []), some (.aload_n 0, 0, 16, []), some (.getfield 58, 0, 19, []), none, none, some (.bipush 120, 120, 21, []), none, some (.if_icmp .ne 7, 0, 24, [28]), none, none, some (.sipush (-1003), (-1003), 27, []), none, none, some (.ireturn, 0, 28, []), some (.aload_n 0, 0, 29, []), some (.getfield 7, 0, 32, []), none, none, some (.aload_n 0, 0, 33, []), some (.getfield 58, 0, 36, []), none, none, some (.iload_n 1, 0, 37, []), some (.i2b, 0, 38, []), some (.bastore, 0, 39, []), some (.aload_n 0, 0, 40, []), some (.dup, 0, 41, []), some (.getfield 58, 0, 44, []), none, none, some (.iconst 1, 1, 45, []), some (.iadd, 0, 46, []), some (.putfield 58, 0, 49, []), none, none, some (.aload_n 0, 0, 50, []), some (.getfield 58, 0, 53, []), none, none, some (.ireturn, 0, 54, [])]
def mX8_type : zM := (iX8_type, [(7, 8, 1, (.array .byte)), (58, 8, 2, .int)], [(58, 8, 2, .int)], [], [], [], [], [(54, 3, zFr 3 (zGoes mX8_in 3 3))])
theorem kX8_type : zchkL cX8_type 0 iX8_type = true := by decide +kernel
set_option maxRecDepth 20000 in
theorem gX8_type : zGood mX8_type cX8_type yX8_type.cls (zwd yX8_type cX8_type 2 (zret 1)) := ⟨fun pc x h => by
    have h1 := zchkL_at kX8_type pc x h
    rw [Nat.zero_add] at h1
    exact h1, zlookF (fin := false) [(7, 8, 1, (.array .byte)), (58, 8, 2, .int)] (List.forall_mem_cons.mpr ⟨⟨(RX8, TX8, 24), rfl, by decide, List.mem_cons_of_mem _ zw716, fun w h => List.mem_cons_of_mem _ (zX8 w h), by decide +kernel, fun h => by cases h⟩, List.forall_mem_cons.mpr ⟨⟨(RX8, TX8, 24), rfl, by decide, List.mem_cons_of_mem _ zw717, fun w h => List.mem_cons_of_mem _ (zX8 w h), by decide +kernel, fun h => by cases h⟩, fun _ h => absurd h List.not_mem_nil⟩⟩), zlookF (fin := true) [(58, 8, 2, .int)] (List.forall_mem_cons.mpr ⟨⟨(RX8, TX8, 24), rfl, by decide, List.mem_cons_of_mem _ zw717, fun w h => List.mem_cons_of_mem _ (zX8 w h), by decide +kernel, fun _ => rfl⟩, fun _ h => absurd h List.not_mem_nil⟩), zlookup (β := Int32) (L := []) (P := fun ix b => Jvm.Cond.constant yX8_type.cls ix b ∈ (zwd yX8_type cX8_type 2 (zret 1))) (fun _ h => absurd h List.not_mem_nil), zlookup (β := Int64) (L := []) (P := fun ix b => Jvm.Cond.constantLong yX8_type.cls ix b ∈ (zwd yX8_type cX8_type 2 (zret 1))) (fun _ h => absurd h List.not_mem_nil), zlookup (β := Nat) (L := []) (P := fun ix b => zmok yX8_type.cls (zwd yX8_type cX8_type 2 (zret 1)) ix b) (fun _ h => absurd h List.not_mem_nil)⟩
set_option maxRecDepth 20000 in
theorem sX8_type (l : Launch) : ∀ (as : List Value) (ws : zW) (K : zP), zFr 2 (zGoes mX8_type 1 2) as ws K → zMet l yX8_type (zwd yX8_type cX8_type 2 (zret 1)) { frames := 2, cells := 0, slots := 0, locals := 400 } 1 as ws K := zFr_met (by decide +kernel) (by decide) (by decide) gX8_type (fun p e s m args below meth c D cy ad A n0 Q S hKK hA => ⟨fun ix n G h => zlookup (β := Nat × zG) (L := []) (P := fun ix b => zCO p l e { frames := 2, cells := 0, slots := 0, locals := 400 } s m args below meth c cX8_type 2 D cy ad A n0 0 0 Q (.invokevirtual ix) b.1 b.2) (fun _ h => absurd h List.not_mem_nil) ix (n, G) h, fun ix n G h => zlookup (β := Nat × zG) (L := [(54, 3, zFr 3 (zGoes mX8_in 3 3))]) (P := fun ix b => zCO p l e { frames := 2, cells := 0, slots := 0, locals := 400 } s m args below meth c cX8_type 2 D cy ad A n0 0 0 Q (.invokestatic ix) b.1 b.2) (List.forall_mem_cons.mpr ⟨zco_S S hKK hA ⟨Nat.zero_le _, Nat.zero_le _⟩ (va_cwS 3 S.2.2.2.2 (zgoodS zw794 zw795 zw57 zw796) rfl rfl rfl (by decide +kernel) (by decide +kernel)) (sX8_in l), fun _ h => absurd h List.not_mem_nil⟩) ix (n, G) h⟩) (by decide)
def iX8_clear : List (Option zI) := [some (.aload_n 0, 0, 1, []), some (.getfield 58, 0, 4, []), none, none, some (.istore_n 1, 0, 5, []), some (.aload_n 0, 0, 6, []), some (.iconst 0, 0, 7, []), some (.putfield 58, 0, 10, []), none, none, some (.iload_n 1, 0, 11, []), some (.ireturn, 0, 12, [])]
def mX8_clear : zM := (iX8_clear, [(58, 8, 2, .int)], [(58, 8, 2, .int)], [], [], [], [], [])
theorem kX8_clear : zchkL cX8_clear 0 iX8_clear = true := by decide +kernel
set_option maxRecDepth 20000 in
theorem gX8_clear : zGood mX8_clear cX8_clear yX8_clear.cls (zwd yX8_clear cX8_clear 2 (zret 1)) := ⟨fun pc x h => by
    have h1 := zchkL_at kX8_clear pc x h
    rw [Nat.zero_add] at h1
    exact h1, zlookF (fin := false) [(58, 8, 2, .int)] (List.forall_mem_cons.mpr ⟨⟨(RX8, TX8, 24), rfl, by decide, List.mem_cons_of_mem _ zw717, fun w h => List.mem_cons_of_mem _ (zX8 w h), by decide +kernel, fun h => by cases h⟩, fun _ h => absurd h List.not_mem_nil⟩), zlookF (fin := true) [(58, 8, 2, .int)] (List.forall_mem_cons.mpr ⟨⟨(RX8, TX8, 24), rfl, by decide, List.mem_cons_of_mem _ zw717, fun w h => List.mem_cons_of_mem _ (zX8 w h), by decide +kernel, fun _ => rfl⟩, fun _ h => absurd h List.not_mem_nil⟩), zlookup (β := Int32) (L := []) (P := fun ix b => Jvm.Cond.constant yX8_clear.cls ix b ∈ (zwd yX8_clear cX8_clear 2 (zret 1))) (fun _ h => absurd h List.not_mem_nil), zlookup (β := Int64) (L := []) (P := fun ix b => Jvm.Cond.constantLong yX8_clear.cls ix b ∈ (zwd yX8_clear cX8_clear 2 (zret 1))) (fun _ h => absurd h List.not_mem_nil), zlookup (β := Nat) (L := []) (P := fun ix b => zmok yX8_clear.cls (zwd yX8_clear cX8_clear 2 (zret 1)) ix b) (fun _ h => absurd h List.not_mem_nil)⟩
set_option maxRecDepth 20000 in
theorem sX8_clear (l : Launch) : ∀ (as : List Value) (ws : zW) (K : zP), zFr 1 (zGoes mX8_clear 1 2) as ws K → zMet l yX8_clear (zwd yX8_clear cX8_clear 2 (zret 1)) { frames := 1, cells := 0, slots := 0, locals := 200 } 1 as ws K := zFr_met (by decide +kernel) (by decide) (by decide) gX8_clear (fun p e s m args below meth c D cy ad A n0 Q S hKK hA => ⟨fun ix n G h => zlookup (β := Nat × zG) (L := []) (P := fun ix b => zCO p l e { frames := 1, cells := 0, slots := 0, locals := 200 } s m args below meth c cX8_clear 2 D cy ad A n0 0 0 Q (.invokevirtual ix) b.1 b.2) (fun _ h => absurd h List.not_mem_nil) ix (n, G) h, fun ix n G h => zlookup (β := Nat × zG) (L := []) (P := fun ix b => zCO p l e { frames := 1, cells := 0, slots := 0, locals := 200 } s m args below meth c cX8_clear 2 D cy ad A n0 0 0 Q (.invokestatic ix) b.1 b.2) (fun _ h => absurd h List.not_mem_nil) ix (n, G) h⟩) (by decide)
def iX8_here : List (Option zI) := [some (.aload_n 0, 0, 1, []), some (.getfield 62, 0, 4, []), none, none, some (.aload_n 0, 0, 5, []), some (.getfield 58, 0, 8, []), none, none, some (.if_icmp .ge 19, 0, 11, [27]), none, none, some (.aload_n 0, 0, 12, []), some (.getfield 7, 0, 15, []), none, none, some (.aload_n 0, 0, 16, []), some (.getfield 62, 0, 19, []), none, none, some (.baload, 0, 20, []), some (.sipush 255, 255, 23, []), none, none, some (.iand, 0, 24, []), some (.goto 4, 0, 27, [28]), none, none, some (.iconst (-1), (-1), 28, []), some (.ireturn, 0, 29, [])]
def mX8_here : zM := (iX8_here, [(7, 8, 1, (.array .byte)), (58, 8, 2, .int), (62, 8, 7, .int)], [], [], [], [], [], [])
theorem kX8_here : zchkL cX8_here 0 iX8_here = true := by decide +kernel
set_option maxRecDepth 20000 in
theorem gX8_here : zGood mX8_here cX8_here yX8_here.cls (zwd yX8_here cX8_here 1 (zret 1)) := ⟨fun pc x h => by
    have h1 := zchkL_at kX8_here pc x h
    rw [Nat.zero_add] at h1
    exact h1, zlookF (fin := false) [(7, 8, 1, (.array .byte)), (58, 8, 2, .int), (62, 8, 7, .int)] (List.forall_mem_cons.mpr ⟨⟨(RX8, TX8, 24), rfl, by decide, List.mem_cons_of_mem _ zw716, fun w h => List.mem_cons_of_mem _ (zX8 w h), by decide +kernel, fun h => by cases h⟩, List.forall_mem_cons.mpr ⟨⟨(RX8, TX8, 24), rfl, by decide, List.mem_cons_of_mem _ zw717, fun w h => List.mem_cons_of_mem _ (zX8 w h), by decide +kernel, fun h => by cases h⟩, List.forall_mem_cons.mpr ⟨⟨(RX8, TX8, 24), rfl, by decide, List.mem_cons_of_mem _ zw722, fun w h => List.mem_cons_of_mem _ (zX8 w h), by decide +kernel, fun h => by cases h⟩, fun _ h => absurd h List.not_mem_nil⟩⟩⟩), zlookF (fin := true) [] (fun _ h => absurd h List.not_mem_nil), zlookup (β := Int32) (L := []) (P := fun ix b => Jvm.Cond.constant yX8_here.cls ix b ∈ (zwd yX8_here cX8_here 1 (zret 1))) (fun _ h => absurd h List.not_mem_nil), zlookup (β := Int64) (L := []) (P := fun ix b => Jvm.Cond.constantLong yX8_here.cls ix b ∈ (zwd yX8_here cX8_here 1 (zret 1))) (fun _ h => absurd h List.not_mem_nil), zlookup (β := Nat) (L := []) (P := fun ix b => zmok yX8_here.cls (zwd yX8_here cX8_here 1 (zret 1)) ix b) (fun _ h => absurd h List.not_mem_nil)⟩
set_option maxRecDepth 20000 in
theorem sX8_here (l : Launch) : ∀ (as : List Value) (ws : zW) (K : zP), zFr 1 (zGoes mX8_here 1 1) as ws K → zMet l yX8_here (zwd yX8_here cX8_here 1 (zret 1)) { frames := 1, cells := 0, slots := 0, locals := 200 } 1 as ws K := zFr_met (by decide +kernel) (by decide) (by decide) gX8_here (fun p e s m args below meth c D cy ad A n0 Q S hKK hA => ⟨fun ix n G h => zlookup (β := Nat × zG) (L := []) (P := fun ix b => zCO p l e { frames := 1, cells := 0, slots := 0, locals := 200 } s m args below meth c cX8_here 1 D cy ad A n0 0 0 Q (.invokevirtual ix) b.1 b.2) (fun _ h => absurd h List.not_mem_nil) ix (n, G) h, fun ix n G h => zlookup (β := Nat × zG) (L := []) (P := fun ix b => zCO p l e { frames := 1, cells := 0, slots := 0, locals := 200 } s m args below meth c cX8_here 1 D cy ad A n0 0 0 Q (.invokestatic ix) b.1 b.2) (fun _ h => absurd h List.not_mem_nil) ix (n, G) h⟩) (by decide)
def iX8_step : List (Option zI) := [some (.aload_n 0, 0, 1, []), some (.invokevirtual 65, 0, 4, []), none, none, some (.bipush 32, 32, 6, []), none, some (.if_icmp .ne 16, 0, 9, [22]), none, none, some (.aload_n 0, 0, 10, []), some (.dup, 0, 11, []), some (.getfield 62, 0, 14, []), none, none, some (.iconst 1, 1, 15, []), some (.iadd, 0, 16, []), some (.putfield 62, 0, 19, []), none, none, some (.goto (-19), 0, 22, [0]), none, none, some (.aload_n 0, 0, 23, []), some (.aload_n 0, 0, 24, []), some (.getfield 62, 0, 27, []), none, none, some (.putfield 69, 0, 30, []), none, none, some (.aload_n 0, 0, 31, []), some (.iconst 0, 0, 32, []), some (.putfield 72, 0, 35, []), none, none, some (.aload_n 0, 0, 36, []), some (.invokevirtual 65, 0, 39, []), none, none, some (.istore_n 1, 0, 40, []), some (.iload_n 1, 0, 41, []), some (.ifCond .ge 11, 0, 44, [52]), none, none, some (.aload_n 0, 0, 45, []), some (.iconst 3, 3, 46, []), some (.putfield 75, 0, 49, []), none, none, some (.goto 204, 0, 52, [253]), none, none, some (.iload_n 1, 0, 53, []), some (.bipush 97, 97, 55, []), none, some (.bipush 122, 122, 57, []), none, some (.invokestatic 54, 0, 60, []), none, none, some (.ifCond .eq 55, 0, 63, [115]), none, none, some (.aload_n 0, 0, 64, []), some (.invokevirtual 65, 0, 67, []), none, none, some (.bipush 97, 97, 69, []), none, some (.bipush 122, 122, 71, []), none, some (.invokestatic 54, 0, 74, []), none, none, some (.ifCond .eq 16, 0, 77, [90]), none, none, some (.aload_n 0, 0, 78, []), some (.dup, 0, 79, []), some (.getfield 62, 0, 82, []), none, none, some (.iconst 1, 1, 83, []), some (.iadd, 0, 84, []), some (.putfield 62, 0, 87, []), none, none, some (.goto (-24), 0, 90, [63]), none, none, some (.aload_n 0, 0, 91, []), some (.aload_n 0, 0, 92, []), some (.getfield 62, 0, 95, []), none, none, some (.aload_n 0, 0, 96, []), some (.getfield 69, 0, 99, []), none, none, some (.isub, 0, 100, []), some (.iconst 1, 1, 101, []), some (.if_icmp .ne 7, 0, 104, [108]), none, none, some (.iload_n 1, 0, 105, []), some (.goto 4, 0, 108, [109]), none, none, some (.iconst 4, 4, 109, []), some (.putfield 75, 0, 112, []), none, none, some (.goto 141, 0, 115, [253]), none, none, some (.iload_n 1, 0, 116, []), some (.bipush 48, 48, 118, []), none, some (.bipush 57, 57, 120, []), none, some (.invokestatic 54, 0, 123, []), none, none, some (.ifCond .eq 105, 0, 126, [228]), none, none, some (.aload_n 0, 0, 127, []), some (.invokevirtual 65, 0, 130, []), none, none, some (.bipush 48, 48, 132, []), none, some (.bipush 57, 57, 134, []), none, some (.invokestatic 54, 0, 137, []), none, none, some (.ifCond .eq 51, 0, 140, [188]), none, none, some (.aload_n 0, 0, 141, []), some (.aload_n 0, 0, 142, []), some (.getfield 72, 0, 145, []), none, none, some (.bipush 99, 99, 147, []), none, some (.if_icmp .le 10, 0, 150, [157]), none, none, some (.aload_n 0, 0, 151, []), some (.getfield 72, 0, 154, []), none, none, some (.goto 18, 0, 157, [172]), none, none, some (.bipush 10, 10, 159, []), none, some (.aload_n 0, 0, 160, []), some (.getfield 72, 0, 163, []), none, none, some (.imul, 0, 164, []), some (.aload_n 0, 0, 165, []), some (.invokevirtual 65, 0, 168, []), none, none, some (.iadd, 0, 169, []), some (.bipush 48, 48, 171, []), none, some (.isub, 0, 172, []), some (.putfield 72, 0, 175, []), none, none, some (.aload_n 0, 0, 176, []), some (.dup, 0, 177, []), some (.getfield 62, 0, 180, []), none, none, some (.iconst 1, 1, 181, []), some (.iadd, 0, 182, []), some (.putfield 62, 0, 185, []), none, none, some (.goto (-59), 0, 188, [126]), none, none, some (.aload_n 0, 0, 189, []), some (.aload_n 0, 0, 190, []), some (.getfield 72, 0, 193, []), none, none, some (.bipush 99, 99, 195, []), none, some (.if_icmp .gt 22, 0, 198, [217]), none, none, some (.iload_n 1, 0, 199, []), some (.bipush 48, 48, 201, []), none, some (.if_icmp .ne 20, 0, 204, [221]), none, none, some (.aload_n 0, 0, 205, []), some (.getfield 62, 0, 208, []), none, none, some (.aload_n 0, 0, 209, []), some (.getfield 69, 0, 212, []), none, none, some (.isub, 0, 213, []), some (.iconst 1, 1, 214, []), some (.if_icmp .le 7, 0, 217, [221]), none, none, some (.iconst 4, 4, 218, []), some (.goto 4, 0, 221, [222]), none, none, some (.iconst 1, 1, 222, []), some (.putfield 75, 0, 225, []), none, none, some (.goto 28, 0, 228, [253]), none, none, some (.aload_n 0, 0, 229, []), some (.dup, 0, 230, []), some (.getfield 62, 0, 233, []), none, none, some (.iconst 1, 1, 234, []), some (.iadd, 0, 235, []), some (.putfield 62, 0, 238, []), none, none, some (.aload_n 0, 0, 239, []), some (.iload_n 1, 0, 240, []), some (.bipush 59, 59, 242, []), none, some (.if_icmp .ne 7, 0, 245, [249]), none, none, some (.iconst 2, 2, 246, []), some (.goto 4, 0, 249, [250]), none, none, some (.iconst 4, 4, 250, []), some (.putfield 75, 0, 253, []), none, none, some (.return_, 0, 254, [])]
def mX8_step : zM := (iX8_step, [(62, 8, 7, .int), (69, 8, 8, .int), (72, 8, 10, .int)], [(62, 8, 7, .int), (69, 8, 8, .int), (72, 8, 10, .int), (75, 8, 9, .int)], [], [], [], [(65, 1, zFV 8 1 (zGoes mX8_here 1 1))], [(54, 3, zFr 3 (zGoes mX8_in 3 3))])
theorem kX8_step : zchkL cX8_step 0 iX8_step = true := by decide +kernel
set_option maxRecDepth 20000 in
theorem gX8_step : zGood mX8_step cX8_step yX8_step.cls (zwd yX8_step cX8_step 2 (zret 0)) := ⟨fun pc x h => by
    have h1 := zchkL_at kX8_step pc x h
    rw [Nat.zero_add] at h1
    exact h1, zlookF (fin := false) [(62, 8, 7, .int), (69, 8, 8, .int), (72, 8, 10, .int)] (List.forall_mem_cons.mpr ⟨⟨(RX8, TX8, 24), rfl, by decide, List.mem_cons_of_mem _ zw722, fun w h => List.mem_cons_of_mem _ (zX8 w h), by decide +kernel, fun h => by cases h⟩, List.forall_mem_cons.mpr ⟨⟨(RX8, TX8, 24), rfl, by decide, List.mem_cons_of_mem _ zw723, fun w h => List.mem_cons_of_mem _ (zX8 w h), by decide +kernel, fun h => by cases h⟩, List.forall_mem_cons.mpr ⟨⟨(RX8, TX8, 24), rfl, by decide, List.mem_cons_of_mem _ zw725, fun w h => List.mem_cons_of_mem _ (zX8 w h), by decide +kernel, fun h => by cases h⟩, fun _ h => absurd h List.not_mem_nil⟩⟩⟩), zlookF (fin := true) [(62, 8, 7, .int), (69, 8, 8, .int), (72, 8, 10, .int), (75, 8, 9, .int)] (List.forall_mem_cons.mpr ⟨⟨(RX8, TX8, 24), rfl, by decide, List.mem_cons_of_mem _ zw722, fun w h => List.mem_cons_of_mem _ (zX8 w h), by decide +kernel, fun _ => rfl⟩, List.forall_mem_cons.mpr ⟨⟨(RX8, TX8, 24), rfl, by decide, List.mem_cons_of_mem _ zw723, fun w h => List.mem_cons_of_mem _ (zX8 w h), by decide +kernel, fun _ => rfl⟩, List.forall_mem_cons.mpr ⟨⟨(RX8, TX8, 24), rfl, by decide, List.mem_cons_of_mem _ zw725, fun w h => List.mem_cons_of_mem _ (zX8 w h), by decide +kernel, fun _ => rfl⟩, List.forall_mem_cons.mpr ⟨⟨(RX8, TX8, 24), rfl, by decide, List.mem_cons_of_mem _ zw724, fun w h => List.mem_cons_of_mem _ (zX8 w h), by decide +kernel, fun _ => rfl⟩, fun _ h => absurd h List.not_mem_nil⟩⟩⟩⟩), zlookup (β := Int32) (L := []) (P := fun ix b => Jvm.Cond.constant yX8_step.cls ix b ∈ (zwd yX8_step cX8_step 2 (zret 0))) (fun _ h => absurd h List.not_mem_nil), zlookup (β := Int64) (L := []) (P := fun ix b => Jvm.Cond.constantLong yX8_step.cls ix b ∈ (zwd yX8_step cX8_step 2 (zret 0))) (fun _ h => absurd h List.not_mem_nil), zlookup (β := Nat) (L := []) (P := fun ix b => zmok yX8_step.cls (zwd yX8_step cX8_step 2 (zret 0)) ix b) (fun _ h => absurd h List.not_mem_nil)⟩
set_option maxRecDepth 20000 in
theorem sX8_step (l : Launch) : ∀ (as : List Value) (ws : zW) (K : zP), zFr 1 (zGoes mX8_step 0 2) as ws K → zMet l yX8_step (zwd yX8_step cX8_step 2 (zret 0)) { frames := 2, cells := 0, slots := 0, locals := 400 } 0 as ws K := zFr_met (by decide +kernel) (by decide) (by decide) gX8_step (fun p e s m args below meth c D cy ad A n0 Q S hKK hA => ⟨fun ix n G h => zlookup (β := Nat × zG) (L := [(65, 1, zFV 8 1 (zGoes mX8_here 1 1))]) (P := fun ix b => zCO p l e { frames := 2, cells := 0, slots := 0, locals := 400 } s m args below meth c cX8_step 2 D cy ad A n0 0 0 Q (.invokevirtual ix) b.1 b.2) (List.forall_mem_cons.mpr ⟨zco_V (ci := 8) S hKK hA ⟨Nat.zero_le _, Nat.zero_le _⟩ (cwV 0 S.2.2.2.2 (zgoodV zw809 zw811 zw32 zw57 zw812) rfl rfl rfl (by decide +kernel) (by decide +kernel)) rfl rfl (sX8_here l), fun _ h => absurd h List.not_mem_nil⟩) ix (n, G) h, fun ix n G h => zlookup (β := Nat × zG) (L := [(54, 3, zFr 3 (zGoes mX8_in 3 3))]) (P := fun ix b => zCO p l e { frames := 2, cells := 0, slots := 0, locals := 400 } s m args below meth c cX8_step 2 D cy ad A n0 0 0 Q (.invokestatic ix) b.1 b.2) (List.forall_mem_cons.mpr ⟨zco_S S hKK hA ⟨Nat.zero_le _, Nat.zero_le _⟩ (va_cwS 3 S.2.2.2.2 (zgoodS zw794 zw795 zw57 zw796) rfl rfl rfl (by decide +kernel) (by decide +kernel)) (sX8_in l), fun _ h => absurd h List.not_mem_nil⟩) ix (n, G) h⟩) (by decide)
def iX8_due : List (Option zI) := [some (.aload_n 0, 0, 1, []), some (.getfield 72, 0, 4, []), none, none, some (.istore_n 2, 0, 5, []), some (.aload_n 0, 0, 6, []), some (.getfield 78, 0, 9, []), none, none, some (.sipush (-1009), (-1009), 12, []), none, none, some (.if_icmp .ne 22, 0, 15, [34]), none, none, some (.iload_n 1, 0, 16, []), some (.ifCond .eq 10, 0, 19, [26]), none, none, some (.aload_n 0, 0, 20, []), some (.invokevirtual 81, 0, 23, []), none, none, some (.goto 11, 0, 26, [34]), none, none, some (.aload_n 0, 0, 27, []), some (.aload_n 0, 0, 28, []), some (.getfield 69, 0, 31, []), none, none, some (.putfield 78, 0, 34, []), none, none, some (.iload_n 2, 0, 35, []), some (.ireturn, 0, 36, [])]
def mX8_due : zM := (iX8_due, [(69, 8, 8, .int), (72, 8, 10, .int), (78, 8, 11, .int)], [(78, 8, 11, .int)], [], [], [], [(81, 1, zFV 8 1 (zGoes mX8_step 0 2))], [])
theorem kX8_due : zchkL cX8_due 0 iX8_due = true := by decide +kernel
set_option maxRecDepth 20000 in
theorem gX8_due : zGood mX8_due cX8_due yX8_due.cls (zwd yX8_due cX8_due 3 (zret 1)) := ⟨fun pc x h => by
    have h1 := zchkL_at kX8_due pc x h
    rw [Nat.zero_add] at h1
    exact h1, zlookF (fin := false) [(69, 8, 8, .int), (72, 8, 10, .int), (78, 8, 11, .int)] (List.forall_mem_cons.mpr ⟨⟨(RX8, TX8, 24), rfl, by decide, List.mem_cons_of_mem _ zw723, fun w h => List.mem_cons_of_mem _ (zX8 w h), by decide +kernel, fun h => by cases h⟩, List.forall_mem_cons.mpr ⟨⟨(RX8, TX8, 24), rfl, by decide, List.mem_cons_of_mem _ zw725, fun w h => List.mem_cons_of_mem _ (zX8 w h), by decide +kernel, fun h => by cases h⟩, List.forall_mem_cons.mpr ⟨⟨(RX8, TX8, 24), rfl, by decide, List.mem_cons_of_mem _ zw726, fun w h => List.mem_cons_of_mem _ (zX8 w h), by decide +kernel, fun h => by cases h⟩, fun _ h => absurd h List.not_mem_nil⟩⟩⟩), zlookF (fin := true) [(78, 8, 11, .int)] (List.forall_mem_cons.mpr ⟨⟨(RX8, TX8, 24), rfl, by decide, List.mem_cons_of_mem _ zw726, fun w h => List.mem_cons_of_mem _ (zX8 w h), by decide +kernel, fun _ => rfl⟩, fun _ h => absurd h List.not_mem_nil⟩), zlookup (β := Int32) (L := []) (P := fun ix b => Jvm.Cond.constant yX8_due.cls ix b ∈ (zwd yX8_due cX8_due 3 (zret 1))) (fun _ h => absurd h List.not_mem_nil), zlookup (β := Int64) (L := []) (P := fun ix b => Jvm.Cond.constantLong yX8_due.cls ix b ∈ (zwd yX8_due cX8_due 3 (zret 1))) (fun _ h => absurd h List.not_mem_nil), zlookup (β := Nat) (L := []) (P := fun ix b => zmok yX8_due.cls (zwd yX8_due cX8_due 3 (zret 1)) ix b) (fun _ h => absurd h List.not_mem_nil)⟩
set_option maxRecDepth 20000 in
theorem sX8_due (l : Launch) : ∀ (as : List Value) (ws : zW) (K : zP), zFr 2 (zGoes mX8_due 1 3) as ws K → zMet l yX8_due (zwd yX8_due cX8_due 3 (zret 1)) { frames := 3, cells := 0, slots := 0, locals := 600 } 1 as ws K := zFr_met (by decide +kernel) (by decide) (by decide) gX8_due (fun p e s m args below meth c D cy ad A n0 Q S hKK hA => ⟨fun ix n G h => zlookup (β := Nat × zG) (L := [(81, 1, zFV 8 1 (zGoes mX8_step 0 2))]) (P := fun ix b => zCO p l e { frames := 3, cells := 0, slots := 0, locals := 600 } s m args below meth c cX8_due 3 D cy ad A n0 0 0 Q (.invokevirtual ix) b.1 b.2) (List.forall_mem_cons.mpr ⟨zco_V (ci := 8) S hKK hA ⟨Nat.zero_le _, Nat.zero_le _⟩ (cwV 0 S.2.2.2.2 (zgoodV zw805 zw807 zw31 zw57 zw808) rfl rfl rfl (by decide +kernel) (by decide +kernel)) rfl rfl (sX8_step l), fun _ h => absurd h List.not_mem_nil⟩) ix (n, G) h, fun ix n G h => zlookup (β := Nat × zG) (L := []) (P := fun ix b => zCO p l e { frames := 3, cells := 0, slots := 0, locals := 600 } s m args below meth c cX8_due 3 D cy ad A n0 0 0 Q (.invokestatic ix) b.1 b.2) (fun _ h => absurd h List.not_mem_nil) ix (n, G) h⟩) (by decide)
def iX8_number : List (Option zI) := [some (.aload_n 0, 0, 1, []), some (.aload_n 0, 0, 2, []), some (.getfield 75, 0, 5, []), none, none, some (.iconst 1, 1, 6, []), some (.if_icmp .ne 19, 0, 9, [25]), none, none, some (.aload_n 0, 0, 10, []), some (.getfield 72, 0, 13, []), none, none, some (.iload_n 1, 0, 14, []), some (.iload_n 2, 0, 15, []), some (.invokestatic 54, 0, 18, []), none, none, some (.ifCond .eq 7, 0, 21, [25]), none, none, some (.iconst 1, 1, 22, []), some (.goto 4, 0, 25, [26]), none, none, some (.iconst 0, 0, 26, []), some (.invokevirtual 84, 0, 29, []), none, none, some (.ireturn, 0, 30, [])]
def mX8_number : zM := (iX8_number, [(72, 8, 10, .int), (75, 8, 9, .int)], [], [], [], [], [(84, 2, zFV 8 2 (zGoes mX8_due 1 3))], [(54, 3, zFr 3 (zGoes mX8_in 3 3))])
theorem kX8_number : zchkL cX8_number 0 iX8_number = true := by decide +kernel
set_option maxRecDepth 20000 in
theorem gX8_number : zGood mX8_number cX8_number yX8_number.cls (zwd yX8_number cX8_number 3 (zret 1)) := ⟨fun pc x h => by
    have h1 := zchkL_at kX8_number pc x h
    rw [Nat.zero_add] at h1
    exact h1, zlookF (fin := false) [(72, 8, 10, .int), (75, 8, 9, .int)] (List.forall_mem_cons.mpr ⟨⟨(RX8, TX8, 24), rfl, by decide, List.mem_cons_of_mem _ zw725, fun w h => List.mem_cons_of_mem _ (zX8 w h), by decide +kernel, fun h => by cases h⟩, List.forall_mem_cons.mpr ⟨⟨(RX8, TX8, 24), rfl, by decide, List.mem_cons_of_mem _ zw724, fun w h => List.mem_cons_of_mem _ (zX8 w h), by decide +kernel, fun h => by cases h⟩, fun _ h => absurd h List.not_mem_nil⟩⟩), zlookF (fin := true) [] (fun _ h => absurd h List.not_mem_nil), zlookup (β := Int32) (L := []) (P := fun ix b => Jvm.Cond.constant yX8_number.cls ix b ∈ (zwd yX8_number cX8_number 3 (zret 1))) (fun _ h => absurd h List.not_mem_nil), zlookup (β := Int64) (L := []) (P := fun ix b => Jvm.Cond.constantLong yX8_number.cls ix b ∈ (zwd yX8_number cX8_number 3 (zret 1))) (fun _ h => absurd h List.not_mem_nil), zlookup (β := Nat) (L := []) (P := fun ix b => zmok yX8_number.cls (zwd yX8_number cX8_number 3 (zret 1)) ix b) (fun _ h => absurd h List.not_mem_nil)⟩
set_option maxRecDepth 20000 in
theorem sX8_number (l : Launch) : ∀ (as : List Value) (ws : zW) (K : zP), zFr 3 (zGoes mX8_number 1 3) as ws K → zMet l yX8_number (zwd yX8_number cX8_number 3 (zret 1)) { frames := 4, cells := 0, slots := 0, locals := 800 } 1 as ws K := zFr_met (by decide +kernel) (by decide) (by decide) gX8_number (fun p e s m args below meth c D cy ad A n0 Q S hKK hA => ⟨fun ix n G h => zlookup (β := Nat × zG) (L := [(84, 2, zFV 8 2 (zGoes mX8_due 1 3))]) (P := fun ix b => zCO p l e { frames := 4, cells := 0, slots := 0, locals := 800 } s m args below meth c cX8_number 3 D cy ad A n0 0 0 Q (.invokevirtual ix) b.1 b.2) (List.forall_mem_cons.mpr ⟨zco_V (ci := 8) S hKK hA ⟨Nat.zero_le _, Nat.zero_le _⟩ (cwV 1 S.2.2.2.2 (zgoodV zw820 zw822 zw34 zw57 zw823) rfl rfl rfl (by decide +kernel) (by decide +kernel)) rfl rfl (sX8_due l), fun _ h => absurd h List.not_mem_nil⟩) ix (n, G) h, fun ix n G h => zlookup (β := Nat × zG) (L := [(54, 3, zFr 3 (zGoes mX8_in 3 3))]) (P := fun ix b => zCO p l e { frames := 4, cells := 0, slots := 0, locals := 800 } s m args below meth c cX8_number 3 D cy ad A n0 0 0 Q (.invokestatic ix) b.1 b.2) (List.forall_mem_cons.mpr ⟨zco_S S hKK hA ⟨Nat.zero_le _, Nat.zero_le _⟩ (va_cwS 3 S.2.2.2.2 (zgoodS zw794 zw795 zw57 zw796) rfl rfl rfl (by decide +kernel) (by decide +kernel)) (sX8_in l), fun _ h => absurd h List.not_mem_nil⟩) ix (n, G) h⟩) (by decide)
def iX8_lawOf : List (Option zI) := [some (.iload_n 0, 0, 1, []), some (.bipush 112, 112, 3, []), none, some (.if_icmp .ne 7, 0, 6, [10]), none, none, some (.iconst 0, 0, 7, []), some (.goto 26, 0, 10, [33]), none, none, some (.iload_n 0, 0, 11, []), some (.bipush 101, 101, 13, []), none, some (.if_icmp .ne 7, 0, 16, [20]), none, none, some (.iconst 1, 1, 17, []), some (.goto 16, 0, 20, [33]), none, none, some (.iload_n 0, 0, 21, []), some (.bipush 119, 119, 23, []), none, some (.if_icmp .ne 7, 0, 26, [30]), none, none, some (.iconst 2, 2, 27, []), some (.goto 6, 0, 30, [33]), none, none, some (.sipush (-1009), (-1009), 33, []), none, none, some (.ireturn, 0, 34, [])]
def mX8_lawOf : zM := (iX8_lawOf, [], [], [], [], [], [], [])
theorem kX8_lawOf : zchkL cX8_lawOf 0 iX8_lawOf = true := by decide +kernel
set_option maxRecDepth 20000 in
theorem gX8_lawOf : zGood mX8_lawOf cX8_lawOf yX8_lawOf.cls (zwd yX8_lawOf cX8_lawOf 1 (zret 1)) := ⟨fun pc x h => by
    have h1 := zchkL_at kX8_lawOf pc x h
    rw [Nat.zero_add] at h1
    exact h1, zlookF (fin := false) [] (fun _ h => absurd h List.not_mem_nil), zlookF (fin := true) [] (fun _ h => absurd h List.not_mem_nil), zlookup (β := Int32) (L := []) (P := fun ix b => Jvm.Cond.constant yX8_lawOf.cls ix b ∈ (zwd yX8_lawOf cX8_lawOf 1 (zret 1))) (fun _ h => absurd h List.not_mem_nil), zlookup (β := Int64) (L := []) (P := fun ix b => Jvm.Cond.constantLong yX8_lawOf.cls ix b ∈ (zwd yX8_lawOf cX8_lawOf 1 (zret 1))) (fun _ h => absurd h List.not_mem_nil), zlookup (β := Nat) (L := []) (P := fun ix b => zmok yX8_lawOf.cls (zwd yX8_lawOf cX8_lawOf 1 (zret 1)) ix b) (fun _ h => absurd h List.not_mem_nil)⟩
set_option maxRecDepth 20000 in
theorem sX8_lawOf (l : Launch) : ∀ (as : List Value) (ws : zW) (K : zP), zFr 1 (zGoes mX8_lawOf 1 1) as ws K → zMet l yX8_lawOf (zwd yX8_lawOf cX8_lawOf 1 (zret 1)) { frames := 1, cells := 0, slots := 0, locals := 200 } 1 as ws K := zFr_met (by decide +kernel) (by decide) (by decide) gX8_lawOf (fun p e s m args below meth c D cy ad A n0 Q S hKK hA => ⟨fun ix n G h => zlookup (β := Nat × zG) (L := []) (P := fun ix b => zCO p l e { frames := 1, cells := 0, slots := 0, locals := 200 } s m args below meth c cX8_lawOf 1 D cy ad A n0 0 0 Q (.invokevirtual ix) b.1 b.2) (fun _ h => absurd h List.not_mem_nil) ix (n, G) h, fun ix n G h => zlookup (β := Nat × zG) (L := []) (P := fun ix b => zCO p l e { frames := 1, cells := 0, slots := 0, locals := 200 } s m args below meth c cX8_lawOf 1 D cy ad A n0 0 0 Q (.invokestatic ix) b.1 b.2) (fun _ h => absurd h List.not_mem_nil) ix (n, G) h⟩) (by decide)
def iX8_mayBe : List (Option zI) := [some (.iload_n 1, 0, 1, []), some (.invokestatic 88, 0, 4, []), none, none, some (.istore_n 2, 0, 5, []), some (.iload_n 1, 0, 6, []), some (.bipush 109, 109, 8, []), none, some (.if_icmp .ne 22, 0, 11, [30]), none, none, some (.aload_n 0, 0, 12, []), some (.getfield 13, 0, 15, []), none, none, some (.iconst 1, 1, 16, []), some (.iaload, 0, 17, []), some (.bipush 7, 7, 19, []), none, some (.if_icmp .ge 7, 0, 22, [26]), none, none, some (.iconst 1, 1, 23, []), some (.goto 30, 0, 26, [53]), none, none, some (.iconst 0, 0, 27, []), some (.goto 26, 0, 30, [53]), none, none, some (.iload_n 2, 0, 31, []), some (.sipush (-1009), (-1009), 34, []), none, none, some (.if_icmp .eq 18, 0, 37, [52]), none, none, some (.aload_n 0, 0, 38, []), some (.getfield 92, 0, 41, []), none, none, some (.iload_n 2, 0, 42, []), some (.ishr, 0, 43, []), some (.iconst 1, 1, 44, []), some (.iand, 0, 45, []), some (.ifCond .ne 7, 0, 48, [52]), none, none, some (.iconst 1, 1, 49, []), some (.goto 4, 0, 52, [53]), none, none, some (.iconst 0, 0, 53, []), some (.ireturn, 0, 54, [])]
def mX8_mayBe : zM := (iX8_mayBe, [(13, 8, 3, (.array .int)), (92, 8, 12, .int)], [], [], [], [], [], [(88, 1, zFr 1 (zGoes mX8_lawOf 1 1))])
theorem kX8_mayBe : zchkL cX8_mayBe 0 iX8_mayBe = true := by decide +kernel
set_option maxRecDepth 20000 in
theorem gX8_mayBe : zGood mX8_mayBe cX8_mayBe yX8_mayBe.cls (zwd yX8_mayBe cX8_mayBe 3 (zret 3)) := ⟨fun pc x h => by
    have h1 := zchkL_at kX8_mayBe pc x h
    rw [Nat.zero_add] at h1
    exact h1, zlookF (fin := false) [(13, 8, 3, (.array .int)), (92, 8, 12, .int)] (List.forall_mem_cons.mpr ⟨⟨(RX8, TX8, 24), rfl, by decide, List.mem_cons_of_mem _ zw718, fun w h => List.mem_cons_of_mem _ (zX8 w h), by decide +kernel, fun h => by cases h⟩, List.forall_mem_cons.mpr ⟨⟨(RX8, TX8, 24), rfl, by decide, List.mem_cons_of_mem _ zw727, fun w h => List.mem_cons_of_mem _ (zX8 w h), by decide +kernel, fun h => by cases h⟩, fun _ h => absurd h List.not_mem_nil⟩⟩), zlookF (fin := true) [] (fun _ h => absurd h List.not_mem_nil), zlookup (β := Int32) (L := []) (P := fun ix b => Jvm.Cond.constant yX8_mayBe.cls ix b ∈ (zwd yX8_mayBe cX8_mayBe 3 (zret 3))) (fun _ h => absurd h List.not_mem_nil), zlookup (β := Int64) (L := []) (P := fun ix b => Jvm.Cond.constantLong yX8_mayBe.cls ix b ∈ (zwd yX8_mayBe cX8_mayBe 3 (zret 3))) (fun _ h => absurd h List.not_mem_nil), zlookup (β := Nat) (L := []) (P := fun ix b => zmok yX8_mayBe.cls (zwd yX8_mayBe cX8_mayBe 3 (zret 3)) ix b) (fun _ h => absurd h List.not_mem_nil)⟩
set_option maxRecDepth 20000 in
theorem sX8_mayBe (l : Launch) : ∀ (as : List Value) (ws : zW) (K : zP), zFr 2 (zGoes mX8_mayBe 3 3) as ws K → zMet l yX8_mayBe (zwd yX8_mayBe cX8_mayBe 3 (zret 3)) { frames := 2, cells := 0, slots := 0, locals := 400 } 3 as ws K := zFr_met (by decide +kernel) (by decide) (by decide) gX8_mayBe (fun p e s m args below meth c D cy ad A n0 Q S hKK hA => ⟨fun ix n G h => zlookup (β := Nat × zG) (L := []) (P := fun ix b => zCO p l e { frames := 2, cells := 0, slots := 0, locals := 400 } s m args below meth c cX8_mayBe 3 D cy ad A n0 0 0 Q (.invokevirtual ix) b.1 b.2) (fun _ h => absurd h List.not_mem_nil) ix (n, G) h, fun ix n G h => zlookup (β := Nat × zG) (L := [(88, 1, zFr 1 (zGoes mX8_lawOf 1 1))]) (P := fun ix b => zCO p l e { frames := 2, cells := 0, slots := 0, locals := 400 } s m args below meth c cX8_mayBe 3 D cy ad A n0 0 0 Q (.invokestatic ix) b.1 b.2) (List.forall_mem_cons.mpr ⟨zco_S S hKK hA ⟨Nat.zero_le _, Nat.zero_le _⟩ (va_cwS 1 S.2.2.2.2 (zgoodS zw817 zw818 zw57 zw819) rfl rfl rfl (by decide +kernel) (by decide +kernel)) (sX8_lawOf l), fun _ h => absurd h List.not_mem_nil⟩) ix (n, G) h⟩) (by decide)
def iX8_readRow : List (Option zI) := [some (.iload_n 1, 0, 1, []), some (.bipush 109, 109, 3, []), none, some (.if_icmp .ne 58, 0, 6, [61]), none, none, some (.aload_n 0, 0, 7, []), some (.getfield 17, 0, 10, []), none, none, some (.bipush 7, 7, 12, []), none, some (.aload_n 0, 0, 13, []), some (.getfield 13, 0, 16, []), none, none, some (.iconst 1, 1, 17, []), some (.iaload, 0, 18, []), some (.iadd, 0, 19, []), some (.aload_n 0, 0, 20, []), some (.iconst 1, 1, 21, []), some (.bipush 60, 60, 23, []), none, some (.invokevirtual 95, 0, 26, []), none, none, some (.iastore, 0, 27, []), some (.aload_n 0, 0, 28, []), some (.getfield 20, 0, 31, []), none, none, some (.bipush 7, 7, 33, []), none, some (.aload_n 0, 0, 34, []), some (.getfield 13, 0, 37, []), none, none, some (.iconst 1, 1, 38, []), some (.iaload, 0, 39, []), some (.iadd, 0, 40, []), some (.aload_n 0, 0, 41, []), some (.iconst 1, 1, 42, []), some (.bipush 99, 99, 44, []), none, some (.invokevirtual 95, 0, 47, []), none, none, some (.iastore, 0, 48, []), some (.aload_n 0, 0, 49, []), some (.getfield 13, 0, 52, []), none, none, some (.iconst 1, 1, 53, []), some (.dup2, 0, 54, []), some (.iaload, 0, 55, []), some (.iconst 1, 1, 56, []), some (.iadd, 0, 57, []), some (.iastore, 0, 58, []), some (.goto 49, 0, 61, [107]), none, none, some (.iload_n 1, 0, 62, []), some (.invokestatic 88, 0, 65, []), none, none, some (.istore_n 2, 0, 66, []), some (.aload_n 0, 0, 67, []), some (.getfield 23, 0, 70, []), none, none, some (.iconst 3, 3, 71, []), some (.iload_n 2, 0, 72, []), some (.iadd, 0, 73, []), some (.iload_n 2, 0, 74, []), some (.ifCond .ne 13, 0, 77, [87]), none, none, some (.aload_n 0, 0, 78, []), some (.iconst 1, 1, 79, []), some (.bipush 60, 60, 81, []), none, some (.invokevirtual 95, 0, 84, []), none, none, some (.goto 10, 0, 87, [94]), none, none, some (.aload_n 0, 0, 88, []), some (.iconst 0, 0, 89, []), some (.bipush 10, 10, 91, []), none, some (.invokevirtual 95, 0, 94, []), none, none, some (.iastore, 0, 95, []), some (.aload_n 0, 0, 96, []), some (.dup, 0, 97, []), some (.getfield 92, 0, 100, []), none, none, some (.iconst 1, 1, 101, []), some (.iload_n 2, 0, 102, []), some (.ishl, 0, 103, []), some (.ior, 0, 104, []), some (.putfield 92, 0, 107, []), none, none, some (.return_, 0, 108, [])]
def mX8_readRow : zM := (iX8_readRow, [(13, 8, 3, (.array .int)), (17, 8, 4, (.array .int)), (20, 8, 5, (.array .int)), (23, 8, 6, (.array .int)), (92, 8, 12, .int)], [(92, 8, 12, .int)], [], [], [], [(95, 3, zFV 8 3 (zGoes mX8_number 1 3))], [(88, 1, zFr 1 (zGoes mX8_lawOf 1 1))])
theorem kX8_readRow : zchkL cX8_readRow 0 iX8_readRow = true := by decide +kernel
set_option maxRecDepth 20000 in
theorem gX8_readRow : zGood mX8_readRow cX8_readRow yX8_readRow.cls (zwd yX8_readRow cX8_readRow 3 (zret 0)) := ⟨fun pc x h => by
    have h1 := zchkL_at kX8_readRow pc x h
    rw [Nat.zero_add] at h1
    exact h1, zlookF (fin := false) [(13, 8, 3, (.array .int)), (17, 8, 4, (.array .int)), (20, 8, 5, (.array .int)), (23, 8, 6, (.array .int)), (92, 8, 12, .int)] (List.forall_mem_cons.mpr ⟨⟨(RX8, TX8, 24), rfl, by decide, List.mem_cons_of_mem _ zw718, fun w h => List.mem_cons_of_mem _ (zX8 w h), by decide +kernel, fun h => by cases h⟩, List.forall_mem_cons.mpr ⟨⟨(RX8, TX8, 24), rfl, by decide, List.mem_cons_of_mem _ zw719, fun w h => List.mem_cons_of_mem _ (zX8 w h), by decide +kernel, fun h => by cases h⟩, List.forall_mem_cons.mpr ⟨⟨(RX8, TX8, 24), rfl, by decide, List.mem_cons_of_mem _ zw720, fun w h => List.mem_cons_of_mem _ (zX8 w h), by decide +kernel, fun h => by cases h⟩, List.forall_mem_cons.mpr ⟨⟨(RX8, TX8, 24), rfl, by decide, List.mem_cons_of_mem _ zw721, fun w h => List.mem_cons_of_mem _ (zX8 w h), by decide +kernel, fun h => by cases h⟩, List.forall_mem_cons.mpr ⟨⟨(RX8, TX8, 24), rfl, by decide, List.mem_cons_of_mem _ zw727, fun w h => List.mem_cons_of_mem _ (zX8 w h), by decide +kernel, fun h => by cases h⟩, fun _ h => absurd h List.not_mem_nil⟩⟩⟩⟩⟩), zlookF (fin := true) [(92, 8, 12, .int)] (List.forall_mem_cons.mpr ⟨⟨(RX8, TX8, 24), rfl, by decide, List.mem_cons_of_mem _ zw727, fun w h => List.mem_cons_of_mem _ (zX8 w h), by decide +kernel, fun _ => rfl⟩, fun _ h => absurd h List.not_mem_nil⟩), zlookup (β := Int32) (L := []) (P := fun ix b => Jvm.Cond.constant yX8_readRow.cls ix b ∈ (zwd yX8_readRow cX8_readRow 3 (zret 0))) (fun _ h => absurd h List.not_mem_nil), zlookup (β := Int64) (L := []) (P := fun ix b => Jvm.Cond.constantLong yX8_readRow.cls ix b ∈ (zwd yX8_readRow cX8_readRow 3 (zret 0))) (fun _ h => absurd h List.not_mem_nil), zlookup (β := Nat) (L := []) (P := fun ix b => zmok yX8_readRow.cls (zwd yX8_readRow cX8_readRow 3 (zret 0)) ix b) (fun _ h => absurd h List.not_mem_nil)⟩
set_option maxRecDepth 20000 in
theorem sX8_readRow (l : Launch) : ∀ (as : List Value) (ws : zW) (K : zP), zFr 2 (zGoes mX8_readRow 0 3) as ws K → zMet l yX8_readRow (zwd yX8_readRow cX8_readRow 3 (zret 0)) { frames := 5, cells := 0, slots := 0, locals := 1000 } 0 as ws K := zFr_met (by decide +kernel) (by decide) (by decide) gX8_readRow (fun p e s m args below meth c D cy ad A n0 Q S hKK hA => ⟨fun ix n G h => zlookup (β := Nat × zG) (L := [(95, 3, zFV 8 3 (zGoes mX8_number 1 3))]) (P := fun ix b => zCO p l e { frames := 5, cells := 0, slots := 0, locals := 1000 } s m args below meth c cX8_readRow 3 D cy ad A n0 0 0 Q (.invokevirtual ix) b.1 b.2) (List.forall_mem_cons.mpr ⟨zco_V (ci := 8) S hKK hA ⟨Nat.zero_le _, Nat.zero_le _⟩ (cwV 2 S.2.2.2.2 (zgoodV zw828 zw830 zw36 zw57 zw831) rfl rfl rfl (by decide +kernel) (by decide +kernel)) rfl rfl (sX8_number l), fun _ h => absurd h List.not_mem_nil⟩) ix (n, G) h, fun ix n G h => zlookup (β := Nat × zG) (L := [(88, 1, zFr 1 (zGoes mX8_lawOf 1 1))]) (P := fun ix b => zCO p l e { frames := 5, cells := 0, slots := 0, locals := 1000 } s m args below meth c cX8_readRow 3 D cy ad A n0 0 0 Q (.invokestatic ix) b.1 b.2) (List.forall_mem_cons.mpr ⟨zco_S S hKK hA ⟨Nat.zero_le _, Nat.zero_le _⟩ (va_cwS 1 S.2.2.2.2 (zgoodS zw817 zw818 zw57 zw819) rfl rfl rfl (by decide +kernel) (by decide +kernel)) (sX8_lawOf l), fun _ h => absurd h List.not_mem_nil⟩) ix (n, G) h⟩) (by decide)
def iX8_plain : List (Option zI) := [some (.aload_n 0, 0, 1, []), some (.getfield 13, 0, 4, []), none, none, some (.iconst 1, 1, 5, []), some (.iconst 0, 0, 6, []), some (.iastore, 0, 7, []), some (.aload_n 0, 0, 8, []), some (.getfield 23, 0, 11, []), none, none, some (.iconst 3, 3, 12, []), some (.bipush 30, 30, 14, []), none, some (.iastore, 0, 15, []), some (.aload_n 0, 0, 16, []), some (.getfield 23, 0, 19, []), none, none, some (.iconst 4, 4, 20, []), some (.iconst 5, 5, 21, []), some (.iastore, 0, 22, []), some (.aload_n 0, 0, 23, []), some (.getfield 23, 0, 26, []), none, none, some (.iconst 5, 5, 27, []), some (.iconst 2, 2, 28, []), some (.iastore, 0, 29, []), some (.aload_n 0, 0, 30, []), some (.iconst 0, 0, 31, []), some (.putfield 92, 0, 34, []), none, none, some (.return_, 0, 35, [])]
def mX8_plain : zM := (iX8_plain, [(13, 8, 3, (.array .int)), (23, 8, 6, (.array .int))], [(92, 8, 12, .int)], [], [], [], [], [])
theorem kX8_plain : zchkL cX8_plain 0 iX8_plain = true := by decide +kernel
set_option maxRecDepth 20000 in
theorem gX8_plain : zGood mX8_plain cX8_plain yX8_plain.cls (zwd yX8_plain cX8_plain 1 (zret 0)) := ⟨fun pc x h => by
    have h1 := zchkL_at kX8_plain pc x h
    rw [Nat.zero_add] at h1
    exact h1, zlookF (fin := false) [(13, 8, 3, (.array .int)), (23, 8, 6, (.array .int))] (List.forall_mem_cons.mpr ⟨⟨(RX8, TX8, 24), rfl, by decide, List.mem_cons_of_mem _ zw718, fun w h => List.mem_cons_of_mem _ (zX8 w h), by decide +kernel, fun h => by cases h⟩, List.forall_mem_cons.mpr ⟨⟨(RX8, TX8, 24), rfl, by decide, List.mem_cons_of_mem _ zw721, fun w h => List.mem_cons_of_mem _ (zX8 w h), by decide +kernel, fun h => by cases h⟩, fun _ h => absurd h List.not_mem_nil⟩⟩), zlookF (fin := true) [(92, 8, 12, .int)] (List.forall_mem_cons.mpr ⟨⟨(RX8, TX8, 24), rfl, by decide, List.mem_cons_of_mem _ zw727, fun w h => List.mem_cons_of_mem _ (zX8 w h), by decide +kernel, fun _ => rfl⟩, fun _ h => absurd h List.not_mem_nil⟩), zlookup (β := Int32) (L := []) (P := fun ix b => Jvm.Cond.constant yX8_plain.cls ix b ∈ (zwd yX8_plain cX8_plain 1 (zret 0))) (fun _ h => absurd h List.not_mem_nil), zlookup (β := Int64) (L := []) (P := fun ix b => Jvm.Cond.constantLong yX8_plain.cls ix b ∈ (zwd yX8_plain cX8_plain 1 (zret 0))) (fun _ h => absurd h List.not_mem_nil), zlookup (β := Nat) (L := []) (P := fun ix b => zmok yX8_plain.cls (zwd yX8_plain cX8_plain 1 (zret 0)) ix b) (fun _ h => absurd h List.not_mem_nil)⟩
set_option maxRecDepth 20000 in
theorem sX8_plain (l : Launch) : ∀ (as : List Value) (ws : zW) (K : zP), zFr 1 (zGoes mX8_plain 0 1) as ws K → zMet l yX8_plain (zwd yX8_plain cX8_plain 1 (zret 0)) { frames := 1, cells := 0, slots := 0, locals := 200 } 0 as ws K := zFr_met (by decide +kernel) (by decide) (by decide) gX8_plain (fun p e s m args below meth c D cy ad A n0 Q S hKK hA => ⟨fun ix n G h => zlookup (β := Nat × zG) (L := []) (P := fun ix b => zCO p l e { frames := 1, cells := 0, slots := 0, locals := 200 } s m args below meth c cX8_plain 1 D cy ad A n0 0 0 Q (.invokevirtual ix) b.1 b.2) (fun _ h => absurd h List.not_mem_nil) ix (n, G) h, fun ix n G h => zlookup (β := Nat × zG) (L := []) (P := fun ix b => zCO p l e { frames := 1, cells := 0, slots := 0, locals := 200 } s m args below meth c cX8_plain 1 D cy ad A n0 0 0 Q (.invokestatic ix) b.1 b.2) (fun _ h => absurd h List.not_mem_nil) ix (n, G) h⟩) (by decide)
def iX8_takeDraft : List (Option zI) := [some (.aload_n 0, 0, 1, []), some (.getfield 13, 0, 4, []), none, none, some (.iconst 0, 0, 5, []), some (.aload_n 0, 0, 6, []), some (.getfield 13, 0, 9, []), none, none, some (.iconst 1, 1, 10, []), some (.iaload, 0, 11, []), some (.iastore, 0, 12, []), some (.iconst 0, 0, 13, []), some (.istore_n 1, 0, 14, []), some (.iload_n 1, 0, 15, []), some (.bipush 7, 7, 17, []), none, some (.if_icmp .ge 68, 0, 20, [85]), none, none, some (.aload_n 0, 0, 21, []), some (.getfield 17, 0, 24, []), none, none, some (.iload_n 1, 0, 25, []), some (.aload_n 0, 0, 26, []), some (.getfield 17, 0, 29, []), none, none, some (.bipush 7, 7, 31, []), none, some (.iload_n 1, 0, 32, []), some (.iadd, 0, 33, []), some (.iaload, 0, 34, []), some (.iastore, 0, 35, []), some (.aload_n 0, 0, 36, []), some (.getfield 20, 0, 39, []), none, none, some (.iload_n 1, 0, 40, []), some (.aload_n 0, 0, 41, []), some (.getfield 20, 0, 44, []), none, none, some (.bipush 7, 7, 46, []), none, some (.iload_n 1, 0, 47, []), some (.iadd, 0, 48, []), some (.iaload, 0, 49, []), some (.iastore, 0, 50, []), some (.aload_n 0, 0, 51, []), some (.getfield 26, 0, 54, []), none, none, some (.iconst 0, 0, 55, []), some (.iload_n 1, 0, 56, []), some (.iadd, 0, 57, []), some (.iload_n 1, 0, 58, []), some (.iastore, 0, 59, []), some (.aload_n 0, 0, 60, []), some (.getfield 26, 0, 63, []), none, none, some (.bipush 7, 7, 65, []), none, some (.iload_n 1, 0, 66, []), some (.iadd, 0, 67, []), some (.iconst 0, 0, 68, []), some (.iastore, 0, 69, []), some (.aload_n 0, 0, 70, []), some (.getfield 26, 0, 73, []), none, none, some (.bipush 14, 14, 75, []), none, some (.iload_n 1, 0, 76, []), some (.iadd, 0, 77, []), some (.iconst 0, 0, 78, []), some (.iastore, 0, 79, []), some (.iinc 1 1, 1, 82, []), none, none, some (.goto (-68), 0, 85, [14]), none, none, some (.aload_n 0, 0, 86, []), some (.getfield 26, 0, 89, []), none, none, some (.bipush 21, 21, 91, []), none, some (.aload_n 0, 0, 92, []), some (.getfield 23, 0, 95, []), none, none, some (.iconst 3, 3, 96, []), some (.iaload, 0, 97, []), some (.iastore, 0, 98, []), some (.aload_n 0, 0, 99, []), some (.getfield 26, 0, 102, []), none, none, some (.bipush 22, 22, 104, []), none, some (.aload_n 0, 0, 105, []), some (.getfield 23, 0, 108, []), none, none, some (.iconst 4, 4, 109, []), some (.iaload, 0, 110, []), some (.iastore, 0, 111, []), some (.aload_n 0, 0, 112, []), some (.getfield 26, 0, 115, []), none, none, some (.bipush 23, 23, 117, []), none, some (.aload_n 0, 0, 118, []), some (.getfield 23, 0, 121, []), none, none, some (.iconst 5, 5, 122, []), some (.iaload, 0, 123, []), some (.iastore, 0, 124, []), some (.aload_n 0, 0, 125, []), some (.getfield 26, 0, 128, []), none, none, some (.bipush 24, 24, 130, []), none, some (.iconst 0, 0, 131, []), some (.iastore, 0, 132, []), some (.aload_n 0, 0, 133, []), some (.getfield 26, 0, 136, []), none, none, some (.bipush 25, 25, 138, []), none, some (.iconst 0, 0, 139, []), some (.iastore, 0, 140, []), some (.aload_n 0, 0, 141, []), some (.iconst 0, 0, 142, []), some (.putfield 99, 0, 145, []), none, none, some (.aload_n 0, 0, 146, []), some (.getfield 29, 0, 149, []), none, none, some (.iconst 0, 0, 150, []), some (.iconst 0, 0, 151, []), some (.bastore, 0, 152, []), some (.aload_n 0, 0, 153, []), some (.getfield 29, 0, 156, []), none, none, some (.iconst 1, 1, 157, []), some (.iconst 0, 0, 158, []), some (.bastore, 0, 159, []), some (.return_, 0, 160, [])]
def mX8_takeDraft : zM := (iX8_takeDraft, [(13, 8, 3, (.array .int)), (17, 8, 4, (.array .int)), (20, 8, 5, (.array .int)), (23, 8, 6, (.array .int)), (26, 8, 13, (.array .int)), (29, 8, 14, (.array .boolean))], [(99, 8, 23, .int)], [], [], [], [], [])
theorem kX8_takeDraft : zchkL cX8_takeDraft 0 iX8_takeDraft = true := by decide +kernel
set_option maxRecDepth 20000 in
theorem gX8_takeDraft : zGood mX8_takeDraft cX8_takeDraft yX8_takeDraft.cls (zwd yX8_takeDraft cX8_takeDraft 2 (zret 0)) := ⟨fun pc x h => by
    have h1 := zchkL_at kX8_takeDraft pc x h
    rw [Nat.zero_add] at h1
    exact h1, zlookF (fin := false) [(13, 8, 3, (.array .int)), (17, 8, 4, (.array .int)), (20, 8, 5, (.array .int)), (23, 8, 6, (.array .int)), (26, 8, 13, (.array .int)), (29, 8, 14, (.array .boolean))] (List.forall_mem_cons.mpr ⟨⟨(RX8, TX8, 24), rfl, by decide, List.mem_cons_of_mem _ zw718, fun w h => List.mem_cons_of_mem _ (zX8 w h), by decide +kernel, fun h => by cases h⟩, List.forall_mem_cons.mpr ⟨⟨(RX8, TX8, 24), rfl, by decide, List.mem_cons_of_mem _ zw719, fun w h => List.mem_cons_of_mem _ (zX8 w h), by decide +kernel, fun h => by cases h⟩, List.forall_mem_cons.mpr ⟨⟨(RX8, TX8, 24), rfl, by decide, List.mem_cons_of_mem _ zw720, fun w h => List.mem_cons_of_mem _ (zX8 w h), by decide +kernel, fun h => by cases h⟩, List.forall_mem_cons.mpr ⟨⟨(RX8, TX8, 24), rfl, by decide, List.mem_cons_of_mem _ zw721, fun w h => List.mem_cons_of_mem _ (zX8 w h), by decide +kernel, fun h => by cases h⟩, List.forall_mem_cons.mpr ⟨⟨(RX8, TX8, 24), rfl, by decide, List.mem_cons_of_mem _ zw728, fun w h => List.mem_cons_of_mem _ (zX8 w h), by decide +kernel, fun h => by cases h⟩, List.forall_mem_cons.mpr ⟨⟨(RX8, TX8, 24), rfl, by decide, List.mem_cons_of_mem _ zw729, fun w h => List.mem_cons_of_mem _ (zX8 w h), by decide +kernel, fun h => by cases h⟩, fun _ h => absurd h List.not_mem_nil⟩⟩⟩⟩⟩⟩), zlookF (fin := true) [(99, 8, 23, .int)] (List.forall_mem_cons.mpr ⟨⟨(RX8, TX8, 24), rfl, by decide, List.mem_cons_of_mem _ zw738, fun w h => List.mem_cons_of_mem _ (zX8 w h), by decide +kernel, fun _ => rfl⟩, fun _ h => absurd h List.not_mem_nil⟩), zlookup (β := Int32) (L := []) (P := fun ix b => Jvm.Cond.constant yX8_takeDraft.cls ix b ∈ (zwd yX8_takeDraft cX8_takeDraft 2 (zret 0))) (fun _ h => absurd h List.not_mem_nil), zlookup (β := Int64) (L := []) (P := fun ix b => Jvm.Cond.constantLong yX8_takeDraft.cls ix b ∈ (zwd yX8_takeDraft cX8_takeDraft 2 (zret 0))) (fun _ h => absurd h List.not_mem_nil), zlookup (β := Nat) (L := []) (P := fun ix b => zmok yX8_takeDraft.cls (zwd yX8_takeDraft cX8_takeDraft 2 (zret 0)) ix b) (fun _ h => absurd h List.not_mem_nil)⟩
set_option maxRecDepth 20000 in
theorem sX8_takeDraft (l : Launch) : ∀ (as : List Value) (ws : zW) (K : zP), zFr 1 (zGoes mX8_takeDraft 0 2) as ws K → zMet l yX8_takeDraft (zwd yX8_takeDraft cX8_takeDraft 2 (zret 0)) { frames := 1, cells := 0, slots := 0, locals := 200 } 0 as ws K := zFr_met (by decide +kernel) (by decide) (by decide) gX8_takeDraft (fun p e s m args below meth c D cy ad A n0 Q S hKK hA => ⟨fun ix n G h => zlookup (β := Nat × zG) (L := []) (P := fun ix b => zCO p l e { frames := 1, cells := 0, slots := 0, locals := 200 } s m args below meth c cX8_takeDraft 2 D cy ad A n0 0 0 Q (.invokevirtual ix) b.1 b.2) (fun _ h => absurd h List.not_mem_nil) ix (n, G) h, fun ix n G h => zlookup (β := Nat × zG) (L := []) (P := fun ix b => zCO p l e { frames := 1, cells := 0, slots := 0, locals := 200 } s m args below meth c cX8_takeDraft 2 D cy ad A n0 0 0 Q (.invokestatic ix) b.1 b.2) (fun _ h => absurd h List.not_mem_nil) ix (n, G) h⟩) (by decide)
def iX8_rank : List (Option zI) := [some (.aload_n 0, 0, 1, []), some (.iconst 0, 0, 2, []), some (.putfield 62, 0, 5, []), none, none, some (.aload_n 0, 0, 6, []), some (.sipush (-1009), (-1009), 9, []), none, none, some (.putfield 78, 0, 12, []), none, none, some (.aload_n 0, 0, 13, []), some (.invokevirtual 48, 0, 16, []), none, none, some (.iconst 0, 0, 17, []), some (.istore_n 1, 0, 18, []), some (.aload_n 0, 0, 19, []), some (.invokevirtual 81, 0, 22, []), none, none, some (.aload_n 0, 0, 23, []), some (.getfield 78, 0, 26, []), none, none, some (.sipush (-1009), (-1009), 29, []), none, none, some (.if_icmp .ne 65, 0, 32, [94]), none, none, some (.aload_n 0, 0, 33, []), some (.getfield 75, 0, 36, []), none, none, some (.iconst 3, 3, 37, []), some (.if_icmp .eq 57, 0, 40, [94]), none, none, some (.aload_n 0, 0, 41, []), some (.getfield 75, 0, 44, []), none, none, some (.istore_n 2, 0, 45, []), some (.aload_n 0, 0, 46, []), some (.aload_n 0, 0, 47, []), some (.iload_n 2, 0, 48, []), some (.invokevirtual 102, 0, 51, []), none, none, some (.invokevirtual 84, 0, 54, []), none, none, some (.pop, 0, 55, []), some (.aload_n 0, 0, 56, []), some (.getfield 78, 0, 59, []), none, none, some (.sipush (-1009), (-1009), 62, []), none, none, some (.if_icmp .ne 29, 0, 65, [91]), none, none, some (.aload_n 0, 0, 66, []), some (.iload_n 2, 0, 67, []), some (.invokevirtual 106, 0, 70, []), none, none, some (.aload_n 0, 0, 71, []), some (.aload_n 0, 0, 72, []), some (.getfield 75, 0, 75, []), none, none, some (.iconst 2, 2, 76, []), some (.if_icmp .ne 7, 0, 79, [83]), none, none, some (.iconst 1, 1, 80, []), some (.goto 4, 0, 83, [84]), none, none, some (.iconst 0, 0, 84, []), some (.invokevirtual 84, 0, 87, []), none, none, some (.pop, 0, 88, []), some (.iinc 1 1, 1, 91, []), none, none, some (.goto (-69), 0, 94, [22]), none, none, some (.aload_n 0, 0, 95, []), some (.getfield 78, 0, 98, []), none, none, some (.sipush (-1009), (-1009), 101, []), none, none, some (.if_icmp .eq 12, 0, 104, [113]), none, none, some (.sipush (-2000), (-2000), 107, []), none, none, some (.aload_n 0, 0, 108, []), some (.getfield 78, 0, 111, []), none, none, some (.isub, 0, 112, []), some (.ireturn, 0, 113, []), some (.aload_n 0, 0, 114, []), some (.invokevirtual 51, 0, 117, []), none, none, some (.aload_n 0, 0, 118, []), some (.iconst 0, 0, 119, []), some (.putfield 58, 0, 122, []), none, none, some (.iload_n 1, 0, 123, []), some (.ireturn, 0, 124, [])]
def mX8_rank : zM := (iX8_rank, [(75, 8, 9, .int), (78, 8, 11, .int)], [(58, 8, 2, .int), (62, 8, 7, .int), (78, 8, 11, .int)], [], [], [], [(48, 1, zFV 8 1 (zGoes mX8_plain 0 1)), (51, 1, zFV 8 1 (zGoes mX8_takeDraft 0 2)), (81, 1, zFV 8 1 (zGoes mX8_step 0 2)), (84, 2, zFV 8 2 (zGoes mX8_due 1 3)), (102, 2, zFV 8 2 (zGoes mX8_mayBe 3 3)), (106, 2, zFV 8 2 (zGoes mX8_readRow 0 3))], [])
theorem kX8_rank : zchkL cX8_rank 0 iX8_rank = true := by decide +kernel
set_option maxRecDepth 20000 in
theorem gX8_rank : zGood mX8_rank cX8_rank yX8_rank.cls (zwd yX8_rank cX8_rank 3 (zret 1)) := ⟨fun pc x h => by
    have h1 := zchkL_at kX8_rank pc x h
    rw [Nat.zero_add] at h1
    exact h1, zlookF (fin := false) [(75, 8, 9, .int), (78, 8, 11, .int)] (List.forall_mem_cons.mpr ⟨⟨(RX8, TX8, 24), rfl, by decide, List.mem_cons_of_mem _ zw724, fun w h => List.mem_cons_of_mem _ (zX8 w h), by decide +kernel, fun h => by cases h⟩, List.forall_mem_cons.mpr ⟨⟨(RX8, TX8, 24), rfl, by decide, List.mem_cons_of_mem _ zw726, fun w h => List.mem_cons_of_mem _ (zX8 w h), by decide +kernel, fun h => by cases h⟩, fun _ h => absurd h List.not_mem_nil⟩⟩), zlookF (fin := true) [(58, 8, 2, .int), (62, 8, 7, .int), (78, 8, 11, .int)] (List.forall_mem_cons.mpr ⟨⟨(RX8, TX8, 24), rfl, by decide, List.mem_cons_of_mem _ zw717, fun w h => List.mem_cons_of_mem _ (zX8 w h), by decide +kernel, fun _ => rfl⟩, List.forall_mem_cons.mpr ⟨⟨(RX8, TX8, 24), rfl, by decide, List.mem_cons_of_mem _ zw722, fun w h => List.mem_cons_of_mem _ (zX8 w h), by decide +kernel, fun _ => rfl⟩, List.forall_mem_cons.mpr ⟨⟨(RX8, TX8, 24), rfl, by decide, List.mem_cons_of_mem _ zw726, fun w h => List.mem_cons_of_mem _ (zX8 w h), by decide +kernel, fun _ => rfl⟩, fun _ h => absurd h List.not_mem_nil⟩⟩⟩), zlookup (β := Int32) (L := []) (P := fun ix b => Jvm.Cond.constant yX8_rank.cls ix b ∈ (zwd yX8_rank cX8_rank 3 (zret 1))) (fun _ h => absurd h List.not_mem_nil), zlookup (β := Int64) (L := []) (P := fun ix b => Jvm.Cond.constantLong yX8_rank.cls ix b ∈ (zwd yX8_rank cX8_rank 3 (zret 1))) (fun _ h => absurd h List.not_mem_nil), zlookup (β := Nat) (L := []) (P := fun ix b => zmok yX8_rank.cls (zwd yX8_rank cX8_rank 3 (zret 1)) ix b) (fun _ h => absurd h List.not_mem_nil)⟩
set_option maxRecDepth 20000 in
theorem sX8_rank (l : Launch) : ∀ (as : List Value) (ws : zW) (K : zP), zFr 1 (zGoes mX8_rank 1 3) as ws K → zMet l yX8_rank (zwd yX8_rank cX8_rank 3 (zret 1)) { frames := 6, cells := 0, slots := 0, locals := 1200 } 1 as ws K := zFr_met (by decide +kernel) (by decide) (by decide) gX8_rank (fun p e s m args below meth c D cy ad A n0 Q S hKK hA => ⟨fun ix n G h => zlookup (β := Nat × zG) (L := [(48, 1, zFV 8 1 (zGoes mX8_plain 0 1)), (51, 1, zFV 8 1 (zGoes mX8_takeDraft 0 2)), (81, 1, zFV 8 1 (zGoes mX8_step 0 2)), (84, 2, zFV 8 2 (zGoes mX8_due 1 3)), (102, 2, zFV 8 2 (zGoes mX8_mayBe 3 3)), (106, 2, zFV 8 2 (zGoes mX8_readRow 0 3))]) (P := fun ix b => zCO p l e { frames := 6, cells := 0, slots := 0, locals := 1200 } s m args below meth c cX8_rank 3 D cy ad A n0 0 0 Q (.invokevirtual ix) b.1 b.2) (List.forall_mem_cons.mpr ⟨zco_V (ci := 8) S hKK hA ⟨Nat.zero_le _, Nat.zero_le _⟩ (cwV 0 S.2.2.2.2 (zgoodV zw707 zw709 zw29 zw57 zw710) rfl rfl rfl (by decide +kernel) (by decide +kernel)) rfl rfl (sX8_plain l), List.forall_mem_cons.mpr ⟨zco_V (ci := 8) S hKK hA ⟨Nat.zero_le _, Nat.zero_le _⟩ (cwV 0 S.2.2.2.2 (zgoodV zw711 zw713 zw30 zw57 zw714) rfl rfl rfl (by decide +kernel) (by decide +kernel)) rfl rfl (sX8_takeDraft l), List.forall_mem_cons.mpr ⟨zco_V (ci := 8) S hKK hA ⟨Nat.zero_le _, Nat.zero_le _⟩ (cwV 0 S.2.2.2.2 (zgoodV zw805 zw807 zw31 zw57 zw808) rfl rfl rfl (by decide +kernel) (by decide +kernel)) rfl rfl (sX8_step l), List.forall_mem_cons.mpr ⟨zco_V (ci := 8) S hKK hA ⟨Nat.zero_le _, Nat.zero_le _⟩ (cwV 1 S.2.2.2.2 (zgoodV zw820 zw822 zw34 zw57 zw823) rfl rfl rfl (by decide +kernel) (by decide +kernel)) rfl rfl (sX8_due l), List.forall_mem_cons.mpr ⟨zco_V (ci := 8) S hKK hA ⟨Nat.zero_le _, Nat.zero_le _⟩ (cwV 1 S.2.2.2.2 (zgoodV zw813 zw815 zw33 zw57 zw816) rfl rfl rfl (by decide +kernel) (by decide +kernel)) rfl rfl (sX8_mayBe l), List.forall_mem_cons.mpr ⟨zco_V (ci := 8) S hKK hA ⟨Nat.zero_le _, Nat.zero_le _⟩ (cwV 1 S.2.2.2.2 (zgoodV zw824 zw826 zw35 zw57 zw827) rfl rfl rfl (by decide +kernel) (by decide +kernel)) rfl rfl (sX8_readRow l), fun _ h => absurd h List.not_mem_nil⟩⟩⟩⟩⟩⟩) ix (n, G) h, fun ix n G h => zlookup (β := Nat × zG) (L := []) (P := fun ix b => zCO p l e { frames := 6, cells := 0, slots := 0, locals := 1200 } s m args below meth c cX8_rank 3 D cy ad A n0 0 0 Q (.invokestatic ix) b.1 b.2) (fun _ h => absurd h List.not_mem_nil) ix (n, G) h⟩) (by decide)
def iX8_isPlace : List (Option zI) := [some (.iload_n 1, 0, 1, []), some (.iconst 0, 0, 2, []), some (.aload_n 0, 0, 3, []), some (.getfield 13, 0, 6, []), none, none, some (.iconst 0, 0, 7, []), some (.iaload, 0, 8, []), some (.iconst 1, 1, 9, []), some (.isub, 0, 10, []), some (.invokestatic 54, 0, 13, []), none, none, some (.ireturn, 0, 14, [])]
def mX8_isPlace : zM := (iX8_isPlace, [(13, 8, 3, (.array .int))], [], [], [], [], [], [(54, 3, zFr 3 (zGoes mX8_in 3 3))])
theorem kX8_isPlace : zchkL cX8_isPlace 0 iX8_isPlace = true := by decide +kernel
set_option maxRecDepth 20000 in
theorem gX8_isPlace : zGood mX8_isPlace cX8_isPlace yX8_isPlace.cls (zwd yX8_isPlace cX8_isPlace 2 (zret 3)) := ⟨fun pc x h => by
    have h1 := zchkL_at kX8_isPlace pc x h
    rw [Nat.zero_add] at h1
    exact h1, zlookF (fin := false) [(13, 8, 3, (.array .int))] (List.forall_mem_cons.mpr ⟨⟨(RX8, TX8, 24), rfl, by decide, List.mem_cons_of_mem _ zw718, fun w h => List.mem_cons_of_mem _ (zX8 w h), by decide +kernel, fun h => by cases h⟩, fun _ h => absurd h List.not_mem_nil⟩), zlookF (fin := true) [] (fun _ h => absurd h List.not_mem_nil), zlookup (β := Int32) (L := []) (P := fun ix b => Jvm.Cond.constant yX8_isPlace.cls ix b ∈ (zwd yX8_isPlace cX8_isPlace 2 (zret 3))) (fun _ h => absurd h List.not_mem_nil), zlookup (β := Int64) (L := []) (P := fun ix b => Jvm.Cond.constantLong yX8_isPlace.cls ix b ∈ (zwd yX8_isPlace cX8_isPlace 2 (zret 3))) (fun _ h => absurd h List.not_mem_nil), zlookup (β := Nat) (L := []) (P := fun ix b => zmok yX8_isPlace.cls (zwd yX8_isPlace cX8_isPlace 2 (zret 3)) ix b) (fun _ h => absurd h List.not_mem_nil)⟩
set_option maxRecDepth 20000 in
theorem sX8_isPlace (l : Launch) : ∀ (as : List Value) (ws : zW) (K : zP), zFr 2 (zGoes mX8_isPlace 3 2) as ws K → zMet l yX8_isPlace (zwd yX8_isPlace cX8_isPlace 2 (zret 3)) { frames := 2, cells := 0, slots := 0, locals := 400 } 3 as ws K := zFr_met (by decide +kernel) (by decide) (by decide) gX8_isPlace (fun p e s m args below meth c D cy ad A n0 Q S hKK hA => ⟨fun ix n G h => zlookup (β := Nat × zG) (L := []) (P := fun ix b => zCO p l e { frames := 2, cells := 0, slots := 0, locals := 400 } s m args below meth c cX8_isPlace 2 D cy ad A n0 0 0 Q (.invokevirtual ix) b.1 b.2) (fun _ h => absurd h List.not_mem_nil) ix (n, G) h, fun ix n G h => zlookup (β := Nat × zG) (L := [(54, 3, zFr 3 (zGoes mX8_in 3 3))]) (P := fun ix b => zCO p l e { frames := 2, cells := 0, slots := 0, locals := 400 } s m args below meth c cX8_isPlace 2 D cy ad A n0 0 0 Q (.invokestatic ix) b.1 b.2) (List.forall_mem_cons.mpr ⟨zco_S S hKK hA ⟨Nat.zero_le _, Nat.zero_le _⟩ (va_cwS 3 S.2.2.2.2 (zgoodS zw794 zw795 zw57 zw796) rfl rfl rfl (by decide +kernel) (by decide +kernel)) (sX8_in l), fun _ h => absurd h List.not_mem_nil⟩) ix (n, G) h⟩) (by decide)
def iX8_wants : List (Option zI) := [some (.iload_n 2, 0, 1, []), some (.iconst 2, 2, 2, []), some (.if_icmp .ge 7, 0, 5, [9]), none, none, some (.iconst 0, 0, 6, []), some (.goto 13, 0, 9, [19]), none, none, some (.aload_n 0, 0, 10, []), some (.bipush 21, 21, 12, []), none, some (.iaload, 0, 13, []), some (.iload_n 1, 0, 14, []), some (.imul, 0, 15, []), some (.iload_n 2, 0, 16, []), some (.iconst 1, 1, 17, []), some (.isub, 0, 18, []), some (.idiv, 0, 19, []), some (.ireturn, 0, 20, [])]
def mX8_wants : zM := (iX8_wants, [], [], [], [], [], [], [])
theorem kX8_wants : zchkL cX8_wants 0 iX8_wants = true := by decide +kernel
set_option maxRecDepth 20000 in
theorem gX8_wants : zGood mX8_wants cX8_wants yX8_wants.cls (zwd yX8_wants cX8_wants 3 (zret 1)) := ⟨fun pc x h => by
    have h1 := zchkL_at kX8_wants pc x h
    rw [Nat.zero_add] at h1
    exact h1, zlookF (fin := false) [] (fun _ h => absurd h List.not_mem_nil), zlookF (fin := true) [] (fun _ h => absurd h List.not_mem_nil), zlookup (β := Int32) (L := []) (P := fun ix b => Jvm.Cond.constant yX8_wants.cls ix b ∈ (zwd yX8_wants cX8_wants 3 (zret 1))) (fun _ h => absurd h List.not_mem_nil), zlookup (β := Int64) (L := []) (P := fun ix b => Jvm.Cond.constantLong yX8_wants.cls ix b ∈ (zwd yX8_wants cX8_wants 3 (zret 1))) (fun _ h => absurd h List.not_mem_nil), zlookup (β := Nat) (L := []) (P := fun ix b => zmok yX8_wants.cls (zwd yX8_wants cX8_wants 3 (zret 1)) ix b) (fun _ h => absurd h List.not_mem_nil)⟩
set_option maxRecDepth 20000 in
theorem sX8_wants (l : Launch) : ∀ (as : List Value) (ws : zW) (K : zP), zFr 3 (zGoes mX8_wants 1 3) as ws K → zMet l yX8_wants (zwd yX8_wants cX8_wants 3 (zret 1)) { frames := 1, cells := 0, slots := 0, locals := 200 } 1 as ws K := zFr_met (by decide +kernel) (by decide) (by decide) gX8_wants (fun p e s m args below meth c D cy ad A n0 Q S hKK hA => ⟨fun ix n G h => zlookup (β := Nat × zG) (L := []) (P := fun ix b => zCO p l e { frames := 1, cells := 0, slots := 0, locals := 200 } s m args below meth c cX8_wants 3 D cy ad A n0 0 0 Q (.invokevirtual ix) b.1 b.2) (fun _ h => absurd h List.not_mem_nil) ix (n, G) h, fun ix n G h => zlookup (β := Nat × zG) (L := []) (P := fun ix b => zCO p l e { frames := 1, cells := 0, slots := 0, locals := 200 } s m args below meth c cX8_wants 3 D cy ad A n0 0 0 Q (.invokestatic ix) b.1 b.2) (fun _ h => absurd h List.not_mem_nil) ix (n, G) h⟩) (by decide)
def iX8_man : List (Option zI) := [some (.aload_n 0, 0, 1, []), some (.iload_n 1, 0, 2, []), some (.invokevirtual 110, 0, 5, []), none, none, some (.ifCond .eq 12, 0, 8, [17]), none, none, some (.iload_n 2, 0, 9, []), some (.iconst 0, 0, 10, []), some (.iconst 2, 2, 11, []), some (.invokestatic 54, 0, 14, []), none, none, some (.ifCond .ne 7, 0, 17, [21]), none, none, some (.sipush (-1001), (-1001), 20, []), none, none, some (.ireturn, 0, 21, []), some (.iconst 0, 0, 22, []), some (.istore_n 3, 0, 23, []), some (.aload_n 0, 0, 24, []), some (.getfield 26, 0, 27, []), none, none, some (.iconst 0, 0, 28, []), some (.iload_n 3, 0, 29, []), some (.iadd, 0, 30, []), some (.iaload, 0, 31, []), some (.iload_n 1, 0, 32, []), some (.if_icmp .eq 9, 0, 35, [41]), none, none, some (.iinc 3 1, 1, 38, []), none, none, some (.goto (-15), 0, 41, [23]), none, none, some (.iload_n 2, 0, 42, []), some (.ifCond .ne 12, 0, 45, [54]), none, none, some (.aload_n 0, 0, 46, []), some (.getfield 17, 0, 49, []), none, none, some (.iload_n 1, 0, 50, []), some (.iaload, 0, 51, []), some (.goto 18, 0, 54, [69]), none, none, some (.iload_n 2, 0, 55, []), some (.iconst 1, 1, 56, []), some (.if_icmp .ne 12, 0, 59, [68]), none, none, some (.aload_n 0, 0, 60, []), some (.getfield 20, 0, 63, []), none, none, some (.iload_n 1, 0, 64, []), some (.iaload, 0, 65, []), some (.goto 4, 0, 68, [69]), none, none, some (.iload_n 3, 0, 69, []), some (.ireturn, 0, 70, [])]
def mX8_man : zM := (iX8_man, [(17, 8, 4, (.array .int)), (20, 8, 5, (.array .int)), (26, 8, 13, (.array .int))], [], [], [], [], [(110, 2, zFV 8 2 (zGoes mX8_isPlace 3 2))], [(54, 3, zFr 3 (zGoes mX8_in 3 3))])
theorem kX8_man : zchkL cX8_man 0 iX8_man = true := by decide +kernel
set_option maxRecDepth 20000 in
theorem gX8_man : zGood mX8_man cX8_man yX8_man.cls (zwd yX8_man cX8_man 4 (zret 1)) := ⟨fun pc x h => by
    have h1 := zchkL_at kX8_man pc x h
    rw [Nat.zero_add] at h1
    exact h1, zlookF (fin := false) [(17, 8, 4, (.array .int)), (20, 8, 5, (.array .int)), (26, 8, 13, (.array .int))] (List.forall_mem_cons.mpr ⟨⟨(RX8, TX8, 24), rfl, by decide, List.mem_cons_of_mem _ zw719, fun w h => List.mem_cons_of_mem _ (zX8 w h), by decide +kernel, fun h => by cases h⟩, List.forall_mem_cons.mpr ⟨⟨(RX8, TX8, 24), rfl, by decide, List.mem_cons_of_mem _ zw720, fun w h => List.mem_cons_of_mem _ (zX8 w h), by decide +kernel, fun h => by cases h⟩, List.forall_mem_cons.mpr ⟨⟨(RX8, TX8, 24), rfl, by decide, List.mem_cons_of_mem _ zw728, fun w h => List.mem_cons_of_mem _ (zX8 w h), by decide +kernel, fun h => by cases h⟩, fun _ h => absurd h List.not_mem_nil⟩⟩⟩), zlookF (fin := true) [] (fun _ h => absurd h List.not_mem_nil), zlookup (β := Int32) (L := []) (P := fun ix b => Jvm.Cond.constant yX8_man.cls ix b ∈ (zwd yX8_man cX8_man 4 (zret 1))) (fun _ h => absurd h List.not_mem_nil), zlookup (β := Int64) (L := []) (P := fun ix b => Jvm.Cond.constantLong yX8_man.cls ix b ∈ (zwd yX8_man cX8_man 4 (zret 1))) (fun _ h => absurd h List.not_mem_nil), zlookup (β := Nat) (L := []) (P := fun ix b => zmok yX8_man.cls (zwd yX8_man cX8_man 4 (zret 1)) ix b) (fun _ h => absurd h List.not_mem_nil)⟩
set_option maxRecDepth 20000 in
theorem sX8_man (l : Launch) : ∀ (as : List Value) (ws : zW) (K : zP), zFr 3 (zGoes mX8_man 1 4) as ws K → zMet l yX8_man (zwd yX8_man cX8_man 4 (zret 1)) { frames := 3, cells := 0, slots := 0, locals := 600 } 1 as ws K := zFr_met (by decide +kernel) (by decide) (by decide) gX8_man (fun p e s m args below meth c D cy ad A n0 Q S hKK hA => ⟨fun ix n G h => zlookup (β := Nat × zG) (L := [(110, 2, zFV 8 2 (zGoes mX8_isPlace 3 2))]) (P := fun ix b => zCO p l e { frames := 3, cells := 0, slots := 0, locals := 600 } s m args below meth c cX8_man 4 D cy ad A n0 0 0 Q (.invokevirtual ix) b.1 b.2) (List.forall_mem_cons.mpr ⟨zco_V (ci := 8) S hKK hA ⟨Nat.zero_le _, Nat.zero_le _⟩ (cwV 1 S.2.2.2.2 (zgoodV zw836 zw838 zw37 zw57 zw839) rfl rfl rfl (by decide +kernel) (by decide +kernel)) rfl rfl (sX8_isPlace l), fun _ h => absurd h List.not_mem_nil⟩) ix (n, G) h, fun ix n G h => zlookup (β := Nat × zG) (L := [(54, 3, zFr 3 (zGoes mX8_in 3 3))]) (P := fun ix b => zCO p l e { frames := 3, cells := 0, slots := 0, locals := 600 } s m args below meth c cX8_man 4 D cy ad A n0 0 0 Q (.invokestatic ix) b.1 b.2) (List.forall_mem_cons.mpr ⟨zco_S S hKK hA ⟨Nat.zero_le _, Nat.zero_le _⟩ (va_cwS 3 S.2.2.2.2 (zgoodS zw794 zw795 zw57 zw796) rfl rfl rfl (by decide +kernel) (by decide +kernel)) (sX8_in l), fun _ h => absurd h List.not_mem_nil⟩) ix (n, G) h⟩) (by decide)
def iX8_place : List (Option zI) := [some (.aload_n 0, 0, 1, []), some (.iload_n 1, 0, 2, []), some (.invokevirtual 110, 0, 5, []), none, none, some (.ifCond .ne 7, 0, 8, [12]), none, none, some (.sipush (-1001), (-1001), 11, []), none, none, some (.ireturn, 0, 12, []), some (.iload_n 2, 0, 13, []), some (.tableswitch 75 0 3 #[31, 40, 50, 60], 0, 44, [88, 44, 53, 63, 73]), none, none, none, none, none, none, none, none, none, none, none, none, none, none, none, none, none, none, none, none, none, none, none, none, none, none, none, none, none, none, some (.aload_n 0, 0, 45, []), some (.getfield 26, 0, 48, []), none, none, some (.iconst 0, 0, 49, []), some (.iload_n 1, 0, 50, []), some (.iadd, 0, 51, []), some (.iaload, 0, 52, []), some (.ireturn, 0, 53, []), some (.aload_n 0, 0, 54, []), some (.getfield 26, 0, 57, []), none, none, some (.bipush 7, 7, 59, []), none, some (.iload_n 1, 0, 60, []), some (.iadd, 0, 61, []), some (.iaload, 0, 62, []), some (.ireturn, 0, 63, []), some (.aload_n 0, 0, 64, []), some (.getfield 26, 0, 67, []), none, none, some (.bipush 14, 14, 69, []), none, some (.iload_n 1, 0, 70, []), some (.iadd, 0, 71, []), some (.iaload, 0, 72, []), some (.ireturn, 0, 73, []), some (.aload_n 0, 0, 74, []), some (.getfield 26, 0, 77, []), none, none, some (.iload_n 1, 0, 78, []), some (.aload_n 0, 0, 79, []), some (.getfield 13, 0, 82, []), none, none, some (.iconst 0, 0, 83, []), some (.iaload, 0, 84, []), some (.invokestatic 113, 0, 87, []), none, none, some (.ireturn, 0, 88, []), some (.sipush (-1001), (-1001), 91, []), none, none, some (.ireturn, 0, 92, [])]
def mX8_place : zM := (iX8_place, [(13, 8, 3, (.array .int)), (26, 8, 13, (.array .int))], [], [], [], [], [(110, 2, zFV 8 2 (zGoes mX8_isPlace 3 2))], [(113, 3, zFr 3 (zGoes mX8_wants 1 3))])
theorem kX8_place : zchkL cX8_place 0 iX8_place = true := by decide +kernel
set_option maxRecDepth 20000 in
theorem gX8_place : zGood mX8_place cX8_place yX8_place.cls (zwd yX8_place cX8_place 3 (zret 1)) := ⟨fun pc x h => by
    have h1 := zchkL_at kX8_place pc x h
    rw [Nat.zero_add] at h1
    exact h1, zlookF (fin := false) [(13, 8, 3, (.array .int)), (26, 8, 13, (.array .int))] (List.forall_mem_cons.mpr ⟨⟨(RX8, TX8, 24), rfl, by decide, List.mem_cons_of_mem _ zw718, fun w h => List.mem_cons_of_mem _ (zX8 w h), by decide +kernel, fun h => by cases h⟩, List.forall_mem_cons.mpr ⟨⟨(RX8, TX8, 24), rfl, by decide, List.mem_cons_of_mem _ zw728, fun w h => List.mem_cons_of_mem _ (zX8 w h), by decide +kernel, fun h => by cases h⟩, fun _ h => absurd h List.not_mem_nil⟩⟩), zlookF (fin := true) [] (fun _ h => absurd h List.not_mem_nil), zlookup (β := Int32) (L := []) (P := fun ix b => Jvm.Cond.constant yX8_place.cls ix b ∈ (zwd yX8_place cX8_place 3 (zret 1))) (fun _ h => absurd h List.not_mem_nil), zlookup (β := Int64) (L := []) (P := fun ix b => Jvm.Cond.constantLong yX8_place.cls ix b ∈ (zwd yX8_place cX8_place 3 (zret 1))) (fun _ h => absurd h List.not_mem_nil), zlookup (β := Nat) (L := []) (P := fun ix b => zmok yX8_place.cls (zwd yX8_place cX8_place 3 (zret 1)) ix b) (fun _ h => absurd h List.not_mem_nil)⟩
set_option maxRecDepth 20000 in
theorem sX8_place (l : Launch) : ∀ (as : List Value) (ws : zW) (K : zP), zFr 3 (zGoes mX8_place 1 3) as ws K → zMet l yX8_place (zwd yX8_place cX8_place 3 (zret 1)) { frames := 3, cells := 0, slots := 0, locals := 600 } 1 as ws K := zFr_met (by decide +kernel) (by decide) (by decide) gX8_place (fun p e s m args below meth c D cy ad A n0 Q S hKK hA => ⟨fun ix n G h => zlookup (β := Nat × zG) (L := [(110, 2, zFV 8 2 (zGoes mX8_isPlace 3 2))]) (P := fun ix b => zCO p l e { frames := 3, cells := 0, slots := 0, locals := 600 } s m args below meth c cX8_place 3 D cy ad A n0 0 0 Q (.invokevirtual ix) b.1 b.2) (List.forall_mem_cons.mpr ⟨zco_V (ci := 8) S hKK hA ⟨Nat.zero_le _, Nat.zero_le _⟩ (cwV 1 S.2.2.2.2 (zgoodV zw836 zw838 zw37 zw57 zw839) rfl rfl rfl (by decide +kernel) (by decide +kernel)) rfl rfl (sX8_isPlace l), fun _ h => absurd h List.not_mem_nil⟩) ix (n, G) h, fun ix n G h => zlookup (β := Nat × zG) (L := [(113, 3, zFr 3 (zGoes mX8_wants 1 3))]) (P := fun ix b => zCO p l e { frames := 3, cells := 0, slots := 0, locals := 600 } s m args below meth c cX8_place 3 D cy ad A n0 0 0 Q (.invokestatic ix) b.1 b.2) (List.forall_mem_cons.mpr ⟨zco_S S hKK hA ⟨Nat.zero_le _, Nat.zero_le _⟩ (va_cwS 3 S.2.2.2.2 (zgoodS zw844 zw845 zw57 zw846) rfl rfl rfl (by decide +kernel) (by decide +kernel)) (sX8_wants l), fun _ h => absurd h List.not_mem_nil⟩) ix (n, G) h⟩) (by decide)
def iX8_take : List (Option zI) := [some (.iconst 0, 0, 1, []), some (.istore_n 1, 0, 2, []), some (.iload_n 1, 0, 3, []), some (.bipush 25, 25, 5, []), none, some (.if_icmp .ge 21, 0, 8, [26]), none, none, some (.aload_n 0, 0, 9, []), some (.getfield 33, 0, 12, []), none, none, some (.iload_n 1, 0, 13, []), some (.aload_n 0, 0, 14, []), some (.getfield 26, 0, 17, []), none, none, some (.iload_n 1, 0, 18, []), some (.iaload, 0, 19, []), some (.iastore, 0, 20, []), some (.iinc 1 1, 1, 23, []), none, none, some (.goto (-21), 0, 26, [2]), none, none, some (.return_, 0, 27, [])]
def mX8_take : zM := (iX8_take, [(26, 8, 13, (.array .int)), (33, 8, 15, (.array .int))], [], [], [], [], [], [])
theorem kX8_take : zchkL cX8_take 0 iX8_take = true := by decide +kernel
set_option maxRecDepth 20000 in
theorem gX8_take : zGood mX8_take cX8_take yX8_take.cls (zwd yX8_take cX8_take 2 (zret 0)) := ⟨fun pc x h => by
    have h1 := zchkL_at kX8_take pc x h
    rw [Nat.zero_add] at h1
    exact h1, zlookF (fin := false) [(26, 8, 13, (.array .int)), (33, 8, 15, (.array .int))] (List.forall_mem_cons.mpr ⟨⟨(RX8, TX8, 24), rfl, by decide, List.mem_cons_of_mem _ zw728, fun w h => List.mem_cons_of_mem _ (zX8 w h), by decide +kernel, fun h => by cases h⟩, List.forall_mem_cons.mpr ⟨⟨(RX8, TX8, 24), rfl, by decide, List.mem_cons_of_mem _ zw730, fun w h => List.mem_cons_of_mem _ (zX8 w h), by decide +kernel, fun h => by cases h⟩, fun _ h => absurd h List.not_mem_nil⟩⟩), zlookF (fin := true) [] (fun _ h => absurd h List.not_mem_nil), zlookup (β := Int32) (L := []) (P := fun ix b => Jvm.Cond.constant yX8_take.cls ix b ∈ (zwd yX8_take cX8_take 2 (zret 0))) (fun _ h => absurd h List.not_mem_nil), zlookup (β := Int64) (L := []) (P := fun ix b => Jvm.Cond.constantLong yX8_take.cls ix b ∈ (zwd yX8_take cX8_take 2 (zret 0))) (fun _ h => absurd h List.not_mem_nil), zlookup (β := Nat) (L := []) (P := fun ix b => zmok yX8_take.cls (zwd yX8_take cX8_take 2 (zret 0)) ix b) (fun _ h => absurd h List.not_mem_nil)⟩
set_option maxRecDepth 20000 in
theorem sX8_take (l : Launch) : ∀ (as : List Value) (ws : zW) (K : zP), zFr 1 (zGoes mX8_take 0 2) as ws K → zMet l yX8_take (zwd yX8_take cX8_take 2 (zret 0)) { frames := 1, cells := 0, slots := 0, locals := 200 } 0 as ws K := zFr_met (by decide +kernel) (by decide) (by decide) gX8_take (fun p e s m args below meth c D cy ad A n0 Q S hKK hA => ⟨fun ix n G h => zlookup (β := Nat × zG) (L := []) (P := fun ix b => zCO p l e { frames := 1, cells := 0, slots := 0, locals := 200 } s m args below meth c cX8_take 2 D cy ad A n0 0 0 Q (.invokevirtual ix) b.1 b.2) (fun _ h => absurd h List.not_mem_nil) ix (n, G) h, fun ix n G h => zlookup (β := Nat × zG) (L := []) (P := fun ix b => zCO p l e { frames := 1, cells := 0, slots := 0, locals := 200 } s m args below meth c cX8_take 2 D cy ad A n0 0 0 Q (.invokestatic ix) b.1 b.2) (fun _ h => absurd h List.not_mem_nil) ix (n, G) h⟩) (by decide)
end
section
def iX8_held : List (Option zI) := [some (.iload_n 0, 0, 1, []), some (.sipush 999, 999, 4, []), none, none, some (.if_icmp .le 9, 0, 7, [13]), none, none, some (.sipush 999, 999, 10, []), none, none, some (.goto 17, 0, 13, [27]), none, none, some (.iload_n 0, 0, 14, []), some (.sipush (-999), (-999), 17, []), none, none, some (.if_icmp .ge 9, 0, 20, [26]), none, none, some (.sipush (-999), (-999), 23, []), none, none, some (.goto 4, 0, 26, [27]), none, none, some (.iload_n 0, 0, 27, []), some (.ireturn, 0, 28, [])]
def mX8_held : zM := (iX8_held, [], [], [], [], [], [], [])
theorem kX8_held : zchkL cX8_held 0 iX8_held = true := by decide +kernel
set_option maxRecDepth 20000 in
theorem gX8_held : zGood mX8_held cX8_held yX8_held.cls (zwd yX8_held cX8_held 1 (zret 1)) := ⟨fun pc x h => by
    have h1 := zchkL_at kX8_held pc x h
    rw [Nat.zero_add] at h1
    exact h1, zlookF (fin := false) [] (fun _ h => absurd h List.not_mem_nil), zlookF (fin := true) [] (fun _ h => absurd h List.not_mem_nil), zlookup (β := Int32) (L := []) (P := fun ix b => Jvm.Cond.constant yX8_held.cls ix b ∈ (zwd yX8_held cX8_held 1 (zret 1))) (fun _ h => absurd h List.not_mem_nil), zlookup (β := Int64) (L := []) (P := fun ix b => Jvm.Cond.constantLong yX8_held.cls ix b ∈ (zwd yX8_held cX8_held 1 (zret 1))) (fun _ h => absurd h List.not_mem_nil), zlookup (β := Nat) (L := []) (P := fun ix b => zmok yX8_held.cls (zwd yX8_held cX8_held 1 (zret 1)) ix b) (fun _ h => absurd h List.not_mem_nil)⟩
set_option maxRecDepth 20000 in
theorem sX8_held (l : Launch) : ∀ (as : List Value) (ws : zW) (K : zP), zFr 1 (zGoes mX8_held 1 1) as ws K → zMet l yX8_held (zwd yX8_held cX8_held 1 (zret 1)) { frames := 1, cells := 0, slots := 0, locals := 200 } 1 as ws K := zFr_met (by decide +kernel) (by decide) (by decide) gX8_held (fun p e s m args below meth c D cy ad A n0 Q S hKK hA => ⟨fun ix n G h => zlookup (β := Nat × zG) (L := []) (P := fun ix b => zCO p l e { frames := 1, cells := 0, slots := 0, locals := 200 } s m args below meth c cX8_held 1 D cy ad A n0 0 0 Q (.invokevirtual ix) b.1 b.2) (fun _ h => absurd h List.not_mem_nil) ix (n, G) h, fun ix n G h => zlookup (β := Nat × zG) (L := []) (P := fun ix b => zCO p l e { frames := 1, cells := 0, slots := 0, locals := 200 } s m args below meth c cX8_held 1 D cy ad A n0 0 0 Q (.invokestatic ix) b.1 b.2) (fun _ h => absurd h List.not_mem_nil) ix (n, G) h⟩) (by decide)
def iX8_hopAll : List (Option zI) := [some (.aload_n 0, 0, 1, []), some (.getfield 13, 0, 4, []), none, none, some (.iconst 0, 0, 5, []), some (.iaload, 0, 6, []), some (.istore_n 2, 0, 7, []), some (.iconst 0, 0, 8, []), some (.istore_n 3, 0, 9, []), some (.iload_n 3, 0, 10, []), some (.iload_n 2, 0, 11, []), some (.if_icmp .ge 106, 0, 14, [117]), none, none, some (.iload_n 3, 0, 15, []), some (.ifCond .eq 20, 0, 18, [35]), none, none, some (.aload_n 1, 0, 19, []), some (.bipush 14, 14, 21, []), none, some (.iload_n 3, 0, 22, []), some (.iadd, 0, 23, []), some (.iconst 1, 1, 24, []), some (.isub, 0, 25, []), some (.iaload, 0, 26, []), some (.aload_n 1, 0, 27, []), some (.bipush 14, 14, 29, []), none, some (.iload_n 3, 0, 30, []), some (.iadd, 0, 31, []), some (.iaload, 0, 32, []), some (.if_icmp .eq 7, 0, 35, [39]), none, none, some (.iconst 1, 1, 36, []), some (.goto 4, 0, 39, [40]), none, none, some (.iconst 0, 0, 40, []), some (.istore 4, 0, 42, []), none, some (.iload_n 3, 0, 43, []), some (.iload_n 2, 0, 44, []), some (.iconst 1, 1, 45, []), some (.isub, 0, 46, []), some (.if_icmp .eq 20, 0, 49, [66]), none, none, some (.aload_n 1, 0, 50, []), some (.bipush 14, 14, 52, []), none, some (.iload_n 3, 0, 53, []), some (.iadd, 0, 54, []), some (.iconst 1, 1, 55, []), some (.iadd, 0, 56, []), some (.iaload, 0, 57, []), some (.aload_n 1, 0, 58, []), some (.bipush 14, 14, 60, []), none, some (.iload_n 3, 0, 61, []), some (.iadd, 0, 62, []), some (.iaload, 0, 63, []), some (.if_icmp .eq 7, 0, 66, [70]), none, none, some (.iconst 1, 1, 67, []), some (.goto 4, 0, 70, [71]), none, none, some (.iconst 0, 0, 71, []), some (.istore 5, 0, 73, []), none, some (.aload_n 0, 0, 74, []), some (.getfield 36, 0, 77, []), none, none, some (.iload_n 3, 0, 78, []), some (.iload_n 2, 0, 79, []), some (.iconst 1, 1, 80, []), some (.if_icmp .le 24, 0, 83, [104]), none, none, some (.iload 4, 0, 85, []), none, some (.ifCond .eq 19, 0, 88, [104]), none, none, some (.iload 5, 0, 90, []), none, some (.ifCond .eq 14, 0, 93, [104]), none, none, some (.iconst 1, 1, 94, []), some (.aload_n 1, 0, 95, []), some (.bipush 14, 14, 97, []), none, some (.iload_n 3, 0, 98, []), some (.iadd, 0, 99, []), some (.iaload, 0, 100, []), some (.isub, 0, 101, []), some (.goto 9, 0, 104, [110]), none, none, some (.aload_n 1, 0, 105, []), some (.bipush 14, 14, 107, []), none, some (.iload_n 3, 0, 108, []), some (.iadd, 0, 109, []), some (.iaload, 0, 110, []), some (.iastore, 0, 111, []), some (.iinc 3 1, 1, 114, []), none, none, some (.goto (-105), 0, 117, [9]), none, none, some (.iconst 0, 0, 118, []), some (.istore_n 3, 0, 119, []), some (.iload_n 3, 0, 120, []), some (.iload_n 2, 0, 121, []), some (.if_icmp .ge 21, 0, 124, [142]), none, none, some (.aload_n 1, 0, 125, []), some (.bipush 14, 14, 127, []), none, some (.iload_n 3, 0, 128, []), some (.iadd, 0, 129, []), some (.aload_n 0, 0, 130, []), some (.getfield 36, 0, 133, []), none, none, some (.iload_n 3, 0, 134, []), some (.iaload, 0, 135, []), some (.iastore, 0, 136, []), some (.iinc 3 1, 1, 139, []), none, none, some (.goto (-20), 0, 142, [119]), none, none, some (.return_, 0, 143, [])]
def mX8_hopAll : zM := (iX8_hopAll, [(13, 8, 3, (.array .int)), (36, 8, 16, (.array .int))], [], [], [], [], [], [])
theorem kX8_hopAll : zchkL cX8_hopAll 0 iX8_hopAll = true := by decide +kernel
set_option maxRecDepth 20000 in
theorem gX8_hopAll : zGood mX8_hopAll cX8_hopAll yX8_hopAll.cls (zwd yX8_hopAll cX8_hopAll 6 (zret 0)) := ⟨fun pc x h => by
    have h1 := zchkL_at kX8_hopAll pc x h
    rw [Nat.zero_add] at h1
    exact h1, zlookF (fin := false) [(13, 8, 3, (.array .int)), (36, 8, 16, (.array .int))] (List.forall_mem_cons.mpr ⟨⟨(RX8, TX8, 24), rfl, by decide, List.mem_cons_of_mem _ zw718, fun w h => List.mem_cons_of_mem _ (zX8 w h), by decide +kernel, fun h => by cases h⟩, List.forall_mem_cons.mpr ⟨⟨(RX8, TX8, 24), rfl, by decide, List.mem_cons_of_mem _ zw731, fun w h => List.mem_cons_of_mem _ (zX8 w h), by decide +kernel, fun h => by cases h⟩, fun _ h => absurd h List.not_mem_nil⟩⟩), zlookF (fin := true) [] (fun _ h => absurd h List.not_mem_nil), zlookup (β := Int32) (L := []) (P := fun ix b => Jvm.Cond.constant yX8_hopAll.cls ix b ∈ (zwd yX8_hopAll cX8_hopAll 6 (zret 0))) (fun _ h => absurd h List.not_mem_nil), zlookup (β := Int64) (L := []) (P := fun ix b => Jvm.Cond.constantLong yX8_hopAll.cls ix b ∈ (zwd yX8_hopAll cX8_hopAll 6 (zret 0))) (fun _ h => absurd h List.not_mem_nil), zlookup (β := Nat) (L := []) (P := fun ix b => zmok yX8_hopAll.cls (zwd yX8_hopAll cX8_hopAll 6 (zret 0)) ix b) (fun _ h => absurd h List.not_mem_nil)⟩
set_option maxRecDepth 20000 in
theorem sX8_hopAll (l : Launch) : ∀ (as : List Value) (ws : zW) (K : zP), zFr 2 (zGoes mX8_hopAll 0 6) as ws K → zMet l yX8_hopAll (zwd yX8_hopAll cX8_hopAll 6 (zret 0)) { frames := 1, cells := 0, slots := 0, locals := 200 } 0 as ws K := zFr_met (by decide +kernel) (by decide) (by decide) gX8_hopAll (fun p e s m args below meth c D cy ad A n0 Q S hKK hA => ⟨fun ix n G h => zlookup (β := Nat × zG) (L := []) (P := fun ix b => zCO p l e { frames := 1, cells := 0, slots := 0, locals := 200 } s m args below meth c cX8_hopAll 6 D cy ad A n0 0 0 Q (.invokevirtual ix) b.1 b.2) (fun _ h => absurd h List.not_mem_nil) ix (n, G) h, fun ix n G h => zlookup (β := Nat × zG) (L := []) (P := fun ix b => zCO p l e { frames := 1, cells := 0, slots := 0, locals := 200 } s m args below meth c cX8_hopAll 6 D cy ad A n0 0 0 Q (.invokestatic ix) b.1 b.2) (fun _ h => absurd h List.not_mem_nil) ix (n, G) h⟩) (by decide)
def iX8_pace : List (Option zI) := [some (.aload_n 0, 0, 1, []), some (.getfield 13, 0, 4, []), none, none, some (.iconst 0, 0, 5, []), some (.iaload, 0, 6, []), some (.istore_n 3, 0, 7, []), some (.iconst 0, 0, 8, []), some (.istore 4, 0, 10, []), none, some (.iload 4, 0, 12, []), none, some (.iload_n 3, 0, 13, []), some (.if_icmp .ge 170, 0, 16, [183]), none, none, some (.iload 4, 0, 18, []), none, some (.iload_n 3, 0, 19, []), some (.iconst 1, 1, 20, []), some (.isub, 0, 21, []), some (.if_icmp .ne 7, 0, 24, [28]), none, none, some (.iconst 0, 0, 25, []), some (.goto 20, 0, 28, [45]), none, none, some (.aload_n 1, 0, 29, []), some (.bipush 7, 7, 31, []), none, some (.iload 4, 0, 33, []), none, some (.iadd, 0, 34, []), some (.iconst 1, 1, 35, []), some (.iadd, 0, 36, []), some (.iaload, 0, 37, []), some (.aload_n 1, 0, 38, []), some (.bipush 7, 7, 40, []), none, some (.iload 4, 0, 42, []), none, some (.iadd, 0, 43, []), some (.iaload, 0, 44, []), some (.isub, 0, 45, []), some (.istore 5, 0, 47, []), none, some (.iload 4, 0, 49, []), none, some (.ifCond .ne 7, 0, 52, [56]), none, none, some (.iconst 0, 0, 53, []), some (.goto 20, 0, 56, [73]), none, none, some (.aload_n 1, 0, 57, []), some (.bipush 7, 7, 59, []), none, some (.iload 4, 0, 61, []), none, some (.iadd, 0, 62, []), some (.iconst 1, 1, 63, []), some (.isub, 0, 64, []), some (.iaload, 0, 65, []), some (.aload_n 1, 0, 66, []), some (.bipush 7, 7, 68, []), none, some (.iload 4, 0, 70, []), none, some (.iadd, 0, 71, []), some (.iaload, 0, 72, []), some (.isub, 0, 73, []), some (.istore 6, 0, 75, []), none, some (.aload_n 1, 0, 76, []), some (.iload 4, 0, 78, []), none, some (.iload_n 3, 0, 79, []), some (.invokestatic 113, 0, 82, []), none, none, some (.istore 7, 0, 84, []), none, some (.iload 7, 0, 86, []), none, some (.aload_n 1, 0, 87, []), some (.bipush 22, 22, 89, []), none, some (.iaload, 0, 90, []), some (.iload 5, 0, 92, []), none, some (.imul, 0, 93, []), some (.bipush 10, 10, 95, []), none, some (.idiv, 0, 96, []), some (.iadd, 0, 97, []), some (.aload_n 1, 0, 98, []), some (.bipush 23, 23, 100, []), none, some (.iaload, 0, 101, []), some (.iload 6, 0, 103, []), none, some (.imul, 0, 104, []), some (.bipush 10, 10, 106, []), none, some (.idiv, 0, 107, []), some (.iadd, 0, 108, []), some (.istore 8, 0, 110, []), none, some (.aload_n 0, 0, 111, []), some (.getfield 17, 0, 114, []), none, none, some (.aload_n 1, 0, 115, []), some (.iconst 0, 0, 116, []), some (.iload 4, 0, 118, []), none, some (.iadd, 0, 119, []), some (.iaload, 0, 120, []), some (.iaload, 0, 121, []), some (.istore 9, 0, 123, []), none, some (.iload 8, 0, 125, []), none, some (.ifCond .lt 9, 0, 128, [134]), none, none, some (.iload 4, 0, 130, []), none, some (.iload_n 2, 0, 131, []), some (.if_icmp .ne 7, 0, 134, [138]), none, none, some (.iconst 0, 0, 135, []), some (.goto 17, 0, 138, [152]), none, none, some (.iload 8, 0, 140, []), none, some (.iload 9, 0, 142, []), none, some (.if_icmp .le 8, 0, 145, [150]), none, none, some (.iload 9, 0, 147, []), none, some (.goto 5, 0, 150, [152]), none, none, some (.iload 8, 0, 152, []), none, some (.istore 8, 0, 154, []), none, some (.aload_n 0, 0, 155, []), some (.getfield 36, 0, 158, []), none, none, some (.iload 4, 0, 160, []), none, some (.aload_n 1, 0, 161, []), some (.bipush 7, 7, 163, []), none, some (.iload 4, 0, 165, []), none, some (.iadd, 0, 166, []), some (.iaload, 0, 167, []), some (.iload 8, 0, 169, []), none, some (.iadd, 0, 170, []), some (.iload 7, 0, 172, []), none, some (.isub, 0, 173, []), some (.invokestatic 117, 0, 176, []), none, none, some (.iastore, 0, 177, []), some (.iinc 4 1, 1, 180, []), none, none, some (.goto (-170), 0, 183, [10]), none, none, some (.iconst 0, 0, 184, []), some (.istore 4, 0, 186, []), none, some (.iload 4, 0, 188, []), none, some (.iload_n 3, 0, 189, []), some (.if_icmp .ge 23, 0, 192, [212]), none, none, some (.aload_n 1, 0, 193, []), some (.bipush 7, 7, 195, []), none, some (.iload 4, 0, 197, []), none, some (.iadd, 0, 198, []), some (.aload_n 0, 0, 199, []), some (.getfield 36, 0, 202, []), none, none, some (.iload 4, 0, 204, []), none, some (.iaload, 0, 205, []), some (.iastore, 0, 206, []), some (.iinc 4 1, 1, 209, []), none, none, some (.goto (-23), 0, 212, [186]), none, none, some (.aload_n 0, 0, 213, []), some (.aload_n 1, 0, 214, []), some (.invokevirtual 120, 0, 217, []), none, none, some (.aload_n 1, 0, 218, []), some (.bipush 24, 24, 220, []), none, some (.dup2, 0, 221, []), some (.iaload, 0, 222, []), some (.iconst 1, 1, 223, []), some (.iadd, 0, 224, []), some (.iastore, 0, 225, []), some (.return_, 0, 226, [])]
def mX8_pace : zM := (iX8_pace, [(13, 8, 3, (.array .int)), (17, 8, 4, (.array .int)), (36, 8, 16, (.array .int))], [], [], [], [], [(120, 2, zFV 8 2 (zGoes mX8_hopAll 0 6))], [(113, 3, zFr 3 (zGoes mX8_wants 1 3)), (117, 1, zFr 1 (zGoes mX8_held 1 1))])
theorem kX8_pace : zchkL cX8_pace 0 iX8_pace = true := by decide +kernel
set_option maxRecDepth 20000 in
theorem gX8_pace : zGood mX8_pace cX8_pace yX8_pace.cls (zwd yX8_pace cX8_pace 10 (zret 0)) := ⟨fun pc x h => by
    have h1 := zchkL_at kX8_pace pc x h
    rw [Nat.zero_add] at h1
    exact h1, zlookF (fin := false) [(13, 8, 3, (.array .int)), (17, 8, 4, (.array .int)), (36, 8, 16, (.array .int))] (List.forall_mem_cons.mpr ⟨⟨(RX8, TX8, 24), rfl, by decide, List.mem_cons_of_mem _ zw718, fun w h => List.mem_cons_of_mem _ (zX8 w h), by decide +kernel, fun h => by cases h⟩, List.forall_mem_cons.mpr ⟨⟨(RX8, TX8, 24), rfl, by decide, List.mem_cons_of_mem _ zw719, fun w h => List.mem_cons_of_mem _ (zX8 w h), by decide +kernel, fun h => by cases h⟩, List.forall_mem_cons.mpr ⟨⟨(RX8, TX8, 24), rfl, by decide, List.mem_cons_of_mem _ zw731, fun w h => List.mem_cons_of_mem _ (zX8 w h), by decide +kernel, fun h => by cases h⟩, fun _ h => absurd h List.not_mem_nil⟩⟩⟩), zlookF (fin := true) [] (fun _ h => absurd h List.not_mem_nil), zlookup (β := Int32) (L := []) (P := fun ix b => Jvm.Cond.constant yX8_pace.cls ix b ∈ (zwd yX8_pace cX8_pace 10 (zret 0))) (fun _ h => absurd h List.not_mem_nil), zlookup (β := Int64) (L := []) (P := fun ix b => Jvm.Cond.constantLong yX8_pace.cls ix b ∈ (zwd yX8_pace cX8_pace 10 (zret 0))) (fun _ h => absurd h List.not_mem_nil), zlookup (β := Nat) (L := []) (P := fun ix b => zmok yX8_pace.cls (zwd yX8_pace cX8_pace 10 (zret 0)) ix b) (fun _ h => absurd h List.not_mem_nil)⟩
set_option maxRecDepth 20000 in
theorem sX8_pace (l : Launch) : ∀ (as : List Value) (ws : zW) (K : zP), zFr 3 (zGoes mX8_pace 0 10) as ws K → zMet l yX8_pace (zwd yX8_pace cX8_pace 10 (zret 0)) { frames := 2, cells := 0, slots := 0, locals := 400 } 0 as ws K := zFr_met (by decide +kernel) (by decide) (by decide) gX8_pace (fun p e s m args below meth c D cy ad A n0 Q S hKK hA => ⟨fun ix n G h => zlookup (β := Nat × zG) (L := [(120, 2, zFV 8 2 (zGoes mX8_hopAll 0 6))]) (P := fun ix b => zCO p l e { frames := 2, cells := 0, slots := 0, locals := 400 } s m args below meth c cX8_pace 10 D cy ad A n0 0 0 Q (.invokevirtual ix) b.1 b.2) (List.forall_mem_cons.mpr ⟨zco_V (ci := 8) S hKK hA ⟨Nat.zero_le _, Nat.zero_le _⟩ (cwV 1 S.2.2.2.2 (zgoodV zw862 zw864 zw40 zw57 zw865) rfl rfl rfl (by decide +kernel) (by decide +kernel)) rfl rfl (sX8_hopAll l), fun _ h => absurd h List.not_mem_nil⟩) ix (n, G) h, fun ix n G h => zlookup (β := Nat × zG) (L := [(113, 3, zFr 3 (zGoes mX8_wants 1 3)), (117, 1, zFr 1 (zGoes mX8_held 1 1))]) (P := fun ix b => zCO p l e { frames := 2, cells := 0, slots := 0, locals := 400 } s m args below meth c cX8_pace 10 D cy ad A n0 0 0 Q (.invokestatic ix) b.1 b.2) (List.forall_mem_cons.mpr ⟨zco_S S hKK hA ⟨Nat.zero_le _, Nat.zero_le _⟩ (va_cwS 3 S.2.2.2.2 (zgoodS zw844 zw845 zw57 zw846) rfl rfl rfl (by decide +kernel) (by decide +kernel)) (sX8_wants l), List.forall_mem_cons.mpr ⟨zco_S S hKK hA ⟨Nat.zero_le _, Nat.zero_le _⟩ (va_cwS 1 S.2.2.2.2 (zgoodS zw859 zw860 zw57 zw861) rfl rfl rfl (by decide +kernel) (by decide +kernel)) (sX8_held l), fun _ h => absurd h List.not_mem_nil⟩⟩) ix (n, G) h⟩) (by decide)
def iX8_apart : List (Option zI) := [some (.aload_n 0, 0, 1, []), some (.bipush 7, 7, 3, []), none, some (.iload_n 1, 0, 4, []), some (.iadd, 0, 5, []), some (.iconst 1, 1, 6, []), some (.iadd, 0, 7, []), some (.iaload, 0, 8, []), some (.aload_n 0, 0, 9, []), some (.bipush 7, 7, 11, []), none, some (.iload_n 1, 0, 12, []), some (.iadd, 0, 13, []), some (.iaload, 0, 14, []), some (.isub, 0, 15, []), some (.istore_n 2, 0, 16, []), some (.iload_n 2, 0, 17, []), some (.ifCond .ge 8, 0, 20, [25]), none, none, some (.iload_n 2, 0, 21, []), some (.ineg, 0, 22, []), some (.goto 4, 0, 25, [26]), none, none, some (.iload_n 2, 0, 26, []), some (.ireturn, 0, 27, [])]
def mX8_apart : zM := (iX8_apart, [], [], [], [], [], [], [])
theorem kX8_apart : zchkL cX8_apart 0 iX8_apart = true := by decide +kernel
set_option maxRecDepth 20000 in
theorem gX8_apart : zGood mX8_apart cX8_apart yX8_apart.cls (zwd yX8_apart cX8_apart 3 (zret 1)) := ⟨fun pc x h => by
    have h1 := zchkL_at kX8_apart pc x h
    rw [Nat.zero_add] at h1
    exact h1, zlookF (fin := false) [] (fun _ h => absurd h List.not_mem_nil), zlookF (fin := true) [] (fun _ h => absurd h List.not_mem_nil), zlookup (β := Int32) (L := []) (P := fun ix b => Jvm.Cond.constant yX8_apart.cls ix b ∈ (zwd yX8_apart cX8_apart 3 (zret 1))) (fun _ h => absurd h List.not_mem_nil), zlookup (β := Int64) (L := []) (P := fun ix b => Jvm.Cond.constantLong yX8_apart.cls ix b ∈ (zwd yX8_apart cX8_apart 3 (zret 1))) (fun _ h => absurd h List.not_mem_nil), zlookup (β := Nat) (L := []) (P := fun ix b => zmok yX8_apart.cls (zwd yX8_apart cX8_apart 3 (zret 1)) ix b) (fun _ h => absurd h List.not_mem_nil)⟩
set_option maxRecDepth 20000 in
theorem sX8_apart (l : Launch) : ∀ (as : List Value) (ws : zW) (K : zP), zFr 2 (zGoes mX8_apart 1 3) as ws K → zMet l yX8_apart (zwd yX8_apart cX8_apart 3 (zret 1)) { frames := 1, cells := 0, slots := 0, locals := 200 } 1 as ws K := zFr_met (by decide +kernel) (by decide) (by decide) gX8_apart (fun p e s m args below meth c D cy ad A n0 Q S hKK hA => ⟨fun ix n G h => zlookup (β := Nat × zG) (L := []) (P := fun ix b => zCO p l e { frames := 1, cells := 0, slots := 0, locals := 200 } s m args below meth c cX8_apart 3 D cy ad A n0 0 0 Q (.invokevirtual ix) b.1 b.2) (fun _ h => absurd h List.not_mem_nil) ix (n, G) h, fun ix n G h => zlookup (β := Nat × zG) (L := []) (P := fun ix b => zCO p l e { frames := 1, cells := 0, slots := 0, locals := 200 } s m args below meth c cX8_apart 3 D cy ad A n0 0 0 Q (.invokestatic ix) b.1 b.2) (fun _ h => absurd h List.not_mem_nil) ix (n, G) h⟩) (by decide)
def iX8_bulge : List (Option zI) := [some (.iconst 0, 0, 1, []), some (.istore_n 2, 0, 2, []), some (.iconst 0, 0, 3, []), some (.istore_n 3, 0, 4, []), some (.iload_n 3, 0, 5, []), some (.iconst 1, 1, 6, []), some (.iadd, 0, 7, []), some (.aload_n 0, 0, 8, []), some (.getfield 13, 0, 11, []), none, none, some (.iconst 0, 0, 12, []), some (.iaload, 0, 13, []), some (.if_icmp .ge 28, 0, 16, [41]), none, none, some (.aload_n 1, 0, 17, []), some (.iload_n 3, 0, 18, []), some (.invokestatic 124, 0, 21, []), none, none, some (.iload_n 2, 0, 22, []), some (.if_icmp .le 11, 0, 25, [33]), none, none, some (.aload_n 1, 0, 26, []), some (.iload_n 3, 0, 27, []), some (.invokestatic 124, 0, 30, []), none, none, some (.goto 4, 0, 33, [34]), none, none, some (.iload_n 2, 0, 34, []), some (.istore_n 2, 0, 35, []), some (.iinc 3 1, 1, 38, []), none, none, some (.goto (-34), 0, 41, [4]), none, none, some (.iload_n 2, 0, 42, []), some (.ireturn, 0, 43, [])]
def mX8_bulge : zM := (iX8_bulge, [(13, 8, 3, (.array .int))], [], [], [], [], [], [(124, 2, zFr 2 (zGoes mX8_apart 1 3))])
theorem kX8_bulge : zchkL cX8_bulge 0 iX8_bulge = true := by decide +kernel
set_option maxRecDepth 20000 in
theorem gX8_bulge : zGood mX8_bulge cX8_bulge yX8_bulge.cls (zwd yX8_bulge cX8_bulge 4 (zret 1)) := ⟨fun pc x h => by
    have h1 := zchkL_at kX8_bulge pc x h
    rw [Nat.zero_add] at h1
    exact h1, zlookF (fin := false) [(13, 8, 3, (.array .int))] (List.forall_mem_cons.mpr ⟨⟨(RX8, TX8, 24), rfl, by decide, List.mem_cons_of_mem _ zw718, fun w h => List.mem_cons_of_mem _ (zX8 w h), by decide +kernel, fun h => by cases h⟩, fun _ h => absurd h List.not_mem_nil⟩), zlookF (fin := true) [] (fun _ h => absurd h List.not_mem_nil), zlookup (β := Int32) (L := []) (P := fun ix b => Jvm.Cond.constant yX8_bulge.cls ix b ∈ (zwd yX8_bulge cX8_bulge 4 (zret 1))) (fun _ h => absurd h List.not_mem_nil), zlookup (β := Int64) (L := []) (P := fun ix b => Jvm.Cond.constantLong yX8_bulge.cls ix b ∈ (zwd yX8_bulge cX8_bulge 4 (zret 1))) (fun _ h => absurd h List.not_mem_nil), zlookup (β := Nat) (L := []) (P := fun ix b => zmok yX8_bulge.cls (zwd yX8_bulge cX8_bulge 4 (zret 1)) ix b) (fun _ h => absurd h List.not_mem_nil)⟩
set_option maxRecDepth 20000 in
theorem sX8_bulge (l : Launch) : ∀ (as : List Value) (ws : zW) (K : zP), zFr 2 (zGoes mX8_bulge 1 4) as ws K → zMet l yX8_bulge (zwd yX8_bulge cX8_bulge 4 (zret 1)) { frames := 2, cells := 0, slots := 0, locals := 400 } 1 as ws K := zFr_met (by decide +kernel) (by decide) (by decide) gX8_bulge (fun p e s m args below meth c D cy ad A n0 Q S hKK hA => ⟨fun ix n G h => zlookup (β := Nat × zG) (L := []) (P := fun ix b => zCO p l e { frames := 2, cells := 0, slots := 0, locals := 400 } s m args below meth c cX8_bulge 4 D cy ad A n0 0 0 Q (.invokevirtual ix) b.1 b.2) (fun _ h => absurd h List.not_mem_nil) ix (n, G) h, fun ix n G h => zlookup (β := Nat × zG) (L := [(124, 2, zFr 2 (zGoes mX8_apart 1 3))]) (P := fun ix b => zCO p l e { frames := 2, cells := 0, slots := 0, locals := 400 } s m args below meth c cX8_bulge 4 D cy ad A n0 0 0 Q (.invokestatic ix) b.1 b.2) (List.forall_mem_cons.mpr ⟨zco_S S hKK hA ⟨Nat.zero_le _, Nat.zero_le _⟩ (va_cwS 2 S.2.2.2.2 (zgoodS zw870 zw871 zw57 zw872) rfl rfl rfl (by decide +kernel) (by decide +kernel)) (sX8_apart l), fun _ h => absurd h List.not_mem_nil⟩) ix (n, G) h⟩) (by decide)
def iX8_bulgeAt : List (Option zI) := [some (.iconst 0, 0, 1, []), some (.istore_n 2, 0, 2, []), some (.iload_n 2, 0, 3, []), some (.iconst 1, 1, 4, []), some (.iadd, 0, 5, []), some (.aload_n 0, 0, 6, []), some (.getfield 13, 0, 9, []), none, none, some (.iconst 0, 0, 10, []), some (.iaload, 0, 11, []), some (.if_icmp .ge 24, 0, 14, [35]), none, none, some (.aload_n 1, 0, 15, []), some (.iload_n 2, 0, 16, []), some (.invokestatic 124, 0, 19, []), none, none, some (.aload_n 0, 0, 20, []), some (.aload_n 1, 0, 21, []), some (.invokevirtual 128, 0, 24, []), none, none, some (.if_icmp .ne 5, 0, 27, [29]), none, none, some (.iload_n 2, 0, 28, []), some (.ireturn, 0, 29, []), some (.iinc 2 1, 1, 32, []), none, none, some (.goto (-30), 0, 35, [2]), none, none, some (.sipush (-1009), (-1009), 38, []), none, none, some (.ireturn, 0, 39, [])]
def mX8_bulgeAt : zM := (iX8_bulgeAt, [(13, 8, 3, (.array .int))], [], [], [], [], [(128, 2, zFV 8 2 (zGoes mX8_bulge 1 4))], [(124, 2, zFr 2 (zGoes mX8_apart 1 3))])
theorem kX8_bulgeAt : zchkL cX8_bulgeAt 0 iX8_bulgeAt = true := by decide +kernel
set_option maxRecDepth 20000 in
theorem gX8_bulgeAt : zGood mX8_bulgeAt cX8_bulgeAt yX8_bulgeAt.cls (zwd yX8_bulgeAt cX8_bulgeAt 3 (zret 1)) := ⟨fun pc x h => by
    have h1 := zchkL_at kX8_bulgeAt pc x h
    rw [Nat.zero_add] at h1
    exact h1, zlookF (fin := false) [(13, 8, 3, (.array .int))] (List.forall_mem_cons.mpr ⟨⟨(RX8, TX8, 24), rfl, by decide, List.mem_cons_of_mem _ zw718, fun w h => List.mem_cons_of_mem _ (zX8 w h), by decide +kernel, fun h => by cases h⟩, fun _ h => absurd h List.not_mem_nil⟩), zlookF (fin := true) [] (fun _ h => absurd h List.not_mem_nil), zlookup (β := Int32) (L := []) (P := fun ix b => Jvm.Cond.constant yX8_bulgeAt.cls ix b ∈ (zwd yX8_bulgeAt cX8_bulgeAt 3 (zret 1))) (fun _ h => absurd h List.not_mem_nil), zlookup (β := Int64) (L := []) (P := fun ix b => Jvm.Cond.constantLong yX8_bulgeAt.cls ix b ∈ (zwd yX8_bulgeAt cX8_bulgeAt 3 (zret 1))) (fun _ h => absurd h List.not_mem_nil), zlookup (β := Nat) (L := []) (P := fun ix b => zmok yX8_bulgeAt.cls (zwd yX8_bulgeAt cX8_bulgeAt 3 (zret 1)) ix b) (fun _ h => absurd h List.not_mem_nil)⟩
set_option maxRecDepth 20000 in
theorem sX8_bulgeAt (l : Launch) : ∀ (as : List Value) (ws : zW) (K : zP), zFr 2 (zGoes mX8_bulgeAt 1 3) as ws K → zMet l yX8_bulgeAt (zwd yX8_bulgeAt cX8_bulgeAt 3 (zret 1)) { frames := 3, cells := 0, slots := 0, locals := 600 } 1 as ws K := zFr_met (by decide +kernel) (by decide) (by decide) gX8_bulgeAt (fun p e s m args below meth c D cy ad A n0 Q S hKK hA => ⟨fun ix n G h => zlookup (β := Nat × zG) (L := [(128, 2, zFV 8 2 (zGoes mX8_bulge 1 4))]) (P := fun ix b => zCO p l e { frames := 3, cells := 0, slots := 0, locals := 600 } s m args below meth c cX8_bulgeAt 3 D cy ad A n0 0 0 Q (.invokevirtual ix) b.1 b.2) (List.forall_mem_cons.mpr ⟨zco_V (ci := 8) S hKK hA ⟨Nat.zero_le _, Nat.zero_le _⟩ (cwV 1 S.2.2.2.2 (zgoodV zw866 zw868 zw41 zw57 zw869) rfl rfl rfl (by decide +kernel) (by decide +kernel)) rfl rfl (sX8_bulge l), fun _ h => absurd h List.not_mem_nil⟩) ix (n, G) h, fun ix n G h => zlookup (β := Nat × zG) (L := [(124, 2, zFr 2 (zGoes mX8_apart 1 3))]) (P := fun ix b => zCO p l e { frames := 3, cells := 0, slots := 0, locals := 600 } s m args below meth c cX8_bulgeAt 3 D cy ad A n0 0 0 Q (.invokestatic ix) b.1 b.2) (List.forall_mem_cons.mpr ⟨zco_S S hKK hA ⟨Nat.zero_le _, Nat.zero_le _⟩ (va_cwS 2 S.2.2.2.2 (zgoodS zw870 zw871 zw57 zw872) rfl rfl rfl (by decide +kernel) (by decide +kernel)) (sX8_apart l), fun _ h => absurd h List.not_mem_nil⟩) ix (n, G) h⟩) (by decide)
def iX8_know : List (Option zI) := [some (.aload_n 0, 0, 1, []), some (.getfield 26, 0, 4, []), none, none, some (.bipush 25, 25, 6, []), none, some (.iaload, 0, 7, []), some (.bipush 10, 10, 9, []), none, some (.if_icmp .ne 47, 0, 12, [56]), none, none, some (.iconst 0, 0, 13, []), some (.istore_n 1, 0, 14, []), some (.iload_n 1, 0, 15, []), some (.sipush 225, 225, 18, []), none, none, some (.if_icmp .ge 27, 0, 21, [45]), none, none, some (.aload_n 0, 0, 22, []), some (.getfield 26, 0, 25, []), none, none, some (.bipush 26, 26, 27, []), none, some (.iload_n 1, 0, 28, []), some (.iadd, 0, 29, []), some (.aload_n 0, 0, 30, []), some (.getfield 26, 0, 33, []), none, none, some (.bipush 51, 51, 35, []), none, some (.iload_n 1, 0, 36, []), some (.iadd, 0, 37, []), some (.iaload, 0, 38, []), some (.iastore, 0, 39, []), some (.iinc 1 1, 1, 42, []), none, none, some (.goto (-28), 0, 45, [14]), none, none, some (.aload_n 0, 0, 46, []), some (.getfield 26, 0, 49, []), none, none, some (.bipush 25, 25, 51, []), none, some (.dup2, 0, 52, []), some (.iaload, 0, 53, []), some (.iconst 1, 1, 54, []), some (.isub, 0, 55, []), some (.iastore, 0, 56, []), some (.iconst 0, 0, 57, []), some (.istore_n 1, 0, 58, []), some (.iload_n 1, 0, 59, []), some (.bipush 25, 25, 61, []), none, some (.if_icmp .ge 35, 0, 64, [96]), none, none, some (.aload_n 0, 0, 65, []), some (.getfield 26, 0, 68, []), none, none, some (.bipush 26, 26, 70, []), none, some (.bipush 25, 25, 72, []), none, some (.aload_n 0, 0, 73, []), some (.getfield 26, 0, 76, []), none, none, some (.bipush 25, 25, 78, []), none, some (.iaload, 0, 79, []), some (.imul, 0, 80, []), some (.iadd, 0, 81, []), some (.iload_n 1, 0, 82, []), some (.iadd, 0, 83, []), some (.aload_n 0, 0, 84, []), some (.getfield 26, 0, 87, []), none, none, some (.iload_n 1, 0, 88, []), some (.iaload, 0, 89, []), some (.iastore, 0, 90, []), some (.iinc 1 1, 1, 93, []), none, none, some (.goto (-35), 0, 96, [58]), none, none, some (.aload_n 0, 0, 97, []), some (.getfield 26, 0, 100, []), none, none, some (.bipush 25, 25, 102, []), none, some (.dup2, 0, 103, []), some (.iaload, 0, 104, []), some (.iconst 1, 1, 105, []), some (.iadd, 0, 106, []), some (.iastore, 0, 107, []), some (.return_, 0, 108, [])]
def mX8_know : zM := (iX8_know, [(26, 8, 13, (.array .int))], [], [], [], [], [], [])
theorem kX8_know : zchkL cX8_know 0 iX8_know = true := by decide +kernel
set_option maxRecDepth 20000 in
theorem gX8_know : zGood mX8_know cX8_know yX8_know.cls (zwd yX8_know cX8_know 2 (zret 0)) := ⟨fun pc x h => by
    have h1 := zchkL_at kX8_know pc x h
    rw [Nat.zero_add] at h1
    exact h1, zlookF (fin := false) [(26, 8, 13, (.array .int))] (List.forall_mem_cons.mpr ⟨⟨(RX8, TX8, 24), rfl, by decide, List.mem_cons_of_mem _ zw728, fun w h => List.mem_cons_of_mem _ (zX8 w h), by decide +kernel, fun h => by cases h⟩, fun _ h => absurd h List.not_mem_nil⟩), zlookF (fin := true) [] (fun _ h => absurd h List.not_mem_nil), zlookup (β := Int32) (L := []) (P := fun ix b => Jvm.Cond.constant yX8_know.cls ix b ∈ (zwd yX8_know cX8_know 2 (zret 0))) (fun _ h => absurd h List.not_mem_nil), zlookup (β := Int64) (L := []) (P := fun ix b => Jvm.Cond.constantLong yX8_know.cls ix b ∈ (zwd yX8_know cX8_know 2 (zret 0))) (fun _ h => absurd h List.not_mem_nil), zlookup (β := Nat) (L := []) (P := fun ix b => zmok yX8_know.cls (zwd yX8_know cX8_know 2 (zret 0)) ix b) (fun _ h => absurd h List.not_mem_nil)⟩
set_option maxRecDepth 20000 in
theorem sX8_know (l : Launch) : ∀ (as : List Value) (ws : zW) (K : zP), zFr 1 (zGoes mX8_know 0 2) as ws K → zMet l yX8_know (zwd yX8_know cX8_know 2 (zret 0)) { frames := 1, cells := 0, slots := 0, locals := 200 } 0 as ws K := zFr_met (by decide +kernel) (by decide) (by decide) gX8_know (fun p e s m args below meth c D cy ad A n0 Q S hKK hA => ⟨fun ix n G h => zlookup (β := Nat × zG) (L := []) (P := fun ix b => zCO p l e { frames := 1, cells := 0, slots := 0, locals := 200 } s m args below meth c cX8_know 2 D cy ad A n0 0 0 Q (.invokevirtual ix) b.1 b.2) (fun _ h => absurd h List.not_mem_nil) ix (n, G) h, fun ix n G h => zlookup (β := Nat × zG) (L := []) (P := fun ix b => zCO p l e { frames := 1, cells := 0, slots := 0, locals := 200 } s m args below meth c cX8_know 2 D cy ad A n0 0 0 Q (.invokestatic ix) b.1 b.2) (fun _ h => absurd h List.not_mem_nil) ix (n, G) h⟩) (by decide)
def iX8_wheels : List (Option zI) := [some (.aload_n 0, 0, 1, []), some (.getfield 26, 0, 4, []), none, none, some (.bipush 24, 24, 6, []), none, some (.iaload, 0, 7, []), some (.sipush 9999, 9999, 10, []), none, none, some (.if_icmp .ne 7, 0, 13, [17]), none, none, some (.sipush (-1002), (-1002), 16, []), none, none, some (.ireturn, 0, 17, []), some (.aload_n 0, 0, 18, []), some (.invokevirtual 132, 0, 21, []), none, none, some (.aload_n 0, 0, 22, []), some (.aload_n 0, 0, 23, []), some (.getfield 26, 0, 26, []), none, none, some (.sipush (-1009), (-1009), 29, []), none, none, some (.invokevirtual 135, 0, 32, []), none, none, some (.aload_n 0, 0, 33, []), some (.aload_n 0, 0, 34, []), some (.getfield 26, 0, 37, []), none, none, some (.invokevirtual 128, 0, 40, []), none, none, some (.ireturn, 0, 41, [])]
def mX8_wheels : zM := (iX8_wheels, [(26, 8, 13, (.array .int))], [], [], [], [], [(128, 2, zFV 8 2 (zGoes mX8_bulge 1 4)), (132, 1, zFV 8 1 (zGoes mX8_know 0 2)), (135, 3, zFV 8 3 (zGoes mX8_pace 0 10))], [])
theorem kX8_wheels : zchkL cX8_wheels 0 iX8_wheels = true := by decide +kernel
set_option maxRecDepth 20000 in
theorem gX8_wheels : zGood mX8_wheels cX8_wheels yX8_wheels.cls (zwd yX8_wheels cX8_wheels 1 (zret 1)) := ⟨fun pc x h => by
    have h1 := zchkL_at kX8_wheels pc x h
    rw [Nat.zero_add] at h1
    exact h1, zlookF (fin := false) [(26, 8, 13, (.array .int))] (List.forall_mem_cons.mpr ⟨⟨(RX8, TX8, 24), rfl, by decide, List.mem_cons_of_mem _ zw728, fun w h => List.mem_cons_of_mem _ (zX8 w h), by decide +kernel, fun h => by cases h⟩, fun _ h => absurd h List.not_mem_nil⟩), zlookF (fin := true) [] (fun _ h => absurd h List.not_mem_nil), zlookup (β := Int32) (L := []) (P := fun ix b => Jvm.Cond.constant yX8_wheels.cls ix b ∈ (zwd yX8_wheels cX8_wheels 1 (zret 1))) (fun _ h => absurd h List.not_mem_nil), zlookup (β := Int64) (L := []) (P := fun ix b => Jvm.Cond.constantLong yX8_wheels.cls ix b ∈ (zwd yX8_wheels cX8_wheels 1 (zret 1))) (fun _ h => absurd h List.not_mem_nil), zlookup (β := Nat) (L := []) (P := fun ix b => zmok yX8_wheels.cls (zwd yX8_wheels cX8_wheels 1 (zret 1)) ix b) (fun _ h => absurd h List.not_mem_nil)⟩
set_option maxRecDepth 20000 in
theorem sX8_wheels (l : Launch) : ∀ (as : List Value) (ws : zW) (K : zP), zFr 1 (zGoes mX8_wheels 1 1) as ws K → zMet l yX8_wheels (zwd yX8_wheels cX8_wheels 1 (zret 1)) { frames := 3, cells := 0, slots := 0, locals := 600 } 1 as ws K := zFr_met (by decide +kernel) (by decide) (by decide) gX8_wheels (fun p e s m args below meth c D cy ad A n0 Q S hKK hA => ⟨fun ix n G h => zlookup (β := Nat × zG) (L := [(128, 2, zFV 8 2 (zGoes mX8_bulge 1 4)), (132, 1, zFV 8 1 (zGoes mX8_know 0 2)), (135, 3, zFV 8 3 (zGoes mX8_pace 0 10))]) (P := fun ix b => zCO p l e { frames := 3, cells := 0, slots := 0, locals := 600 } s m args below meth c cX8_wheels 1 D cy ad A n0 0 0 Q (.invokevirtual ix) b.1 b.2) (List.forall_mem_cons.mpr ⟨zco_V (ci := 8) S hKK hA ⟨Nat.zero_le _, Nat.zero_le _⟩ (cwV 1 S.2.2.2.2 (zgoodV zw866 zw868 zw41 zw57 zw869) rfl rfl rfl (by decide +kernel) (by decide +kernel)) rfl rfl (sX8_bulge l), List.forall_mem_cons.mpr ⟨zco_V (ci := 8) S hKK hA ⟨Nat.zero_le _, Nat.zero_le _⟩ (cwV 0 S.2.2.2.2 (zgoodV zw851 zw853 zw38 zw57 zw854) rfl rfl rfl (by decide +kernel) (by decide +kernel)) rfl rfl (sX8_know l), List.forall_mem_cons.mpr ⟨zco_V (ci := 8) S hKK hA ⟨Nat.zero_le _, Nat.zero_le _⟩ (cwV 2 S.2.2.2.2 (zgoodV zw855 zw857 zw39 zw57 zw858) rfl rfl rfl (by decide +kernel) (by decide +kernel)) rfl rfl (sX8_pace l), fun _ h => absurd h List.not_mem_nil⟩⟩⟩) ix (n, G) h, fun ix n G h => zlookup (β := Nat × zG) (L := []) (P := fun ix b => zCO p l e { frames := 3, cells := 0, slots := 0, locals := 600 } s m args below meth c cX8_wheels 1 D cy ad A n0 0 0 Q (.invokestatic ix) b.1 b.2) (fun _ h => absurd h List.not_mem_nil) ix (n, G) h⟩) (by decide)
def iX8_slips : List (Option zI) := [some (.aload_n 0, 0, 1, []), some (.iload_n 1, 0, 2, []), some (.invokevirtual 110, 0, 5, []), none, none, some (.ifCond .eq 13, 0, 8, [18]), none, none, some (.iload_n 2, 0, 9, []), some (.iconst 1, 1, 10, []), some (.bipush 99, 99, 12, []), none, some (.invokestatic 54, 0, 15, []), none, none, some (.ifCond .ne 7, 0, 18, [22]), none, none, some (.sipush (-1001), (-1001), 21, []), none, none, some (.ireturn, 0, 22, []), some (.aload_n 0, 0, 23, []), some (.invokevirtual 132, 0, 26, []), none, none, some (.aload_n 0, 0, 27, []), some (.getfield 26, 0, 30, []), none, none, some (.bipush 7, 7, 32, []), none, some (.iload_n 1, 0, 33, []), some (.iadd, 0, 34, []), some (.aload_n 0, 0, 35, []), some (.getfield 26, 0, 38, []), none, none, some (.bipush 7, 7, 40, []), none, some (.iload_n 1, 0, 41, []), some (.iadd, 0, 42, []), some (.iaload, 0, 43, []), some (.iload_n 2, 0, 44, []), some (.isub, 0, 45, []), some (.invokestatic 117, 0, 48, []), none, none, some (.iastore, 0, 49, []), some (.aload_n 0, 0, 50, []), some (.getfield 26, 0, 53, []), none, none, some (.bipush 7, 7, 55, []), none, some (.iload_n 1, 0, 56, []), some (.iadd, 0, 57, []), some (.iaload, 0, 58, []), some (.ireturn, 0, 59, [])]
def mX8_slips : zM := (iX8_slips, [(26, 8, 13, (.array .int))], [], [], [], [], [(110, 2, zFV 8 2 (zGoes mX8_isPlace 3 2)), (132, 1, zFV 8 1 (zGoes mX8_know 0 2))], [(54, 3, zFr 3 (zGoes mX8_in 3 3)), (117, 1, zFr 1 (zGoes mX8_held 1 1))])
theorem kX8_slips : zchkL cX8_slips 0 iX8_slips = true := by decide +kernel
set_option maxRecDepth 20000 in
theorem gX8_slips : zGood mX8_slips cX8_slips yX8_slips.cls (zwd yX8_slips cX8_slips 3 (zret 1)) := ⟨fun pc x h => by
    have h1 := zchkL_at kX8_slips pc x h
    rw [Nat.zero_add] at h1
    exact h1, zlookF (fin := false) [(26, 8, 13, (.array .int))] (List.forall_mem_cons.mpr ⟨⟨(RX8, TX8, 24), rfl, by decide, List.mem_cons_of_mem _ zw728, fun w h => List.mem_cons_of_mem _ (zX8 w h), by decide +kernel, fun h => by cases h⟩, fun _ h => absurd h List.not_mem_nil⟩), zlookF (fin := true) [] (fun _ h => absurd h List.not_mem_nil), zlookup (β := Int32) (L := []) (P := fun ix b => Jvm.Cond.constant yX8_slips.cls ix b ∈ (zwd yX8_slips cX8_slips 3 (zret 1))) (fun _ h => absurd h List.not_mem_nil), zlookup (β := Int64) (L := []) (P := fun ix b => Jvm.Cond.constantLong yX8_slips.cls ix b ∈ (zwd yX8_slips cX8_slips 3 (zret 1))) (fun _ h => absurd h List.not_mem_nil), zlookup (β := Nat) (L := []) (P := fun ix b => zmok yX8_slips.cls (zwd yX8_slips cX8_slips 3 (zret 1)) ix b) (fun _ h => absurd h List.not_mem_nil)⟩
set_option maxRecDepth 20000 in
theorem sX8_slips (l : Launch) : ∀ (as : List Value) (ws : zW) (K : zP), zFr 3 (zGoes mX8_slips 1 3) as ws K → zMet l yX8_slips (zwd yX8_slips cX8_slips 3 (zret 1)) { frames := 3, cells := 0, slots := 0, locals := 600 } 1 as ws K := zFr_met (by decide +kernel) (by decide) (by decide) gX8_slips (fun p e s m args below meth c D cy ad A n0 Q S hKK hA => ⟨fun ix n G h => zlookup (β := Nat × zG) (L := [(110, 2, zFV 8 2 (zGoes mX8_isPlace 3 2)), (132, 1, zFV 8 1 (zGoes mX8_know 0 2))]) (P := fun ix b => zCO p l e { frames := 3, cells := 0, slots := 0, locals := 600 } s m args below meth c cX8_slips 3 D cy ad A n0 0 0 Q (.invokevirtual ix) b.1 b.2) (List.forall_mem_cons.mpr ⟨zco_V (ci := 8) S hKK hA ⟨Nat.zero_le _, Nat.zero_le _⟩ (cwV 1 S.2.2.2.2 (zgoodV zw836 zw838 zw37 zw57 zw839) rfl rfl rfl (by decide +kernel) (by decide +kernel)) rfl rfl (sX8_isPlace l), List.forall_mem_cons.mpr ⟨zco_V (ci := 8) S hKK hA ⟨Nat.zero_le _, Nat.zero_le _⟩ (cwV 0 S.2.2.2.2 (zgoodV zw851 zw853 zw38 zw57 zw854) rfl rfl rfl (by decide +kernel) (by decide +kernel)) rfl rfl (sX8_know l), fun _ h => absurd h List.not_mem_nil⟩⟩) ix (n, G) h, fun ix n G h => zlookup (β := Nat × zG) (L := [(54, 3, zFr 3 (zGoes mX8_in 3 3)), (117, 1, zFr 1 (zGoes mX8_held 1 1))]) (P := fun ix b => zCO p l e { frames := 3, cells := 0, slots := 0, locals := 600 } s m args below meth c cX8_slips 3 D cy ad A n0 0 0 Q (.invokestatic ix) b.1 b.2) (List.forall_mem_cons.mpr ⟨zco_S S hKK hA ⟨Nat.zero_le _, Nat.zero_le _⟩ (va_cwS 3 S.2.2.2.2 (zgoodS zw794 zw795 zw57 zw796) rfl rfl rfl (by decide +kernel) (by decide +kernel)) (sX8_in l), List.forall_mem_cons.mpr ⟨zco_S S hKK hA ⟨Nat.zero_le _, Nat.zero_le _⟩ (va_cwS 1 S.2.2.2.2 (zgoodS zw859 zw860 zw57 zw861) rfl rfl rfl (by decide +kernel) (by decide +kernel)) (sX8_held l), fun _ h => absurd h List.not_mem_nil⟩⟩) ix (n, G) h⟩) (by decide)
def iX8_hops : List (Option zI) := [some (.aload_n 0, 0, 1, []), some (.iload_n 1, 0, 2, []), some (.invokevirtual 110, 0, 5, []), none, none, some (.ifCond .ne 7, 0, 8, [12]), none, none, some (.sipush (-1001), (-1001), 11, []), none, none, some (.ireturn, 0, 12, []), some (.aload_n 0, 0, 13, []), some (.invokevirtual 132, 0, 16, []), none, none, some (.aload_n 0, 0, 17, []), some (.getfield 26, 0, 20, []), none, none, some (.bipush 14, 14, 22, []), none, some (.iload_n 1, 0, 23, []), some (.iadd, 0, 24, []), some (.iconst 1, 1, 25, []), some (.aload_n 0, 0, 26, []), some (.getfield 26, 0, 29, []), none, none, some (.bipush 14, 14, 31, []), none, some (.iload_n 1, 0, 32, []), some (.iadd, 0, 33, []), some (.iaload, 0, 34, []), some (.isub, 0, 35, []), some (.iastore, 0, 36, []), some (.aload_n 0, 0, 37, []), some (.getfield 26, 0, 40, []), none, none, some (.bipush 14, 14, 42, []), none, some (.iload_n 1, 0, 43, []), some (.iadd, 0, 44, []), some (.iaload, 0, 45, []), some (.ireturn, 0, 46, [])]
def mX8_hops : zM := (iX8_hops, [(26, 8, 13, (.array .int))], [], [], [], [], [(110, 2, zFV 8 2 (zGoes mX8_isPlace 3 2)), (132, 1, zFV 8 1 (zGoes mX8_know 0 2))], [])
theorem kX8_hops : zchkL cX8_hops 0 iX8_hops = true := by decide +kernel
set_option maxRecDepth 20000 in
theorem gX8_hops : zGood mX8_hops cX8_hops yX8_hops.cls (zwd yX8_hops cX8_hops 2 (zret 1)) := ⟨fun pc x h => by
    have h1 := zchkL_at kX8_hops pc x h
    rw [Nat.zero_add] at h1
    exact h1, zlookF (fin := false) [(26, 8, 13, (.array .int))] (List.forall_mem_cons.mpr ⟨⟨(RX8, TX8, 24), rfl, by decide, List.mem_cons_of_mem _ zw728, fun w h => List.mem_cons_of_mem _ (zX8 w h), by decide +kernel, fun h => by cases h⟩, fun _ h => absurd h List.not_mem_nil⟩), zlookF (fin := true) [] (fun _ h => absurd h List.not_mem_nil), zlookup (β := Int32) (L := []) (P := fun ix b => Jvm.Cond.constant yX8_hops.cls ix b ∈ (zwd yX8_hops cX8_hops 2 (zret 1))) (fun _ h => absurd h List.not_mem_nil), zlookup (β := Int64) (L := []) (P := fun ix b => Jvm.Cond.constantLong yX8_hops.cls ix b ∈ (zwd yX8_hops cX8_hops 2 (zret 1))) (fun _ h => absurd h List.not_mem_nil), zlookup (β := Nat) (L := []) (P := fun ix b => zmok yX8_hops.cls (zwd yX8_hops cX8_hops 2 (zret 1)) ix b) (fun _ h => absurd h List.not_mem_nil)⟩
set_option maxRecDepth 20000 in
theorem sX8_hops (l : Launch) : ∀ (as : List Value) (ws : zW) (K : zP), zFr 2 (zGoes mX8_hops 1 2) as ws K → zMet l yX8_hops (zwd yX8_hops cX8_hops 2 (zret 1)) { frames := 3, cells := 0, slots := 0, locals := 600 } 1 as ws K := zFr_met (by decide +kernel) (by decide) (by decide) gX8_hops (fun p e s m args below meth c D cy ad A n0 Q S hKK hA => ⟨fun ix n G h => zlookup (β := Nat × zG) (L := [(110, 2, zFV 8 2 (zGoes mX8_isPlace 3 2)), (132, 1, zFV 8 1 (zGoes mX8_know 0 2))]) (P := fun ix b => zCO p l e { frames := 3, cells := 0, slots := 0, locals := 600 } s m args below meth c cX8_hops 2 D cy ad A n0 0 0 Q (.invokevirtual ix) b.1 b.2) (List.forall_mem_cons.mpr ⟨zco_V (ci := 8) S hKK hA ⟨Nat.zero_le _, Nat.zero_le _⟩ (cwV 1 S.2.2.2.2 (zgoodV zw836 zw838 zw37 zw57 zw839) rfl rfl rfl (by decide +kernel) (by decide +kernel)) rfl rfl (sX8_isPlace l), List.forall_mem_cons.mpr ⟨zco_V (ci := 8) S hKK hA ⟨Nat.zero_le _, Nat.zero_le _⟩ (cwV 0 S.2.2.2.2 (zgoodV zw851 zw853 zw38 zw57 zw854) rfl rfl rfl (by decide +kernel) (by decide +kernel)) rfl rfl (sX8_know l), fun _ h => absurd h List.not_mem_nil⟩⟩) ix (n, G) h, fun ix n G h => zlookup (β := Nat × zG) (L := []) (P := fun ix b => zCO p l e { frames := 3, cells := 0, slots := 0, locals := 600 } s m args below meth c cX8_hops 2 D cy ad A n0 0 0 Q (.invokestatic ix) b.1 b.2) (fun _ h => absurd h List.not_mem_nil) ix (n, G) h⟩) (by decide)
def iX8_swaps : List (Option zI) := [some (.aload_n 0, 0, 1, []), some (.iload_n 1, 0, 2, []), some (.invokevirtual 110, 0, 5, []), none, none, some (.ifCond .eq 16, 0, 8, [21]), none, none, some (.aload_n 0, 0, 9, []), some (.iload_n 2, 0, 10, []), some (.invokevirtual 110, 0, 13, []), none, none, some (.ifCond .eq 8, 0, 16, [21]), none, none, some (.iload_n 1, 0, 17, []), some (.iload_n 2, 0, 18, []), some (.if_icmp .ne 7, 0, 21, [25]), none, none, some (.sipush (-1001), (-1001), 24, []), none, none, some (.ireturn, 0, 25, []), some (.aload_n 0, 0, 26, []), some (.invokevirtual 132, 0, 29, []), none, none, some (.aload_n 0, 0, 30, []), some (.getfield 26, 0, 33, []), none, none, some (.iconst 0, 0, 34, []), some (.iload_n 1, 0, 35, []), some (.iadd, 0, 36, []), some (.iaload, 0, 37, []), some (.istore_n 3, 0, 38, []), some (.aload_n 0, 0, 39, []), some (.getfield 26, 0, 42, []), none, none, some (.iconst 0, 0, 43, []), some (.iload_n 1, 0, 44, []), some (.iadd, 0, 45, []), some (.aload_n 0, 0, 46, []), some (.getfield 26, 0, 49, []), none, none, some (.iconst 0, 0, 50, []), some (.iload_n 2, 0, 51, []), some (.iadd, 0, 52, []), some (.iaload, 0, 53, []), some (.iastore, 0, 54, []), some (.aload_n 0, 0, 55, []), some (.getfield 26, 0, 58, []), none, none, some (.iconst 0, 0, 59, []), some (.iload_n 2, 0, 60, []), some (.iadd, 0, 61, []), some (.iload_n 3, 0, 62, []), some (.iastore, 0, 63, []), some (.aload_n 0, 0, 64, []), some (.getfield 26, 0, 67, []), none, none, some (.iconst 0, 0, 68, []), some (.iload_n 1, 0, 69, []), some (.iadd, 0, 70, []), some (.iaload, 0, 71, []), some (.ireturn, 0, 72, [])]
def mX8_swaps : zM := (iX8_swaps, [(26, 8, 13, (.array .int))], [], [], [], [], [(110, 2, zFV 8 2 (zGoes mX8_isPlace 3 2)), (132, 1, zFV 8 1 (zGoes mX8_know 0 2))], [])
theorem kX8_swaps : zchkL cX8_swaps 0 iX8_swaps = true := by decide +kernel
set_option maxRecDepth 20000 in
theorem gX8_swaps : zGood mX8_swaps cX8_swaps yX8_swaps.cls (zwd yX8_swaps cX8_swaps 4 (zret 1)) := ⟨fun pc x h => by
    have h1 := zchkL_at kX8_swaps pc x h
    rw [Nat.zero_add] at h1
    exact h1, zlookF (fin := false) [(26, 8, 13, (.array .int))] (List.forall_mem_cons.mpr ⟨⟨(RX8, TX8, 24), rfl, by decide, List.mem_cons_of_mem _ zw728, fun w h => List.mem_cons_of_mem _ (zX8 w h), by decide +kernel, fun h => by cases h⟩, fun _ h => absurd h List.not_mem_nil⟩), zlookF (fin := true) [] (fun _ h => absurd h List.not_mem_nil), zlookup (β := Int32) (L := []) (P := fun ix b => Jvm.Cond.constant yX8_swaps.cls ix b ∈ (zwd yX8_swaps cX8_swaps 4 (zret 1))) (fun _ h => absurd h List.not_mem_nil), zlookup (β := Int64) (L := []) (P := fun ix b => Jvm.Cond.constantLong yX8_swaps.cls ix b ∈ (zwd yX8_swaps cX8_swaps 4 (zret 1))) (fun _ h => absurd h List.not_mem_nil), zlookup (β := Nat) (L := []) (P := fun ix b => zmok yX8_swaps.cls (zwd yX8_swaps cX8_swaps 4 (zret 1)) ix b) (fun _ h => absurd h List.not_mem_nil)⟩
set_option maxRecDepth 20000 in
theorem sX8_swaps (l : Launch) : ∀ (as : List Value) (ws : zW) (K : zP), zFr 3 (zGoes mX8_swaps 1 4) as ws K → zMet l yX8_swaps (zwd yX8_swaps cX8_swaps 4 (zret 1)) { frames := 3, cells := 0, slots := 0, locals := 600 } 1 as ws K := zFr_met (by decide +kernel) (by decide) (by decide) gX8_swaps (fun p e s m args below meth c D cy ad A n0 Q S hKK hA => ⟨fun ix n G h => zlookup (β := Nat × zG) (L := [(110, 2, zFV 8 2 (zGoes mX8_isPlace 3 2)), (132, 1, zFV 8 1 (zGoes mX8_know 0 2))]) (P := fun ix b => zCO p l e { frames := 3, cells := 0, slots := 0, locals := 600 } s m args below meth c cX8_swaps 4 D cy ad A n0 0 0 Q (.invokevirtual ix) b.1 b.2) (List.forall_mem_cons.mpr ⟨zco_V (ci := 8) S hKK hA ⟨Nat.zero_le _, Nat.zero_le _⟩ (cwV 1 S.2.2.2.2 (zgoodV zw836 zw838 zw37 zw57 zw839) rfl rfl rfl (by decide +kernel) (by decide +kernel)) rfl rfl (sX8_isPlace l), List.forall_mem_cons.mpr ⟨zco_V (ci := 8) S hKK hA ⟨Nat.zero_le _, Nat.zero_le _⟩ (cwV 0 S.2.2.2.2 (zgoodV zw851 zw853 zw38 zw57 zw854) rfl rfl rfl (by decide +kernel) (by decide +kernel)) rfl rfl (sX8_know l), fun _ h => absurd h List.not_mem_nil⟩⟩) ix (n, G) h, fun ix n G h => zlookup (β := Nat × zG) (L := []) (P := fun ix b => zCO p l e { frames := 3, cells := 0, slots := 0, locals := 600 } s m args below meth c cX8_swaps 4 D cy ad A n0 0 0 Q (.invokestatic ix) b.1 b.2) (fun _ h => absurd h List.not_mem_nil) ix (n, G) h⟩) (by decide)
def iX8_minds : List (Option zI) := [some (.iload_n 1, 0, 1, []), some (.iconst 0, 0, 2, []), some (.bipush 10, 10, 4, []), none, some (.invokestatic 54, 0, 7, []), none, none, some (.ifCond .eq 13, 0, 10, [20]), none, none, some (.iload_n 2, 0, 11, []), some (.iconst 0, 0, 12, []), some (.bipush 10, 10, 14, []), none, some (.invokestatic 54, 0, 17, []), none, none, some (.ifCond .ne 7, 0, 20, [24]), none, none, some (.sipush (-1001), (-1001), 23, []), none, none, some (.ireturn, 0, 24, []), some (.aload_n 0, 0, 25, []), some (.invokevirtual 132, 0, 28, []), none, none, some (.bipush 11, 11, 30, []), none, some (.aload_n 0, 0, 31, []), some (.getfield 26, 0, 34, []), none, none, some (.bipush 22, 22, 36, []), none, some (.iaload, 0, 37, []), some (.imul, 0, 38, []), some (.aload_n 0, 0, 39, []), some (.getfield 26, 0, 42, []), none, none, some (.bipush 23, 23, 44, []), none, some (.iaload, 0, 45, []), some (.iadd, 0, 46, []), some (.istore_n 3, 0, 47, []), some (.aload_n 0, 0, 48, []), some (.getfield 26, 0, 51, []), none, none, some (.bipush 22, 22, 53, []), none, some (.iload_n 1, 0, 54, []), some (.iastore, 0, 55, []), some (.aload_n 0, 0, 56, []), some (.getfield 26, 0, 59, []), none, none, some (.bipush 23, 23, 61, []), none, some (.iload_n 2, 0, 62, []), some (.iastore, 0, 63, []), some (.iload_n 3, 0, 64, []), some (.ireturn, 0, 65, [])]
def mX8_minds : zM := (iX8_minds, [(26, 8, 13, (.array .int))], [], [], [], [], [(132, 1, zFV 8 1 (zGoes mX8_know 0 2))], [(54, 3, zFr 3 (zGoes mX8_in 3 3))])
theorem kX8_minds : zchkL cX8_minds 0 iX8_minds = true := by decide +kernel
set_option maxRecDepth 20000 in
theorem gX8_minds : zGood mX8_minds cX8_minds yX8_minds.cls (zwd yX8_minds cX8_minds 4 (zret 1)) := ⟨fun pc x h => by
    have h1 := zchkL_at kX8_minds pc x h
    rw [Nat.zero_add] at h1
    exact h1, zlookF (fin := false) [(26, 8, 13, (.array .int))] (List.forall_mem_cons.mpr ⟨⟨(RX8, TX8, 24), rfl, by decide, List.mem_cons_of_mem _ zw728, fun w h => List.mem_cons_of_mem _ (zX8 w h), by decide +kernel, fun h => by cases h⟩, fun _ h => absurd h List.not_mem_nil⟩), zlookF (fin := true) [] (fun _ h => absurd h List.not_mem_nil), zlookup (β := Int32) (L := []) (P := fun ix b => Jvm.Cond.constant yX8_minds.cls ix b ∈ (zwd yX8_minds cX8_minds 4 (zret 1))) (fun _ h => absurd h List.not_mem_nil), zlookup (β := Int64) (L := []) (P := fun ix b => Jvm.Cond.constantLong yX8_minds.cls ix b ∈ (zwd yX8_minds cX8_minds 4 (zret 1))) (fun _ h => absurd h List.not_mem_nil), zlookup (β := Nat) (L := []) (P := fun ix b => zmok yX8_minds.cls (zwd yX8_minds cX8_minds 4 (zret 1)) ix b) (fun _ h => absurd h List.not_mem_nil)⟩
set_option maxRecDepth 20000 in
theorem sX8_minds (l : Launch) : ∀ (as : List Value) (ws : zW) (K : zP), zFr 3 (zGoes mX8_minds 1 4) as ws K → zMet l yX8_minds (zwd yX8_minds cX8_minds 4 (zret 1)) { frames := 2, cells := 0, slots := 0, locals := 400 } 1 as ws K := zFr_met (by decide +kernel) (by decide) (by decide) gX8_minds (fun p e s m args below meth c D cy ad A n0 Q S hKK hA => ⟨fun ix n G h => zlookup (β := Nat × zG) (L := [(132, 1, zFV 8 1 (zGoes mX8_know 0 2))]) (P := fun ix b => zCO p l e { frames := 2, cells := 0, slots := 0, locals := 400 } s m args below meth c cX8_minds 4 D cy ad A n0 0 0 Q (.invokevirtual ix) b.1 b.2) (List.forall_mem_cons.mpr ⟨zco_V (ci := 8) S hKK hA ⟨Nat.zero_le _, Nat.zero_le _⟩ (cwV 0 S.2.2.2.2 (zgoodV zw851 zw853 zw38 zw57 zw854) rfl rfl rfl (by decide +kernel) (by decide +kernel)) rfl rfl (sX8_know l), fun _ h => absurd h List.not_mem_nil⟩) ix (n, G) h, fun ix n G h => zlookup (β := Nat × zG) (L := [(54, 3, zFr 3 (zGoes mX8_in 3 3))]) (P := fun ix b => zCO p l e { frames := 2, cells := 0, slots := 0, locals := 400 } s m args below meth c cX8_minds 4 D cy ad A n0 0 0 Q (.invokestatic ix) b.1 b.2) (List.forall_mem_cons.mpr ⟨zco_S S hKK hA ⟨Nat.zero_le _, Nat.zero_le _⟩ (va_cwS 3 S.2.2.2.2 (zgoodS zw794 zw795 zw57 zw796) rfl rfl rfl (by decide +kernel) (by decide +kernel)) (sX8_in l), fun _ h => absurd h List.not_mem_nil⟩) ix (n, G) h⟩) (by decide)
def iX8_speeds : List (Option zI) := [some (.iload_n 1, 0, 1, []), some (.iconst 1, 1, 2, []), some (.bipush 60, 60, 4, []), none, some (.invokestatic 54, 0, 7, []), none, none, some (.ifCond .ne 7, 0, 10, [14]), none, none, some (.sipush (-1001), (-1001), 13, []), none, none, some (.ireturn, 0, 14, []), some (.aload_n 0, 0, 15, []), some (.invokevirtual 132, 0, 18, []), none, none, some (.aload_n 0, 0, 19, []), some (.getfield 26, 0, 22, []), none, none, some (.bipush 21, 21, 24, []), none, some (.iaload, 0, 25, []), some (.istore_n 2, 0, 26, []), some (.aload_n 0, 0, 27, []), some (.getfield 26, 0, 30, []), none, none, some (.bipush 21, 21, 32, []), none, some (.iload_n 1, 0, 33, []), some (.iastore, 0, 34, []), some (.iload_n 2, 0, 35, []), some (.ireturn, 0, 36, [])]
def mX8_speeds : zM := (iX8_speeds, [(26, 8, 13, (.array .int))], [], [], [], [], [(132, 1, zFV 8 1 (zGoes mX8_know 0 2))], [(54, 3, zFr 3 (zGoes mX8_in 3 3))])
theorem kX8_speeds : zchkL cX8_speeds 0 iX8_speeds = true := by decide +kernel
set_option maxRecDepth 20000 in
theorem gX8_speeds : zGood mX8_speeds cX8_speeds yX8_speeds.cls (zwd yX8_speeds cX8_speeds 3 (zret 1)) := ⟨fun pc x h => by
    have h1 := zchkL_at kX8_speeds pc x h
    rw [Nat.zero_add] at h1
    exact h1, zlookF (fin := false) [(26, 8, 13, (.array .int))] (List.forall_mem_cons.mpr ⟨⟨(RX8, TX8, 24), rfl, by decide, List.mem_cons_of_mem _ zw728, fun w h => List.mem_cons_of_mem _ (zX8 w h), by decide +kernel, fun h => by cases h⟩, fun _ h => absurd h List.not_mem_nil⟩), zlookF (fin := true) [] (fun _ h => absurd h List.not_mem_nil), zlookup (β := Int32) (L := []) (P := fun ix b => Jvm.Cond.constant yX8_speeds.cls ix b ∈ (zwd yX8_speeds cX8_speeds 3 (zret 1))) (fun _ h => absurd h List.not_mem_nil), zlookup (β := Int64) (L := []) (P := fun ix b => Jvm.Cond.constantLong yX8_speeds.cls ix b ∈ (zwd yX8_speeds cX8_speeds 3 (zret 1))) (fun _ h => absurd h List.not_mem_nil), zlookup (β := Nat) (L := []) (P := fun ix b => zmok yX8_speeds.cls (zwd yX8_speeds cX8_speeds 3 (zret 1)) ix b) (fun _ h => absurd h List.not_mem_nil)⟩
set_option maxRecDepth 20000 in
theorem sX8_speeds (l : Launch) : ∀ (as : List Value) (ws : zW) (K : zP), zFr 2 (zGoes mX8_speeds 1 3) as ws K → zMet l yX8_speeds (zwd yX8_speeds cX8_speeds 3 (zret 1)) { frames := 2, cells := 0, slots := 0, locals := 400 } 1 as ws K := zFr_met (by decide +kernel) (by decide) (by decide) gX8_speeds (fun p e s m args below meth c D cy ad A n0 Q S hKK hA => ⟨fun ix n G h => zlookup (β := Nat × zG) (L := [(132, 1, zFV 8 1 (zGoes mX8_know 0 2))]) (P := fun ix b => zCO p l e { frames := 2, cells := 0, slots := 0, locals := 400 } s m args below meth c cX8_speeds 3 D cy ad A n0 0 0 Q (.invokevirtual ix) b.1 b.2) (List.forall_mem_cons.mpr ⟨zco_V (ci := 8) S hKK hA ⟨Nat.zero_le _, Nat.zero_le _⟩ (cwV 0 S.2.2.2.2 (zgoodV zw851 zw853 zw38 zw57 zw854) rfl rfl rfl (by decide +kernel) (by decide +kernel)) rfl rfl (sX8_know l), fun _ h => absurd h List.not_mem_nil⟩) ix (n, G) h, fun ix n G h => zlookup (β := Nat × zG) (L := [(54, 3, zFr 3 (zGoes mX8_in 3 3))]) (P := fun ix b => zCO p l e { frames := 2, cells := 0, slots := 0, locals := 400 } s m args below meth c cX8_speeds 3 D cy ad A n0 0 0 Q (.invokestatic ix) b.1 b.2) (List.forall_mem_cons.mpr ⟨zco_S S hKK hA ⟨Nat.zero_le _, Nat.zero_le _⟩ (va_cwS 3 S.2.2.2.2 (zgoodS zw794 zw795 zw57 zw796) rfl rfl rfl (by decide +kernel) (by decide +kernel)) (sX8_in l), fun _ h => absurd h List.not_mem_nil⟩) ix (n, G) h⟩) (by decide)
def iX8_undo : List (Option zI) := [some (.aload_n 0, 0, 1, []), some (.getfield 26, 0, 4, []), none, none, some (.bipush 25, 25, 6, []), none, some (.iaload, 0, 7, []), some (.ifCond .ne 7, 0, 10, [14]), none, none, some (.sipush (-1002), (-1002), 13, []), none, none, some (.ireturn, 0, 14, []), some (.aload_n 0, 0, 15, []), some (.getfield 26, 0, 18, []), none, none, some (.bipush 25, 25, 20, []), none, some (.dup2, 0, 21, []), some (.iaload, 0, 22, []), some (.iconst 1, 1, 23, []), some (.isub, 0, 24, []), some (.iastore, 0, 25, []), some (.iconst 0, 0, 26, []), some (.istore_n 1, 0, 27, []), some (.iload_n 1, 0, 28, []), some (.bipush 25, 25, 30, []), none, some (.if_icmp .ge 35, 0, 33, [65]), none, none, some (.aload_n 0, 0, 34, []), some (.getfield 26, 0, 37, []), none, none, some (.iload_n 1, 0, 38, []), some (.aload_n 0, 0, 39, []), some (.getfield 26, 0, 42, []), none, none, some (.bipush 26, 26, 44, []), none, some (.bipush 25, 25, 46, []), none, some (.aload_n 0, 0, 47, []), some (.getfield 26, 0, 50, []), none, none, some (.bipush 25, 25, 52, []), none, some (.iaload, 0, 53, []), some (.imul, 0, 54, []), some (.iadd, 0, 55, []), some (.iload_n 1, 0, 56, []), some (.iadd, 0, 57, []), some (.iaload, 0, 58, []), some (.iastore, 0, 59, []), some (.iinc 1 1, 1, 62, []), none, none, some (.goto (-35), 0, 65, [27]), none, none, some (.aload_n 0, 0, 66, []), some (.getfield 26, 0, 69, []), none, none, some (.bipush 25, 25, 71, []), none, some (.iaload, 0, 72, []), some (.ireturn, 0, 73, [])]
def mX8_undo : zM := (iX8_undo, [(26, 8, 13, (.array .int))], [], [], [], [], [], [])
theorem kX8_undo : zchkL cX8_undo 0 iX8_undo = true := by decide +kernel
set_option maxRecDepth 20000 in
theorem gX8_undo : zGood mX8_undo cX8_undo yX8_undo.cls (zwd yX8_undo cX8_undo 2 (zret 1)) := ⟨fun pc x h => by
    have h1 := zchkL_at kX8_undo pc x h
    rw [Nat.zero_add] at h1
    exact h1, zlookF (fin := false) [(26, 8, 13, (.array .int))] (List.forall_mem_cons.mpr ⟨⟨(RX8, TX8, 24), rfl, by decide, List.mem_cons_of_mem _ zw728, fun w h => List.mem_cons_of_mem _ (zX8 w h), by decide +kernel, fun h => by cases h⟩, fun _ h => absurd h List.not_mem_nil⟩), zlookF (fin := true) [] (fun _ h => absurd h List.not_mem_nil), zlookup (β := Int32) (L := []) (P := fun ix b => Jvm.Cond.constant yX8_undo.cls ix b ∈ (zwd yX8_undo cX8_undo 2 (zret 1))) (fun _ h => absurd h List.not_mem_nil), zlookup (β := Int64) (L := []) (P := fun ix b => Jvm.Cond.constantLong yX8_undo.cls ix b ∈ (zwd yX8_undo cX8_undo 2 (zret 1))) (fun _ h => absurd h List.not_mem_nil), zlookup (β := Nat) (L := []) (P := fun ix b => zmok yX8_undo.cls (zwd yX8_undo cX8_undo 2 (zret 1)) ix b) (fun _ h => absurd h List.not_mem_nil)⟩
set_option maxRecDepth 20000 in
theorem sX8_undo (l : Launch) : ∀ (as : List Value) (ws : zW) (K : zP), zFr 1 (zGoes mX8_undo 1 2) as ws K → zMet l yX8_undo (zwd yX8_undo cX8_undo 2 (zret 1)) { frames := 1, cells := 0, slots := 0, locals := 200 } 1 as ws K := zFr_met (by decide +kernel) (by decide) (by decide) gX8_undo (fun p e s m args below meth c D cy ad A n0 Q S hKK hA => ⟨fun ix n G h => zlookup (β := Nat × zG) (L := []) (P := fun ix b => zCO p l e { frames := 1, cells := 0, slots := 0, locals := 200 } s m args below meth c cX8_undo 2 D cy ad A n0 0 0 Q (.invokevirtual ix) b.1 b.2) (fun _ h => absurd h List.not_mem_nil) ix (n, G) h, fun ix n G h => zlookup (β := Nat × zG) (L := []) (P := fun ix b => zCO p l e { frames := 1, cells := 0, slots := 0, locals := 200 } s m args below meth c cX8_undo 2 D cy ad A n0 0 0 Q (.invokestatic ix) b.1 b.2) (fun _ h => absurd h List.not_mem_nil) ix (n, G) h⟩) (by decide)
def iX8_now : List (Option zI) := [some (.iconst 0, 0, 1, []), some (.istore_n 2, 0, 2, []), some (.iconst 0, 0, 3, []), some (.istore_n 3, 0, 4, []), some (.iconst 0, 0, 5, []), some (.istore 4, 0, 7, []), none, some (.iload 4, 0, 9, []), none, some (.aload_n 0, 0, 10, []), some (.getfield 13, 0, 13, []), none, none, some (.iconst 0, 0, 14, []), some (.iaload, 0, 15, []), some (.if_icmp .ge 46, 0, 18, [61]), none, none, some (.iload_n 2, 0, 19, []), some (.aload_n 0, 0, 20, []), some (.getfield 26, 0, 23, []), none, none, some (.bipush 14, 14, 25, []), none, some (.iload 4, 0, 27, []), none, some (.iadd, 0, 28, []), some (.iaload, 0, 29, []), some (.iload 4, 0, 31, []), none, some (.ishl, 0, 32, []), some (.ior, 0, 33, []), some (.istore_n 2, 0, 34, []), some (.iload_n 3, 0, 35, []), some (.aload_n 0, 0, 36, []), some (.getfield 26, 0, 39, []), none, none, some (.bipush 7, 7, 41, []), none, some (.iload 4, 0, 43, []), none, some (.iadd, 0, 44, []), some (.iaload, 0, 45, []), some (.ifCond .ne 7, 0, 48, [52]), none, none, some (.iconst 1, 1, 49, []), some (.goto 4, 0, 52, [53]), none, none, some (.iconst 0, 0, 53, []), some (.iadd, 0, 54, []), some (.istore_n 3, 0, 55, []), some (.iinc 4 1, 1, 58, []), none, none, some (.goto (-51), 0, 61, [7]), none, none, some (.iload_n 1, 0, 62, []), some (.tableswitch 88 0 7 #[46, 54, 54, 54, 66, 75, 84, 86], 0, 108, [150, 108, 116, 116, 116, 128, 137, 146, 148]), none, none, none, none, none, none, none, none, none, none, none, none, none, none, none, none, none, none, none, none, none, none, none, none, none, none, none, none, none, none, none, none, none, none, none, none, none, none, none, none, none, none, none, none, none, some (.aload_n 0, 0, 109, []), some (.getfield 26, 0, 112, []), none, none, some (.bipush 24, 24, 114, []), none, some (.iaload, 0, 115, []), some (.ireturn, 0, 116, []), some (.aload_n 0, 0, 117, []), some (.getfield 26, 0, 120, []), none, none, some (.bipush 21, 21, 122, []), none, some (.iload_n 1, 0, 123, []), some (.iadd, 0, 124, []), some (.iconst 1, 1, 125, []), some (.isub, 0, 126, []), some (.iaload, 0, 127, []), some (.ireturn, 0, 128, []), some (.aload_n 0, 0, 129, []), some (.aload_n 0, 0, 130, []), some (.getfield 26, 0, 133, []), none, none, some (.invokevirtual 128, 0, 136, []), none, none, some (.ireturn, 0, 137, []), some (.aload_n 0, 0, 138, []), some (.aload_n 0, 0, 139, []), some (.getfield 26, 0, 142, []), none, none, some (.invokevirtual 139, 0, 145, []), none, none, some (.ireturn, 0, 146, []), some (.iload_n 2, 0, 147, []), some (.ireturn, 0, 148, []), some (.iload_n 3, 0, 149, []), some (.ireturn, 0, 150, []), some (.sipush (-1001), (-1001), 153, []), none, none, some (.ireturn, 0, 154, [])]
def mX8_now : zM := (iX8_now, [(13, 8, 3, (.array .int)), (26, 8, 13, (.array .int))], [], [], [], [], [(128, 2, zFV 8 2 (zGoes mX8_bulge 1 4)), (139, 2, zFV 8 2 (zGoes mX8_bulgeAt 1 3))], [])
theorem kX8_now : zchkL cX8_now 0 iX8_now = true := by decide +kernel
set_option maxRecDepth 20000 in
theorem gX8_now : zGood mX8_now cX8_now yX8_now.cls (zwd yX8_now cX8_now 5 (zret 1)) := ⟨fun pc x h => by
    have h1 := zchkL_at kX8_now pc x h
    rw [Nat.zero_add] at h1
    exact h1, zlookF (fin := false) [(13, 8, 3, (.array .int)), (26, 8, 13, (.array .int))] (List.forall_mem_cons.mpr ⟨⟨(RX8, TX8, 24), rfl, by decide, List.mem_cons_of_mem _ zw718, fun w h => List.mem_cons_of_mem _ (zX8 w h), by decide +kernel, fun h => by cases h⟩, List.forall_mem_cons.mpr ⟨⟨(RX8, TX8, 24), rfl, by decide, List.mem_cons_of_mem _ zw728, fun w h => List.mem_cons_of_mem _ (zX8 w h), by decide +kernel, fun h => by cases h⟩, fun _ h => absurd h List.not_mem_nil⟩⟩), zlookF (fin := true) [] (fun _ h => absurd h List.not_mem_nil), zlookup (β := Int32) (L := []) (P := fun ix b => Jvm.Cond.constant yX8_now.cls ix b ∈ (zwd yX8_now cX8_now 5 (zret 1))) (fun _ h => absurd h List.not_mem_nil), zlookup (β := Int64) (L := []) (P := fun ix b => Jvm.Cond.constantLong yX8_now.cls ix b ∈ (zwd yX8_now cX8_now 5 (zret 1))) (fun _ h => absurd h List.not_mem_nil), zlookup (β := Nat) (L := []) (P := fun ix b => zmok yX8_now.cls (zwd yX8_now cX8_now 5 (zret 1)) ix b) (fun _ h => absurd h List.not_mem_nil)⟩
set_option maxRecDepth 20000 in
theorem sX8_now (l : Launch) : ∀ (as : List Value) (ws : zW) (K : zP), zFr 2 (zGoes mX8_now 1 5) as ws K → zMet l yX8_now (zwd yX8_now cX8_now 5 (zret 1)) { frames := 4, cells := 0, slots := 0, locals := 800 } 1 as ws K := zFr_met (by decide +kernel) (by decide) (by decide) gX8_now (fun p e s m args below meth c D cy ad A n0 Q S hKK hA => ⟨fun ix n G h => zlookup (β := Nat × zG) (L := [(128, 2, zFV 8 2 (zGoes mX8_bulge 1 4)), (139, 2, zFV 8 2 (zGoes mX8_bulgeAt 1 3))]) (P := fun ix b => zCO p l e { frames := 4, cells := 0, slots := 0, locals := 800 } s m args below meth c cX8_now 5 D cy ad A n0 0 0 Q (.invokevirtual ix) b.1 b.2) (List.forall_mem_cons.mpr ⟨zco_V (ci := 8) S hKK hA ⟨Nat.zero_le _, Nat.zero_le _⟩ (cwV 1 S.2.2.2.2 (zgoodV zw866 zw868 zw41 zw57 zw869) rfl rfl rfl (by decide +kernel) (by decide +kernel)) rfl rfl (sX8_bulge l), List.forall_mem_cons.mpr ⟨zco_V (ci := 8) S hKK hA ⟨Nat.zero_le _, Nat.zero_le _⟩ (cwV 1 S.2.2.2.2 (zgoodV zw901 zw903 zw42 zw57 zw904) rfl rfl rfl (by decide +kernel) (by decide +kernel)) rfl rfl (sX8_bulgeAt l), fun _ h => absurd h List.not_mem_nil⟩⟩) ix (n, G) h, fun ix n G h => zlookup (β := Nat × zG) (L := []) (P := fun ix b => zCO p l e { frames := 4, cells := 0, slots := 0, locals := 800 } s m args below meth c cX8_now 5 D cy ad A n0 0 0 Q (.invokestatic ix) b.1 b.2) (fun _ h => absurd h List.not_mem_nil) ix (n, G) h⟩) (by decide)
def iX8_isDressed : List (Option zI) := [some (.iconst 1, 1, 1, []), some (.istore_n 1, 0, 2, []), some (.iconst 0, 0, 3, []), some (.istore_n 2, 0, 4, []), some (.iload_n 2, 0, 5, []), some (.aload_n 0, 0, 6, []), some (.getfield 13, 0, 9, []), none, none, some (.iconst 0, 0, 10, []), some (.iaload, 0, 11, []), some (.if_icmp .ge 31, 0, 14, [42]), none, none, some (.iload_n 1, 0, 15, []), some (.ifCond .eq 19, 0, 18, [34]), none, none, some (.aload_n 0, 0, 19, []), some (.getfield 33, 0, 22, []), none, none, some (.bipush 7, 7, 24, []), none, some (.iload_n 2, 0, 25, []), some (.iadd, 0, 26, []), some (.iaload, 0, 27, []), some (.ifCond .ne 7, 0, 30, [34]), none, none, some (.iconst 1, 1, 31, []), some (.goto 4, 0, 34, [35]), none, none, some (.iconst 0, 0, 35, []), some (.istore_n 1, 0, 36, []), some (.iinc 2 1, 1, 39, []), none, none, some (.goto (-35), 0, 42, [4]), none, none, some (.iload_n 1, 0, 43, []), some (.ireturn, 0, 44, [])]
def mX8_isDressed : zM := (iX8_isDressed, [(13, 8, 3, (.array .int)), (33, 8, 15, (.array .int))], [], [], [], [], [], [])
theorem kX8_isDressed : zchkL cX8_isDressed 0 iX8_isDressed = true := by decide +kernel
set_option maxRecDepth 20000 in
theorem gX8_isDressed : zGood mX8_isDressed cX8_isDressed yX8_isDressed.cls (zwd yX8_isDressed cX8_isDressed 3 (zret 3)) := ⟨fun pc x h => by
    have h1 := zchkL_at kX8_isDressed pc x h
    rw [Nat.zero_add] at h1
    exact h1, zlookF (fin := false) [(13, 8, 3, (.array .int)), (33, 8, 15, (.array .int))] (List.forall_mem_cons.mpr ⟨⟨(RX8, TX8, 24), rfl, by decide, List.mem_cons_of_mem _ zw718, fun w h => List.mem_cons_of_mem _ (zX8 w h), by decide +kernel, fun h => by cases h⟩, List.forall_mem_cons.mpr ⟨⟨(RX8, TX8, 24), rfl, by decide, List.mem_cons_of_mem _ zw730, fun w h => List.mem_cons_of_mem _ (zX8 w h), by decide +kernel, fun h => by cases h⟩, fun _ h => absurd h List.not_mem_nil⟩⟩), zlookF (fin := true) [] (fun _ h => absurd h List.not_mem_nil), zlookup (β := Int32) (L := []) (P := fun ix b => Jvm.Cond.constant yX8_isDressed.cls ix b ∈ (zwd yX8_isDressed cX8_isDressed 3 (zret 3))) (fun _ h => absurd h List.not_mem_nil), zlookup (β := Int64) (L := []) (P := fun ix b => Jvm.Cond.constantLong yX8_isDressed.cls ix b ∈ (zwd yX8_isDressed cX8_isDressed 3 (zret 3))) (fun _ h => absurd h List.not_mem_nil), zlookup (β := Nat) (L := []) (P := fun ix b => zmok yX8_isDressed.cls (zwd yX8_isDressed cX8_isDressed 3 (zret 3)) ix b) (fun _ h => absurd h List.not_mem_nil)⟩
set_option maxRecDepth 20000 in
theorem sX8_isDressed (l : Launch) : ∀ (as : List Value) (ws : zW) (K : zP), zFr 1 (zGoes mX8_isDressed 3 3) as ws K → zMet l yX8_isDressed (zwd yX8_isDressed cX8_isDressed 3 (zret 3)) { frames := 1, cells := 0, slots := 0, locals := 200 } 3 as ws K := zFr_met (by decide +kernel) (by decide) (by decide) gX8_isDressed (fun p e s m args below meth c D cy ad A n0 Q S hKK hA => ⟨fun ix n G h => zlookup (β := Nat × zG) (L := []) (P := fun ix b => zCO p l e { frames := 1, cells := 0, slots := 0, locals := 200 } s m args below meth c cX8_isDressed 3 D cy ad A n0 0 0 Q (.invokevirtual ix) b.1 b.2) (fun _ h => absurd h List.not_mem_nil) ix (n, G) h, fun ix n G h => zlookup (β := Nat × zG) (L := []) (P := fun ix b => zCO p l e { frames := 1, cells := 0, slots := 0, locals := 200 } s m args below meth c cX8_isDressed 3 D cy ad A n0 0 0 Q (.invokestatic ix) b.1 b.2) (fun _ h => absurd h List.not_mem_nil) ix (n, G) h⟩) (by decide)
def iX8_dressedBy : List (Option zI) := [some (.aload_n 0, 0, 1, []), some (.invokevirtual 142, 0, 4, []), none, none, some (.aload_n 0, 0, 5, []), some (.getfield 33, 0, 8, []), none, none, some (.bipush 22, 22, 10, []), none, some (.iload_n 1, 0, 11, []), some (.iastore, 0, 12, []), some (.aload_n 0, 0, 13, []), some (.getfield 33, 0, 16, []), none, none, some (.bipush 23, 23, 18, []), none, some (.iload_n 2, 0, 19, []), some (.iastore, 0, 20, []), some (.iconst 0, 0, 21, []), some (.istore_n 3, 0, 22, []), some (.iload_n 3, 0, 23, []), some (.sipush 300, 300, 26, []), none, none, some (.if_icmp .gt 29, 0, 29, [55]), none, none, some (.aload_n 0, 0, 30, []), some (.invokevirtual 145, 0, 33, []), none, none, some (.ifCond .eq 5, 0, 36, [38]), none, none, some (.iload_n 3, 0, 37, []), some (.ireturn, 0, 38, []), some (.aload_n 0, 0, 39, []), some (.aload_n 0, 0, 40, []), some (.getfield 33, 0, 43, []), none, none, some (.sipush (-1009), (-1009), 46, []), none, none, some (.invokevirtual 135, 0, 49, []), none, none, some (.iinc 3 1, 1, 52, []), none, none, some (.goto (-30), 0, 55, [22]), none, none, some (.sipush (-1009), (-1009), 58, []), none, none, some (.ireturn, 0, 59, [])]
def mX8_dressedBy : zM := (iX8_dressedBy, [(33, 8, 15, (.array .int))], [], [], [], [], [(135, 3, zFV 8 3 (zGoes mX8_pace 0 10)), (142, 1, zFV 8 1 (zGoes mX8_take 0 2)), (145, 1, zFV 8 1 (zGoes mX8_isDressed 3 3))], [])
theorem kX8_dressedBy : zchkL cX8_dressedBy 0 iX8_dressedBy = true := by decide +kernel
set_option maxRecDepth 20000 in
theorem gX8_dressedBy : zGood mX8_dressedBy cX8_dressedBy yX8_dressedBy.cls (zwd yX8_dressedBy cX8_dressedBy 4 (zret 1)) := ⟨fun pc x h => by
    have h1 := zchkL_at kX8_dressedBy pc x h
    rw [Nat.zero_add] at h1
    exact h1, zlookF (fin := false) [(33, 8, 15, (.array .int))] (List.forall_mem_cons.mpr ⟨⟨(RX8, TX8, 24), rfl, by decide, List.mem_cons_of_mem _ zw730, fun w h => List.mem_cons_of_mem _ (zX8 w h), by decide +kernel, fun h => by cases h⟩, fun _ h => absurd h List.not_mem_nil⟩), zlookF (fin := true) [] (fun _ h => absurd h List.not_mem_nil), zlookup (β := Int32) (L := []) (P := fun ix b => Jvm.Cond.constant yX8_dressedBy.cls ix b ∈ (zwd yX8_dressedBy cX8_dressedBy 4 (zret 1))) (fun _ h => absurd h List.not_mem_nil), zlookup (β := Int64) (L := []) (P := fun ix b => Jvm.Cond.constantLong yX8_dressedBy.cls ix b ∈ (zwd yX8_dressedBy cX8_dressedBy 4 (zret 1))) (fun _ h => absurd h List.not_mem_nil), zlookup (β := Nat) (L := []) (P := fun ix b => zmok yX8_dressedBy.cls (zwd yX8_dressedBy cX8_dressedBy 4 (zret 1)) ix b) (fun _ h => absurd h List.not_mem_nil)⟩
set_option maxRecDepth 20000 in
theorem sX8_dressedBy (l : Launch) : ∀ (as : List Value) (ws : zW) (K : zP), zFr 3 (zGoes mX8_dressedBy 1 4) as ws K → zMet l yX8_dressedBy (zwd yX8_dressedBy cX8_dressedBy 4 (zret 1)) { frames := 3, cells := 0, slots := 0, locals := 600 } 1 as ws K := zFr_met (by decide +kernel) (by decide) (by decide) gX8_dressedBy (fun p e s m args below meth c D cy ad A n0 Q S hKK hA => ⟨fun ix n G h => zlookup (β := Nat × zG) (L := [(135, 3, zFV 8 3 (zGoes mX8_pace 0 10)), (142, 1, zFV 8 1 (zGoes mX8_take 0 2)), (145, 1, zFV 8 1 (zGoes mX8_isDressed 3 3))]) (P := fun ix b => zCO p l e { frames := 3, cells := 0, slots := 0, locals := 600 } s m args below meth c cX8_dressedBy 4 D cy ad A n0 0 0 Q (.invokevirtual ix) b.1 b.2) (List.forall_mem_cons.mpr ⟨zco_V (ci := 8) S hKK hA ⟨Nat.zero_le _, Nat.zero_le _⟩ (cwV 2 S.2.2.2.2 (zgoodV zw855 zw857 zw39 zw57 zw858) rfl rfl rfl (by decide +kernel) (by decide +kernel)) rfl rfl (sX8_pace l), List.forall_mem_cons.mpr ⟨zco_V (ci := 8) S hKK hA ⟨Nat.zero_le _, Nat.zero_le _⟩ (cwV 0 S.2.2.2.2 (zgoodV zw913 zw915 zw44 zw57 zw916) rfl rfl rfl (by decide +kernel) (by decide +kernel)) rfl rfl (sX8_take l), List.forall_mem_cons.mpr ⟨zco_V (ci := 8) S hKK hA ⟨Nat.zero_le _, Nat.zero_le _⟩ (cwV 0 S.2.2.2.2 (zgoodV zw917 zw919 zw45 zw57 zw920) rfl rfl rfl (by decide +kernel) (by decide +kernel)) rfl rfl (sX8_isDressed l), fun _ h => absurd h List.not_mem_nil⟩⟩⟩) ix (n, G) h, fun ix n G h => zlookup (β := Nat × zG) (L := []) (P := fun ix b => zCO p l e { frames := 3, cells := 0, slots := 0, locals := 600 } s m args below meth c cX8_dressedBy 4 D cy ad A n0 0 0 Q (.invokestatic ix) b.1 b.2) (fun _ h => absurd h List.not_mem_nil) ix (n, G) h⟩) (by decide)
def iX8_dressed : List (Option zI) := [some (.aload_n 0, 0, 1, []), some (.aload_n 0, 0, 2, []), some (.getfield 26, 0, 5, []), none, none, some (.bipush 22, 22, 7, []), none, some (.iaload, 0, 8, []), some (.aload_n 0, 0, 9, []), some (.getfield 26, 0, 12, []), none, none, some (.bipush 23, 23, 14, []), none, some (.iaload, 0, 15, []), some (.invokevirtual 149, 0, 18, []), none, none, some (.ireturn, 0, 19, [])]
def mX8_dressed : zM := (iX8_dressed, [(26, 8, 13, (.array .int))], [], [], [], [], [(149, 3, zFV 8 3 (zGoes mX8_dressedBy 1 4))], [])
theorem kX8_dressed : zchkL cX8_dressed 0 iX8_dressed = true := by decide +kernel
set_option maxRecDepth 20000 in
theorem gX8_dressed : zGood mX8_dressed cX8_dressed yX8_dressed.cls (zwd yX8_dressed cX8_dressed 1 (zret 1)) := ⟨fun pc x h => by
    have h1 := zchkL_at kX8_dressed pc x h
    rw [Nat.zero_add] at h1
    exact h1, zlookF (fin := false) [(26, 8, 13, (.array .int))] (List.forall_mem_cons.mpr ⟨⟨(RX8, TX8, 24), rfl, by decide, List.mem_cons_of_mem _ zw728, fun w h => List.mem_cons_of_mem _ (zX8 w h), by decide +kernel, fun h => by cases h⟩, fun _ h => absurd h List.not_mem_nil⟩), zlookF (fin := true) [] (fun _ h => absurd h List.not_mem_nil), zlookup (β := Int32) (L := []) (P := fun ix b => Jvm.Cond.constant yX8_dressed.cls ix b ∈ (zwd yX8_dressed cX8_dressed 1 (zret 1))) (fun _ h => absurd h List.not_mem_nil), zlookup (β := Int64) (L := []) (P := fun ix b => Jvm.Cond.constantLong yX8_dressed.cls ix b ∈ (zwd yX8_dressed cX8_dressed 1 (zret 1))) (fun _ h => absurd h List.not_mem_nil), zlookup (β := Nat) (L := []) (P := fun ix b => zmok yX8_dressed.cls (zwd yX8_dressed cX8_dressed 1 (zret 1)) ix b) (fun _ h => absurd h List.not_mem_nil)⟩
set_option maxRecDepth 20000 in
theorem sX8_dressed (l : Launch) : ∀ (as : List Value) (ws : zW) (K : zP), zFr 1 (zGoes mX8_dressed 1 1) as ws K → zMet l yX8_dressed (zwd yX8_dressed cX8_dressed 1 (zret 1)) { frames := 4, cells := 0, slots := 0, locals := 800 } 1 as ws K := zFr_met (by decide +kernel) (by decide) (by decide) gX8_dressed (fun p e s m args below meth c D cy ad A n0 Q S hKK hA => ⟨fun ix n G h => zlookup (β := Nat × zG) (L := [(149, 3, zFV 8 3 (zGoes mX8_dressedBy 1 4))]) (P := fun ix b => zCO p l e { frames := 4, cells := 0, slots := 0, locals := 800 } s m args below meth c cX8_dressed 1 D cy ad A n0 0 0 Q (.invokevirtual ix) b.1 b.2) (List.forall_mem_cons.mpr ⟨zco_V (ci := 8) S hKK hA ⟨Nat.zero_le _, Nat.zero_le _⟩ (cwV 2 S.2.2.2.2 (zgoodV zw909 zw911 zw43 zw57 zw912) rfl rfl rfl (by decide +kernel) (by decide +kernel)) rfl rfl (sX8_dressedBy l), fun _ h => absurd h List.not_mem_nil⟩) ix (n, G) h, fun ix n G h => zlookup (β := Nat × zG) (L := []) (P := fun ix b => zCO p l e { frames := 4, cells := 0, slots := 0, locals := 800 } s m args below meth c cX8_dressed 1 D cy ad A n0 0 0 Q (.invokestatic ix) b.1 b.2) (fun _ h => absurd h List.not_mem_nil) ix (n, G) h⟩) (by decide)
def iX8_looks : List (Option zI) := [some (.iload_n 1, 0, 1, []), some (.iconst 0, 0, 2, []), some (.bipush 60, 60, 4, []), none, some (.invokestatic 54, 0, 7, []), none, none, some (.ifCond .eq 16, 0, 10, [23]), none, none, some (.iload_n 2, 0, 11, []), some (.iconst (-1), (-1), 12, []), some (.if_icmp .eq 15, 0, 15, [27]), none, none, some (.aload_n 0, 0, 16, []), some (.iload_n 2, 0, 17, []), some (.invokevirtual 110, 0, 20, []), none, none, some (.ifCond .ne 7, 0, 23, [27]), none, none, some (.sipush (-1001), (-1001), 26, []), none, none, some (.ireturn, 0, 27, []), some (.aload_n 0, 0, 28, []), some (.invokevirtual 142, 0, 31, []), none, none, some (.iconst 0, 0, 32, []), some (.istore_n 3, 0, 33, []), some (.iload_n 3, 0, 34, []), some (.iload_n 1, 0, 35, []), some (.if_icmp .ge 20, 0, 38, [55]), none, none, some (.aload_n 0, 0, 39, []), some (.aload_n 0, 0, 40, []), some (.getfield 33, 0, 43, []), none, none, some (.sipush (-1009), (-1009), 46, []), none, none, some (.invokevirtual 135, 0, 49, []), none, none, some (.iinc 3 1, 1, 52, []), none, none, some (.goto (-19), 0, 55, [33]), none, none, some (.iload_n 2, 0, 56, []), some (.iconst (-1), (-1), 57, []), some (.if_icmp .ne 14, 0, 60, [71]), none, none, some (.aload_n 0, 0, 61, []), some (.aload_n 0, 0, 62, []), some (.getfield 33, 0, 65, []), none, none, some (.invokevirtual 128, 0, 68, []), none, none, some (.goto 12, 0, 71, [80]), none, none, some (.aload_n 0, 0, 72, []), some (.getfield 33, 0, 75, []), none, none, some (.bipush 7, 7, 77, []), none, some (.iload_n 2, 0, 78, []), some (.iadd, 0, 79, []), some (.iaload, 0, 80, []), some (.ireturn, 0, 81, [])]
def mX8_looks : zM := (iX8_looks, [(33, 8, 15, (.array .int))], [], [], [], [], [(110, 2, zFV 8 2 (zGoes mX8_isPlace 3 2)), (128, 2, zFV 8 2 (zGoes mX8_bulge 1 4)), (135, 3, zFV 8 3 (zGoes mX8_pace 0 10)), (142, 1, zFV 8 1 (zGoes mX8_take 0 2))], [(54, 3, zFr 3 (zGoes mX8_in 3 3))])
theorem kX8_looks : zchkL cX8_looks 0 iX8_looks = true := by decide +kernel
set_option maxRecDepth 20000 in
theorem gX8_looks : zGood mX8_looks cX8_looks yX8_looks.cls (zwd yX8_looks cX8_looks 4 (zret 1)) := ⟨fun pc x h => by
    have h1 := zchkL_at kX8_looks pc x h
    rw [Nat.zero_add] at h1
    exact h1, zlookF (fin := false) [(33, 8, 15, (.array .int))] (List.forall_mem_cons.mpr ⟨⟨(RX8, TX8, 24), rfl, by decide, List.mem_cons_of_mem _ zw730, fun w h => List.mem_cons_of_mem _ (zX8 w h), by decide +kernel, fun h => by cases h⟩, fun _ h => absurd h List.not_mem_nil⟩), zlookF (fin := true) [] (fun _ h => absurd h List.not_mem_nil), zlookup (β := Int32) (L := []) (P := fun ix b => Jvm.Cond.constant yX8_looks.cls ix b ∈ (zwd yX8_looks cX8_looks 4 (zret 1))) (fun _ h => absurd h List.not_mem_nil), zlookup (β := Int64) (L := []) (P := fun ix b => Jvm.Cond.constantLong yX8_looks.cls ix b ∈ (zwd yX8_looks cX8_looks 4 (zret 1))) (fun _ h => absurd h List.not_mem_nil), zlookup (β := Nat) (L := []) (P := fun ix b => zmok yX8_looks.cls (zwd yX8_looks cX8_looks 4 (zret 1)) ix b) (fun _ h => absurd h List.not_mem_nil)⟩
set_option maxRecDepth 20000 in
theorem sX8_looks (l : Launch) : ∀ (as : List Value) (ws : zW) (K : zP), zFr 3 (zGoes mX8_looks 1 4) as ws K → zMet l yX8_looks (zwd yX8_looks cX8_looks 4 (zret 1)) { frames := 3, cells := 0, slots := 0, locals := 600 } 1 as ws K := zFr_met (by decide +kernel) (by decide) (by decide) gX8_looks (fun p e s m args below meth c D cy ad A n0 Q S hKK hA => ⟨fun ix n G h => zlookup (β := Nat × zG) (L := [(110, 2, zFV 8 2 (zGoes mX8_isPlace 3 2)), (128, 2, zFV 8 2 (zGoes mX8_bulge 1 4)), (135, 3, zFV 8 3 (zGoes mX8_pace 0 10)), (142, 1, zFV 8 1 (zGoes mX8_take 0 2))]) (P := fun ix b => zCO p l e { frames := 3, cells := 0, slots := 0, locals := 600 } s m args below meth c cX8_looks 4 D cy ad A n0 0 0 Q (.invokevirtual ix) b.1 b.2) (List.forall_mem_cons.mpr ⟨zco_V (ci := 8) S hKK hA ⟨Nat.zero_le _, Nat.zero_le _⟩ (cwV 1 S.2.2.2.2 (zgoodV zw836 zw838 zw37 zw57 zw839) rfl rfl rfl (by decide +kernel) (by decide +kernel)) rfl rfl (sX8_isPlace l), List.forall_mem_cons.mpr ⟨zco_V (ci := 8) S hKK hA ⟨Nat.zero_le _, Nat.zero_le _⟩ (cwV 1 S.2.2.2.2 (zgoodV zw866 zw868 zw41 zw57 zw869) rfl rfl rfl (by decide +kernel) (by decide +kernel)) rfl rfl (sX8_bulge l), List.forall_mem_cons.mpr ⟨zco_V (ci := 8) S hKK hA ⟨Nat.zero_le _, Nat.zero_le _⟩ (cwV 2 S.2.2.2.2 (zgoodV zw855 zw857 zw39 zw57 zw858) rfl rfl rfl (by decide +kernel) (by decide +kernel)) rfl rfl (sX8_pace l), List.forall_mem_cons.mpr ⟨zco_V (ci := 8) S hKK hA ⟨Nat.zero_le _, Nat.zero_le _⟩ (cwV 0 S.2.2.2.2 (zgoodV zw913 zw915 zw44 zw57 zw916) rfl rfl rfl (by decide +kernel) (by decide +kernel)) rfl rfl (sX8_take l), fun _ h => absurd h List.not_mem_nil⟩⟩⟩⟩) ix (n, G) h, fun ix n G h => zlookup (β := Nat × zG) (L := [(54, 3, zFr 3 (zGoes mX8_in 3 3))]) (P := fun ix b => zCO p l e { frames := 3, cells := 0, slots := 0, locals := 600 } s m args below meth c cX8_looks 4 D cy ad A n0 0 0 Q (.invokestatic ix) b.1 b.2) (List.forall_mem_cons.mpr ⟨zco_S S hKK hA ⟨Nat.zero_le _, Nat.zero_le _⟩ (va_cwS 3 S.2.2.2.2 (zgoodS zw794 zw795 zw57 zw796) rfl rfl rfl (by decide +kernel) (by decide +kernel)) (sX8_in l), fun _ h => absurd h List.not_mem_nil⟩) ix (n, G) h⟩) (by decide)
def iX8_mix : List (Option zI) := [some (.iload_n 1, 0, 1, []), some (.iconst 0, 0, 2, []), some (.iconst 1, 1, 3, []), some (.invokestatic 54, 0, 6, []), none, none, some (.ifCond .ne 7, 0, 9, [13]), none, none, some (.sipush (-1001), (-1001), 12, []), none, none, some (.ireturn, 0, 13, []), some (.sipush (-1009), (-1009), 16, []), none, none, some (.istore_n 2, 0, 17, []), some (.sipush (-1009), (-1009), 20, []), none, none, some (.istore_n 3, 0, 21, []), some (.iconst 0, 0, 22, []), some (.istore 4, 0, 24, []), none, some (.iload 4, 0, 26, []), none, some (.bipush 121, 121, 28, []), none, some (.if_icmp .ge 52, 0, 31, [80]), none, none, some (.aload_n 0, 0, 32, []), some (.iload 4, 0, 34, []), none, some (.bipush 11, 11, 36, []), none, some (.idiv, 0, 37, []), some (.iload 4, 0, 39, []), none, some (.bipush 11, 11, 41, []), none, some (.irem, 0, 42, []), some (.invokevirtual 149, 0, 45, []), none, none, some (.istore 5, 0, 47, []), none, some (.iload 5, 0, 49, []), none, some (.sipush (-1009), (-1009), 52, []), none, none, some (.if_icmp .eq 22, 0, 55, [74]), none, none, some (.iload_n 2, 0, 56, []), some (.sipush (-1009), (-1009), 59, []), none, none, some (.if_icmp .eq 9, 0, 62, [68]), none, none, some (.iload 5, 0, 64, []), none, some (.iload_n 3, 0, 65, []), some (.if_icmp .ge 9, 0, 68, [74]), none, none, some (.iload 4, 0, 70, []), none, some (.istore_n 2, 0, 71, []), some (.iload 5, 0, 73, []), none, some (.istore_n 3, 0, 74, []), some (.iinc 4 1, 1, 77, []), none, none, some (.goto (-53), 0, 80, [24]), none, none, some (.iload_n 1, 0, 81, []), some (.ifCond .ne 7, 0, 84, [88]), none, none, some (.iload_n 2, 0, 85, []), some (.goto 4, 0, 88, [89]), none, none, some (.iload_n 3, 0, 89, []), some (.ireturn, 0, 90, [])]
def mX8_mix : zM := (iX8_mix, [], [], [], [], [], [(149, 3, zFV 8 3 (zGoes mX8_dressedBy 1 4))], [(54, 3, zFr 3 (zGoes mX8_in 3 3))])
theorem kX8_mix : zchkL cX8_mix 0 iX8_mix = true := by decide +kernel
set_option maxRecDepth 20000 in
theorem gX8_mix : zGood mX8_mix cX8_mix yX8_mix.cls (zwd yX8_mix cX8_mix 6 (zret 1)) := ⟨fun pc x h => by
    have h1 := zchkL_at kX8_mix pc x h
    rw [Nat.zero_add] at h1
    exact h1, zlookF (fin := false) [] (fun _ h => absurd h List.not_mem_nil), zlookF (fin := true) [] (fun _ h => absurd h List.not_mem_nil), zlookup (β := Int32) (L := []) (P := fun ix b => Jvm.Cond.constant yX8_mix.cls ix b ∈ (zwd yX8_mix cX8_mix 6 (zret 1))) (fun _ h => absurd h List.not_mem_nil), zlookup (β := Int64) (L := []) (P := fun ix b => Jvm.Cond.constantLong yX8_mix.cls ix b ∈ (zwd yX8_mix cX8_mix 6 (zret 1))) (fun _ h => absurd h List.not_mem_nil), zlookup (β := Nat) (L := []) (P := fun ix b => zmok yX8_mix.cls (zwd yX8_mix cX8_mix 6 (zret 1)) ix b) (fun _ h => absurd h List.not_mem_nil)⟩
set_option maxRecDepth 20000 in
theorem sX8_mix (l : Launch) : ∀ (as : List Value) (ws : zW) (K : zP), zFr 2 (zGoes mX8_mix 1 6) as ws K → zMet l yX8_mix (zwd yX8_mix cX8_mix 6 (zret 1)) { frames := 4, cells := 0, slots := 0, locals := 800 } 1 as ws K := zFr_met (by decide +kernel) (by decide) (by decide) gX8_mix (fun p e s m args below meth c D cy ad A n0 Q S hKK hA => ⟨fun ix n G h => zlookup (β := Nat × zG) (L := [(149, 3, zFV 8 3 (zGoes mX8_dressedBy 1 4))]) (P := fun ix b => zCO p l e { frames := 4, cells := 0, slots := 0, locals := 800 } s m args below meth c cX8_mix 6 D cy ad A n0 0 0 Q (.invokevirtual ix) b.1 b.2) (List.forall_mem_cons.mpr ⟨zco_V (ci := 8) S hKK hA ⟨Nat.zero_le _, Nat.zero_le _⟩ (cwV 2 S.2.2.2.2 (zgoodV zw909 zw911 zw43 zw57 zw912) rfl rfl rfl (by decide +kernel) (by decide +kernel)) rfl rfl (sX8_dressedBy l), fun _ h => absurd h List.not_mem_nil⟩) ix (n, G) h, fun ix n G h => zlookup (β := Nat × zG) (L := [(54, 3, zFr 3 (zGoes mX8_in 3 3))]) (P := fun ix b => zCO p l e { frames := 4, cells := 0, slots := 0, locals := 800 } s m args below meth c cX8_mix 6 D cy ad A n0 0 0 Q (.invokestatic ix) b.1 b.2) (List.forall_mem_cons.mpr ⟨zco_S S hKK hA ⟨Nat.zero_le _, Nat.zero_le _⟩ (va_cwS 3 S.2.2.2.2 (zgoodS zw794 zw795 zw57 zw796) rfl rfl rfl (by decide +kernel) (by decide +kernel)) (sX8_in l), fun _ h => absurd h List.not_mem_nil⟩) ix (n, G) h⟩) (by decide)
def iX8_fastest : List (Option zI) := [some (.aload_n 0, 0, 1, []), some (.invokevirtual 142, 0, 4, []), none, none, some (.bipush 60, 60, 6, []), none, some (.istore_n 1, 0, 7, []), some (.iload_n 1, 0, 8, []), some (.iconst 1, 1, 9, []), some (.if_icmp .le 83, 0, 12, [92]), none, none, some (.aload_n 0, 0, 13, []), some (.getfield 33, 0, 16, []), none, none, some (.bipush 21, 21, 18, []), none, some (.iload_n 1, 0, 19, []), some (.iastore, 0, 20, []), some (.iconst 1, 1, 21, []), some (.istore_n 2, 0, 22, []), some (.iconst 0, 0, 23, []), some (.istore_n 3, 0, 24, []), some (.iload_n 3, 0, 25, []), some (.aload_n 0, 0, 26, []), some (.getfield 13, 0, 29, []), none, none, some (.iconst 0, 0, 30, []), some (.iaload, 0, 31, []), some (.if_icmp .ge 49, 0, 34, [80]), none, none, some (.iload_n 2, 0, 35, []), some (.ifCond .eq 37, 0, 38, [72]), none, none, some (.aload_n 0, 0, 39, []), some (.getfield 33, 0, 42, []), none, none, some (.iload_n 3, 0, 43, []), some (.aload_n 0, 0, 44, []), some (.getfield 13, 0, 47, []), none, none, some (.iconst 0, 0, 48, []), some (.iaload, 0, 49, []), some (.invokestatic 113, 0, 52, []), none, none, some (.aload_n 0, 0, 53, []), some (.getfield 17, 0, 56, []), none, none, some (.aload_n 0, 0, 57, []), some (.getfield 26, 0, 60, []), none, none, some (.iconst 0, 0, 61, []), some (.iload_n 3, 0, 62, []), some (.iadd, 0, 63, []), some (.iaload, 0, 64, []), some (.iaload, 0, 65, []), some (.if_icmp .gt 7, 0, 68, [72]), none, none, some (.iconst 1, 1, 69, []), some (.goto 4, 0, 72, [73]), none, none, some (.iconst 0, 0, 73, []), some (.istore_n 2, 0, 74, []), some (.iinc 3 1, 1, 77, []), none, none, some (.goto (-53), 0, 80, [24]), none, none, some (.iload_n 2, 0, 81, []), some (.ifCond .eq 5, 0, 84, [86]), none, none, some (.iload_n 1, 0, 85, []), some (.ireturn, 0, 86, []), some (.iinc 1 (-1), (-1), 89, []), none, none, some (.goto (-82), 0, 92, [7]), none, none, some (.iconst 1, 1, 93, []), some (.ireturn, 0, 94, [])]
def mX8_fastest : zM := (iX8_fastest, [(13, 8, 3, (.array .int)), (17, 8, 4, (.array .int)), (26, 8, 13, (.array .int)), (33, 8, 15, (.array .int))], [], [], [], [], [(142, 1, zFV 8 1 (zGoes mX8_take 0 2))], [(113, 3, zFr 3 (zGoes mX8_wants 1 3))])
theorem kX8_fastest : zchkL cX8_fastest 0 iX8_fastest = true := by decide +kernel
set_option maxRecDepth 20000 in
theorem gX8_fastest : zGood mX8_fastest cX8_fastest yX8_fastest.cls (zwd yX8_fastest cX8_fastest 4 (zret 1)) := ⟨fun pc x h => by
    have h1 := zchkL_at kX8_fastest pc x h
    rw [Nat.zero_add] at h1
    exact h1, zlookF (fin := false) [(13, 8, 3, (.array .int)), (17, 8, 4, (.array .int)), (26, 8, 13, (.array .int)), (33, 8, 15, (.array .int))] (List.forall_mem_cons.mpr ⟨⟨(RX8, TX8, 24), rfl, by decide, List.mem_cons_of_mem _ zw718, fun w h => List.mem_cons_of_mem _ (zX8 w h), by decide +kernel, fun h => by cases h⟩, List.forall_mem_cons.mpr ⟨⟨(RX8, TX8, 24), rfl, by decide, List.mem_cons_of_mem _ zw719, fun w h => List.mem_cons_of_mem _ (zX8 w h), by decide +kernel, fun h => by cases h⟩, List.forall_mem_cons.mpr ⟨⟨(RX8, TX8, 24), rfl, by decide, List.mem_cons_of_mem _ zw728, fun w h => List.mem_cons_of_mem _ (zX8 w h), by decide +kernel, fun h => by cases h⟩, List.forall_mem_cons.mpr ⟨⟨(RX8, TX8, 24), rfl, by decide, List.mem_cons_of_mem _ zw730, fun w h => List.mem_cons_of_mem _ (zX8 w h), by decide +kernel, fun h => by cases h⟩, fun _ h => absurd h List.not_mem_nil⟩⟩⟩⟩), zlookF (fin := true) [] (fun _ h => absurd h List.not_mem_nil), zlookup (β := Int32) (L := []) (P := fun ix b => Jvm.Cond.constant yX8_fastest.cls ix b ∈ (zwd yX8_fastest cX8_fastest 4 (zret 1))) (fun _ h => absurd h List.not_mem_nil), zlookup (β := Int64) (L := []) (P := fun ix b => Jvm.Cond.constantLong yX8_fastest.cls ix b ∈ (zwd yX8_fastest cX8_fastest 4 (zret 1))) (fun _ h => absurd h List.not_mem_nil), zlookup (β := Nat) (L := []) (P := fun ix b => zmok yX8_fastest.cls (zwd yX8_fastest cX8_fastest 4 (zret 1)) ix b) (fun _ h => absurd h List.not_mem_nil)⟩
set_option maxRecDepth 20000 in
theorem sX8_fastest (l : Launch) : ∀ (as : List Value) (ws : zW) (K : zP), zFr 1 (zGoes mX8_fastest 1 4) as ws K → zMet l yX8_fastest (zwd yX8_fastest cX8_fastest 4 (zret 1)) { frames := 2, cells := 0, slots := 0, locals := 400 } 1 as ws K := zFr_met (by decide +kernel) (by decide) (by decide) gX8_fastest (fun p e s m args below meth c D cy ad A n0 Q S hKK hA => ⟨fun ix n G h => zlookup (β := Nat × zG) (L := [(142, 1, zFV 8 1 (zGoes mX8_take 0 2))]) (P := fun ix b => zCO p l e { frames := 2, cells := 0, slots := 0, locals := 400 } s m args below meth c cX8_fastest 4 D cy ad A n0 0 0 Q (.invokevirtual ix) b.1 b.2) (List.forall_mem_cons.mpr ⟨zco_V (ci := 8) S hKK hA ⟨Nat.zero_le _, Nat.zero_le _⟩ (cwV 0 S.2.2.2.2 (zgoodV zw913 zw915 zw44 zw57 zw916) rfl rfl rfl (by decide +kernel) (by decide +kernel)) rfl rfl (sX8_take l), fun _ h => absurd h List.not_mem_nil⟩) ix (n, G) h, fun ix n G h => zlookup (β := Nat × zG) (L := [(113, 3, zFr 3 (zGoes mX8_wants 1 3))]) (P := fun ix b => zCO p l e { frames := 2, cells := 0, slots := 0, locals := 400 } s m args below meth c cX8_fastest 4 D cy ad A n0 0 0 Q (.invokestatic ix) b.1 b.2) (List.forall_mem_cons.mpr ⟨zco_S S hKK hA ⟨Nat.zero_le _, Nat.zero_le _⟩ (va_cwS 3 S.2.2.2.2 (zgoodS zw844 zw845 zw57 zw846) rfl rfl rfl (by decide +kernel) (by decide +kernel)) (sX8_wants l), fun _ h => absurd h List.not_mem_nil⟩) ix (n, G) h⟩) (by decide)
end
section
def iX8_look : List (Option zI) := [some (.aload_n 0, 0, 1, []), some (.getfield 13, 0, 4, []), none, none, some (.iconst 0, 0, 5, []), some (.iaload, 0, 6, []), some (.istore_n 2, 0, 7, []), some (.iconst 0, 0, 8, []), some (.istore_n 3, 0, 9, []), some (.iconst 0, 0, 10, []), some (.istore 4, 0, 12, []), none, some (.iconst 0, 0, 13, []), some (.istore 5, 0, 15, []), none, some (.iload_n 1, 0, 16, []), some (.istore 6, 0, 18, []), none, some (.sipush (-1009), (-1009), 21, []), none, none, some (.istore 7, 0, 23, []), none, some (.iload_n 2, 0, 24, []), some (.iconst 1, 1, 25, []), some (.isub, 0, 26, []), some (.istore 8, 0, 28, []), none, some (.iload 8, 0, 30, []), none, some (.ifCond .lt 134, 0, 33, [164]), none, none, some (.iload 6, 0, 35, []), none, some (.bipush 7, 7, 37, []), none, some (.irem, 0, 38, []), some (.istore 9, 0, 40, []), none, some (.iload 6, 0, 42, []), none, some (.bipush 7, 7, 44, []), none, some (.idiv, 0, 45, []), some (.istore 6, 0, 47, []), none, some (.iload 9, 0, 49, []), none, some (.iload_n 2, 0, 50, []), some (.if_icmp .ge 13, 0, 53, [63]), none, none, some (.iload_n 3, 0, 54, []), some (.iload 9, 0, 56, []), none, some (.ishr, 0, 57, []), some (.iconst 1, 1, 58, []), some (.iand, 0, 59, []), some (.iconst 1, 1, 60, []), some (.if_icmp .ne 4, 0, 63, [64]), none, none, some (.return_, 0, 64, []), some (.iload_n 3, 0, 65, []), some (.iconst 1, 1, 66, []), some (.iload 9, 0, 68, []), none, some (.ishl, 0, 69, []), some (.ior, 0, 70, []), some (.istore_n 3, 0, 71, []), some (.aload_n 0, 0, 72, []), some (.getfield 26, 0, 75, []), none, none, some (.iload 8, 0, 77, []), none, some (.iload_n 2, 0, 78, []), some (.invokestatic 113, 0, 81, []), none, none, some (.aload_n 0, 0, 82, []), some (.getfield 17, 0, 85, []), none, none, some (.iload 9, 0, 87, []), none, some (.iaload, 0, 88, []), some (.isub, 0, 89, []), some (.istore 10, 0, 91, []), none, some (.iload 4, 0, 93, []), none, some (.iload 10, 0, 95, []), none, some (.ifCond .le 8, 0, 98, [103]), none, none, some (.iload 10, 0, 100, []), none, some (.goto 4, 0, 103, [104]), none, none, some (.iconst 0, 0, 104, []), some (.iadd, 0, 105, []), some (.istore 4, 0, 107, []), none, some (.iload 7, 0, 109, []), none, some (.sipush (-1009), (-1009), 112, []), none, none, some (.if_icmp .ne 7, 0, 115, [119]), none, none, some (.iconst 0, 0, 116, []), some (.goto 18, 0, 119, [134]), none, none, some (.aload_n 0, 0, 120, []), some (.getfield 20, 0, 123, []), none, none, some (.iload 9, 0, 125, []), none, some (.iaload, 0, 126, []), some (.aload_n 0, 0, 127, []), some (.getfield 20, 0, 130, []), none, none, some (.iload 7, 0, 132, []), none, some (.iaload, 0, 133, []), some (.isub, 0, 134, []), some (.istore 11, 0, 136, []), none, some (.iload 5, 0, 138, []), none, some (.iload 11, 0, 140, []), none, some (.ifCond .ge 9, 0, 143, [149]), none, none, some (.iload 11, 0, 145, []), none, some (.ineg, 0, 146, []), some (.goto 5, 0, 149, [151]), none, none, some (.iload 11, 0, 151, []), none, some (.iadd, 0, 152, []), some (.istore 5, 0, 154, []), none, some (.iload 9, 0, 156, []), none, some (.istore 7, 0, 158, []), none, some (.iinc 8 (-1), (-1), 161, []), none, none, some (.goto (-133), 0, 164, [28]), none, none, some (.aload_n 0, 0, 165, []), some (.getfield 152, 0, 168, []), none, none, some (.sipush (-1009), (-1009), 171, []), none, none, some (.if_icmp .eq 30, 0, 174, [201]), none, none, some (.iload 4, 0, 176, []), none, some (.aload_n 0, 0, 177, []), some (.getfield 155, 0, 180, []), none, none, some (.if_icmp .lt 21, 0, 183, [201]), none, none, some (.iload 4, 0, 185, []), none, some (.aload_n 0, 0, 186, []), some (.getfield 155, 0, 189, []), none, none, some (.if_icmp .ne 29, 0, 192, [218]), none, none, some (.iload 5, 0, 194, []), none, some (.aload_n 0, 0, 195, []), some (.getfield 158, 0, 198, []), none, none, some (.if_icmp .ge 20, 0, 201, [218]), none, none, some (.aload_n 0, 0, 202, []), some (.iload_n 1, 0, 203, []), some (.putfield 152, 0, 206, []), none, none, some (.aload_n 0, 0, 207, []), some (.iload 4, 0, 209, []), none, some (.putfield 155, 0, 212, []), none, none, some (.aload_n 0, 0, 213, []), some (.iload 5, 0, 215, []), none, some (.putfield 158, 0, 218, []), none, none, some (.return_, 0, 219, [])]
def mX8_look : zM := (iX8_look, [(13, 8, 3, (.array .int)), (17, 8, 4, (.array .int)), (20, 8, 5, (.array .int)), (26, 8, 13, (.array .int)), (152, 8, 19, .int), (155, 8, 17, .int), (158, 8, 18, .int)], [(152, 8, 19, .int), (155, 8, 17, .int), (158, 8, 18, .int)], [], [], [], [], [(113, 3, zFr 3 (zGoes mX8_wants 1 3))])
theorem kX8_look : zchkL cX8_look 0 iX8_look = true := by decide +kernel
set_option maxRecDepth 20000 in
theorem gX8_look : zGood mX8_look cX8_look yX8_look.cls (zwd yX8_look cX8_look 12 (zret 0)) := ⟨fun pc x h => by
    have h1 := zchkL_at kX8_look pc x h
    rw [Nat.zero_add] at h1
    exact h1, zlookF (fin := false) [(13, 8, 3, (.array .int)), (17, 8, 4, (.array .int)), (20, 8, 5, (.array .int)), (26, 8, 13, (.array .int)), (152, 8, 19, .int), (155, 8, 17, .int), (158, 8, 18, .int)] (List.forall_mem_cons.mpr ⟨⟨(RX8, TX8, 24), rfl, by decide, List.mem_cons_of_mem _ zw718, fun w h => List.mem_cons_of_mem _ (zX8 w h), by decide +kernel, fun h => by cases h⟩, List.forall_mem_cons.mpr ⟨⟨(RX8, TX8, 24), rfl, by decide, List.mem_cons_of_mem _ zw719, fun w h => List.mem_cons_of_mem _ (zX8 w h), by decide +kernel, fun h => by cases h⟩, List.forall_mem_cons.mpr ⟨⟨(RX8, TX8, 24), rfl, by decide, List.mem_cons_of_mem _ zw720, fun w h => List.mem_cons_of_mem _ (zX8 w h), by decide +kernel, fun h => by cases h⟩, List.forall_mem_cons.mpr ⟨⟨(RX8, TX8, 24), rfl, by decide, List.mem_cons_of_mem _ zw728, fun w h => List.mem_cons_of_mem _ (zX8 w h), by decide +kernel, fun h => by cases h⟩, List.forall_mem_cons.mpr ⟨⟨(RX8, TX8, 24), rfl, by decide, List.mem_cons_of_mem _ zw734, fun w h => List.mem_cons_of_mem _ (zX8 w h), by decide +kernel, fun h => by cases h⟩, List.forall_mem_cons.mpr ⟨⟨(RX8, TX8, 24), rfl, by decide, List.mem_cons_of_mem _ zw732, fun w h => List.mem_cons_of_mem _ (zX8 w h), by decide +kernel, fun h => by cases h⟩, List.forall_mem_cons.mpr ⟨⟨(RX8, TX8, 24), rfl, by decide, List.mem_cons_of_mem _ zw733, fun w h => List.mem_cons_of_mem _ (zX8 w h), by decide +kernel, fun h => by cases h⟩, fun _ h => absurd h List.not_mem_nil⟩⟩⟩⟩⟩⟩⟩), zlookF (fin := true) [(152, 8, 19, .int), (155, 8, 17, .int), (158, 8, 18, .int)] (List.forall_mem_cons.mpr ⟨⟨(RX8, TX8, 24), rfl, by decide, List.mem_cons_of_mem _ zw734, fun w h => List.mem_cons_of_mem _ (zX8 w h), by decide +kernel, fun _ => rfl⟩, List.forall_mem_cons.mpr ⟨⟨(RX8, TX8, 24), rfl, by decide, List.mem_cons_of_mem _ zw732, fun w h => List.mem_cons_of_mem _ (zX8 w h), by decide +kernel, fun _ => rfl⟩, List.forall_mem_cons.mpr ⟨⟨(RX8, TX8, 24), rfl, by decide, List.mem_cons_of_mem _ zw733, fun w h => List.mem_cons_of_mem _ (zX8 w h), by decide +kernel, fun _ => rfl⟩, fun _ h => absurd h List.not_mem_nil⟩⟩⟩), zlookup (β := Int32) (L := []) (P := fun ix b => Jvm.Cond.constant yX8_look.cls ix b ∈ (zwd yX8_look cX8_look 12 (zret 0))) (fun _ h => absurd h List.not_mem_nil), zlookup (β := Int64) (L := []) (P := fun ix b => Jvm.Cond.constantLong yX8_look.cls ix b ∈ (zwd yX8_look cX8_look 12 (zret 0))) (fun _ h => absurd h List.not_mem_nil), zlookup (β := Nat) (L := []) (P := fun ix b => zmok yX8_look.cls (zwd yX8_look cX8_look 12 (zret 0)) ix b) (fun _ h => absurd h List.not_mem_nil)⟩
set_option maxRecDepth 20000 in
theorem sX8_look (l : Launch) : ∀ (as : List Value) (ws : zW) (K : zP), zFr 2 (zGoes mX8_look 0 12) as ws K → zMet l yX8_look (zwd yX8_look cX8_look 12 (zret 0)) { frames := 2, cells := 0, slots := 0, locals := 400 } 0 as ws K := zFr_met (by decide +kernel) (by decide) (by decide) gX8_look (fun p e s m args below meth c D cy ad A n0 Q S hKK hA => ⟨fun ix n G h => zlookup (β := Nat × zG) (L := []) (P := fun ix b => zCO p l e { frames := 2, cells := 0, slots := 0, locals := 400 } s m args below meth c cX8_look 12 D cy ad A n0 0 0 Q (.invokevirtual ix) b.1 b.2) (fun _ h => absurd h List.not_mem_nil) ix (n, G) h, fun ix n G h => zlookup (β := Nat × zG) (L := [(113, 3, zFr 3 (zGoes mX8_wants 1 3))]) (P := fun ix b => zCO p l e { frames := 2, cells := 0, slots := 0, locals := 400 } s m args below meth c cX8_look 12 D cy ad A n0 0 0 Q (.invokestatic ix) b.1 b.2) (List.forall_mem_cons.mpr ⟨zco_S S hKK hA ⟨Nat.zero_le _, Nat.zero_le _⟩ (va_cwS 3 S.2.2.2.2 (zgoodS zw844 zw845 zw57 zw846) rfl rfl rfl (by decide +kernel) (by decide +kernel)) (sX8_wants l), fun _ h => absurd h List.not_mem_nil⟩) ix (n, G) h⟩) (by decide)
def iX8_order : List (Option zI) := [some (.iload_n 1, 0, 1, []), some (.iconst (-1), (-1), 2, []), some (.if_icmp .eq 21, 0, 5, [23]), none, none, some (.iload_n 1, 0, 6, []), some (.bipush (-2), (-2), 8, []), none, some (.if_icmp .eq 15, 0, 11, [23]), none, none, some (.aload_n 0, 0, 12, []), some (.iload_n 1, 0, 13, []), some (.invokevirtual 110, 0, 16, []), none, none, some (.ifCond .ne 7, 0, 19, [23]), none, none, some (.sipush (-1001), (-1001), 22, []), none, none, some (.ireturn, 0, 23, []), some (.iconst 1, 1, 24, []), some (.istore_n 2, 0, 25, []), some (.iconst 0, 0, 26, []), some (.istore_n 3, 0, 27, []), some (.iload_n 3, 0, 28, []), some (.aload_n 0, 0, 29, []), some (.getfield 13, 0, 32, []), none, none, some (.iconst 0, 0, 33, []), some (.iaload, 0, 34, []), some (.if_icmp .ge 14, 0, 37, [48]), none, none, some (.iload_n 2, 0, 38, []), some (.bipush 7, 7, 40, []), none, some (.imul, 0, 41, []), some (.istore_n 2, 0, 42, []), some (.iinc 3 1, 1, 45, []), none, none, some (.goto (-18), 0, 48, [27]), none, none, some (.aload_n 0, 0, 49, []), some (.sipush (-1009), (-1009), 52, []), none, none, some (.putfield 152, 0, 55, []), none, none, some (.iconst 0, 0, 56, []), some (.istore_n 3, 0, 57, []), some (.iload_n 3, 0, 58, []), some (.iload_n 2, 0, 59, []), some (.if_icmp .ge 14, 0, 62, [73]), none, none, some (.aload_n 0, 0, 63, []), some (.iload_n 3, 0, 64, []), some (.invokevirtual 161, 0, 67, []), none, none, some (.iinc 3 1, 1, 70, []), none, none, some (.goto (-13), 0, 73, [57]), none, none, some (.aload_n 0, 0, 74, []), some (.getfield 152, 0, 77, []), none, none, some (.istore_n 3, 0, 78, []), some (.aload_n 0, 0, 79, []), some (.getfield 13, 0, 82, []), none, none, some (.iconst 0, 0, 83, []), some (.iaload, 0, 84, []), some (.iconst 1, 1, 85, []), some (.isub, 0, 86, []), some (.istore 4, 0, 88, []), none, some (.iload 4, 0, 90, []), none, some (.iload_n 1, 0, 91, []), some (.if_icmp .le 18, 0, 94, [109]), none, none, some (.iload_n 1, 0, 95, []), some (.ifCond .lt 14, 0, 98, [109]), none, none, some (.iload_n 3, 0, 99, []), some (.bipush 7, 7, 101, []), none, some (.idiv, 0, 102, []), some (.istore_n 3, 0, 103, []), some (.iinc 4 (-1), (-1), 106, []), none, none, some (.goto (-18), 0, 109, [88]), none, none, some (.iload_n 1, 0, 110, []), some (.iconst (-1), (-1), 111, []), some (.if_icmp .ne 10, 0, 114, [121]), none, none, some (.aload_n 0, 0, 115, []), some (.getfield 155, 0, 118, []), none, none, some (.goto 20, 0, 121, [138]), none, none, some (.iload_n 1, 0, 122, []), some (.bipush (-2), (-2), 124, []), none, some (.if_icmp .ne 10, 0, 127, [134]), none, none, some (.aload_n 0, 0, 128, []), some (.getfield 158, 0, 131, []), none, none, some (.goto 7, 0, 134, [138]), none, none, some (.iload_n 3, 0, 135, []), some (.bipush 7, 7, 137, []), none, some (.irem, 0, 138, []), some (.ireturn, 0, 139, [])]
def mX8_order : zM := (iX8_order, [(13, 8, 3, (.array .int)), (152, 8, 19, .int), (155, 8, 17, .int), (158, 8, 18, .int)], [(152, 8, 19, .int)], [], [], [], [(110, 2, zFV 8 2 (zGoes mX8_isPlace 3 2)), (161, 2, zFV 8 2 (zGoes mX8_look 0 12))], [])
theorem kX8_order : zchkL cX8_order 0 iX8_order = true := by decide +kernel
set_option maxRecDepth 20000 in
theorem gX8_order : zGood mX8_order cX8_order yX8_order.cls (zwd yX8_order cX8_order 5 (zret 1)) := ⟨fun pc x h => by
    have h1 := zchkL_at kX8_order pc x h
    rw [Nat.zero_add] at h1
    exact h1, zlookF (fin := false) [(13, 8, 3, (.array .int)), (152, 8, 19, .int), (155, 8, 17, .int), (158, 8, 18, .int)] (List.forall_mem_cons.mpr ⟨⟨(RX8, TX8, 24), rfl, by decide, List.mem_cons_of_mem _ zw718, fun w h => List.mem_cons_of_mem _ (zX8 w h), by decide +kernel, fun h => by cases h⟩, List.forall_mem_cons.mpr ⟨⟨(RX8, TX8, 24), rfl, by decide, List.mem_cons_of_mem _ zw734, fun w h => List.mem_cons_of_mem _ (zX8 w h), by decide +kernel, fun h => by cases h⟩, List.forall_mem_cons.mpr ⟨⟨(RX8, TX8, 24), rfl, by decide, List.mem_cons_of_mem _ zw732, fun w h => List.mem_cons_of_mem _ (zX8 w h), by decide +kernel, fun h => by cases h⟩, List.forall_mem_cons.mpr ⟨⟨(RX8, TX8, 24), rfl, by decide, List.mem_cons_of_mem _ zw733, fun w h => List.mem_cons_of_mem _ (zX8 w h), by decide +kernel, fun h => by cases h⟩, fun _ h => absurd h List.not_mem_nil⟩⟩⟩⟩), zlookF (fin := true) [(152, 8, 19, .int)] (List.forall_mem_cons.mpr ⟨⟨(RX8, TX8, 24), rfl, by decide, List.mem_cons_of_mem _ zw734, fun w h => List.mem_cons_of_mem _ (zX8 w h), by decide +kernel, fun _ => rfl⟩, fun _ h => absurd h List.not_mem_nil⟩), zlookup (β := Int32) (L := []) (P := fun ix b => Jvm.Cond.constant yX8_order.cls ix b ∈ (zwd yX8_order cX8_order 5 (zret 1))) (fun _ h => absurd h List.not_mem_nil), zlookup (β := Int64) (L := []) (P := fun ix b => Jvm.Cond.constantLong yX8_order.cls ix b ∈ (zwd yX8_order cX8_order 5 (zret 1))) (fun _ h => absurd h List.not_mem_nil), zlookup (β := Nat) (L := []) (P := fun ix b => zmok yX8_order.cls (zwd yX8_order cX8_order 5 (zret 1)) ix b) (fun _ h => absurd h List.not_mem_nil)⟩
set_option maxRecDepth 20000 in
theorem sX8_order (l : Launch) : ∀ (as : List Value) (ws : zW) (K : zP), zFr 2 (zGoes mX8_order 1 5) as ws K → zMet l yX8_order (zwd yX8_order cX8_order 5 (zret 1)) { frames := 3, cells := 0, slots := 0, locals := 600 } 1 as ws K := zFr_met (by decide +kernel) (by decide) (by decide) gX8_order (fun p e s m args below meth c D cy ad A n0 Q S hKK hA => ⟨fun ix n G h => zlookup (β := Nat × zG) (L := [(110, 2, zFV 8 2 (zGoes mX8_isPlace 3 2)), (161, 2, zFV 8 2 (zGoes mX8_look 0 12))]) (P := fun ix b => zCO p l e { frames := 3, cells := 0, slots := 0, locals := 600 } s m args below meth c cX8_order 5 D cy ad A n0 0 0 Q (.invokevirtual ix) b.1 b.2) (List.forall_mem_cons.mpr ⟨zco_V (ci := 8) S hKK hA ⟨Nat.zero_le _, Nat.zero_le _⟩ (cwV 1 S.2.2.2.2 (zgoodV zw836 zw838 zw37 zw57 zw839) rfl rfl rfl (by decide +kernel) (by decide +kernel)) rfl rfl (sX8_isPlace l), List.forall_mem_cons.mpr ⟨zco_V (ci := 8) S hKK hA ⟨Nat.zero_le _, Nat.zero_le _⟩ (cwV 1 S.2.2.2.2 (zgoodV zw937 zw939 zw46 zw57 zw940) rfl rfl rfl (by decide +kernel) (by decide +kernel)) rfl rfl (sX8_look l), fun _ h => absurd h List.not_mem_nil⟩⟩) ix (n, G) h, fun ix n G h => zlookup (β := Nat × zG) (L := []) (P := fun ix b => zCO p l e { frames := 3, cells := 0, slots := 0, locals := 600 } s m args below meth c cX8_order 5 D cy ad A n0 0 0 Q (.invokestatic ix) b.1 b.2) (fun _ h => absurd h List.not_mem_nil) ix (n, G) h⟩) (by decide)
def iX8_inStep : List (Option zI) := [some (.aload_n 0, 0, 1, []), some (.invokevirtual 142, 0, 4, []), none, none, some (.iconst 0, 0, 5, []), some (.istore_n 1, 0, 6, []), some (.iload_n 1, 0, 7, []), some (.bipush 20, 20, 9, []), none, some (.if_icmp .gt 72, 0, 12, [81]), none, none, some (.iconst 1, 1, 13, []), some (.istore_n 2, 0, 14, []), some (.iconst 1, 1, 15, []), some (.istore_n 3, 0, 16, []), some (.iload_n 3, 0, 17, []), some (.aload_n 0, 0, 18, []), some (.getfield 13, 0, 21, []), none, none, some (.iconst 0, 0, 22, []), some (.iaload, 0, 23, []), some (.if_icmp .ge 38, 0, 26, [61]), none, none, some (.iload_n 2, 0, 27, []), some (.ifCond .eq 26, 0, 30, [53]), none, none, some (.aload_n 0, 0, 31, []), some (.getfield 33, 0, 34, []), none, none, some (.bipush 14, 14, 36, []), none, some (.iload_n 3, 0, 37, []), some (.iadd, 0, 38, []), some (.iaload, 0, 39, []), some (.aload_n 0, 0, 40, []), some (.getfield 33, 0, 43, []), none, none, some (.bipush 14, 14, 45, []), none, some (.iaload, 0, 46, []), some (.if_icmp .ne 7, 0, 49, [53]), none, none, some (.iconst 1, 1, 50, []), some (.goto 4, 0, 53, [54]), none, none, some (.iconst 0, 0, 54, []), some (.istore_n 2, 0, 55, []), some (.iinc 3 1, 1, 58, []), none, none, some (.goto (-42), 0, 61, [16]), none, none, some (.iload_n 2, 0, 62, []), some (.ifCond .eq 5, 0, 65, [67]), none, none, some (.iload_n 1, 0, 66, []), some (.ireturn, 0, 67, []), some (.aload_n 0, 0, 68, []), some (.aload_n 0, 0, 69, []), some (.getfield 33, 0, 72, []), none, none, some (.invokevirtual 120, 0, 75, []), none, none, some (.iinc 1 1, 1, 78, []), none, none, some (.goto (-72), 0, 81, [6]), none, none, some (.sipush (-1009), (-1009), 84, []), none, none, some (.ireturn, 0, 85, [])]
def mX8_inStep : zM := (iX8_inStep, [(13, 8, 3, (.array .int)), (33, 8, 15, (.array .int))], [], [], [], [], [(120, 2, zFV 8 2 (zGoes mX8_hopAll 0 6)), (142, 1, zFV 8 1 (zGoes mX8_take 0 2))], [])
theorem kX8_inStep : zchkL cX8_inStep 0 iX8_inStep = true := by decide +kernel
set_option maxRecDepth 20000 in
theorem gX8_inStep : zGood mX8_inStep cX8_inStep yX8_inStep.cls (zwd yX8_inStep cX8_inStep 4 (zret 1)) := ⟨fun pc x h => by
    have h1 := zchkL_at kX8_inStep pc x h
    rw [Nat.zero_add] at h1
    exact h1, zlookF (fin := false) [(13, 8, 3, (.array .int)), (33, 8, 15, (.array .int))] (List.forall_mem_cons.mpr ⟨⟨(RX8, TX8, 24), rfl, by decide, List.mem_cons_of_mem _ zw718, fun w h => List.mem_cons_of_mem _ (zX8 w h), by decide +kernel, fun h => by cases h⟩, List.forall_mem_cons.mpr ⟨⟨(RX8, TX8, 24), rfl, by decide, List.mem_cons_of_mem _ zw730, fun w h => List.mem_cons_of_mem _ (zX8 w h), by decide +kernel, fun h => by cases h⟩, fun _ h => absurd h List.not_mem_nil⟩⟩), zlookF (fin := true) [] (fun _ h => absurd h List.not_mem_nil), zlookup (β := Int32) (L := []) (P := fun ix b => Jvm.Cond.constant yX8_inStep.cls ix b ∈ (zwd yX8_inStep cX8_inStep 4 (zret 1))) (fun _ h => absurd h List.not_mem_nil), zlookup (β := Int64) (L := []) (P := fun ix b => Jvm.Cond.constantLong yX8_inStep.cls ix b ∈ (zwd yX8_inStep cX8_inStep 4 (zret 1))) (fun _ h => absurd h List.not_mem_nil), zlookup (β := Nat) (L := []) (P := fun ix b => zmok yX8_inStep.cls (zwd yX8_inStep cX8_inStep 4 (zret 1)) ix b) (fun _ h => absurd h List.not_mem_nil)⟩
set_option maxRecDepth 20000 in
theorem sX8_inStep (l : Launch) : ∀ (as : List Value) (ws : zW) (K : zP), zFr 1 (zGoes mX8_inStep 1 4) as ws K → zMet l yX8_inStep (zwd yX8_inStep cX8_inStep 4 (zret 1)) { frames := 2, cells := 0, slots := 0, locals := 400 } 1 as ws K := zFr_met (by decide +kernel) (by decide) (by decide) gX8_inStep (fun p e s m args below meth c D cy ad A n0 Q S hKK hA => ⟨fun ix n G h => zlookup (β := Nat × zG) (L := [(120, 2, zFV 8 2 (zGoes mX8_hopAll 0 6)), (142, 1, zFV 8 1 (zGoes mX8_take 0 2))]) (P := fun ix b => zCO p l e { frames := 2, cells := 0, slots := 0, locals := 400 } s m args below meth c cX8_inStep 4 D cy ad A n0 0 0 Q (.invokevirtual ix) b.1 b.2) (List.forall_mem_cons.mpr ⟨zco_V (ci := 8) S hKK hA ⟨Nat.zero_le _, Nat.zero_le _⟩ (cwV 1 S.2.2.2.2 (zgoodV zw862 zw864 zw40 zw57 zw865) rfl rfl rfl (by decide +kernel) (by decide +kernel)) rfl rfl (sX8_hopAll l), List.forall_mem_cons.mpr ⟨zco_V (ci := 8) S hKK hA ⟨Nat.zero_le _, Nat.zero_le _⟩ (cwV 0 S.2.2.2.2 (zgoodV zw913 zw915 zw44 zw57 zw916) rfl rfl rfl (by decide +kernel) (by decide +kernel)) rfl rfl (sX8_take l), fun _ h => absurd h List.not_mem_nil⟩⟩) ix (n, G) h, fun ix n G h => zlookup (β := Nat × zG) (L := []) (P := fun ix b => zCO p l e { frames := 2, cells := 0, slots := 0, locals := 400 } s m args below meth c cX8_inStep 4 D cy ad A n0 0 0 Q (.invokestatic ix) b.1 b.2) (fun _ h => absurd h List.not_mem_nil) ix (n, G) h⟩) (by decide)
def iX8_behind : List (Option zI) := [some (.iload_n 1, 0, 1, []), some (.iconst 0, 0, 2, []), some (.bipush 99, 99, 4, []), none, some (.invokestatic 54, 0, 7, []), none, none, some (.ifCond .ne 7, 0, 10, [14]), none, none, some (.sipush (-1001), (-1001), 13, []), none, none, some (.ireturn, 0, 14, []), some (.iconst 0, 0, 15, []), some (.istore_n 2, 0, 16, []), some (.aload_n 0, 0, 17, []), some (.invokevirtual 142, 0, 20, []), none, none, some (.iconst 0, 0, 21, []), some (.istore_n 3, 0, 22, []), some (.iload_n 3, 0, 23, []), some (.bipush 60, 60, 25, []), none, some (.if_icmp .gt 93, 0, 28, [118]), none, none, some (.iconst 0, 0, 29, []), some (.istore 4, 0, 31, []), none, some (.iload 4, 0, 33, []), none, some (.aload_n 0, 0, 34, []), some (.getfield 13, 0, 37, []), none, none, some (.iconst 0, 0, 38, []), some (.iaload, 0, 39, []), some (.if_icmp .ge 62, 0, 42, [101]), none, none, some (.aload_n 0, 0, 43, []), some (.getfield 33, 0, 46, []), none, none, some (.iload 4, 0, 48, []), none, some (.aload_n 0, 0, 49, []), some (.getfield 13, 0, 52, []), none, none, some (.iconst 0, 0, 53, []), some (.iaload, 0, 54, []), some (.invokestatic 113, 0, 57, []), none, none, some (.istore 5, 0, 59, []), none, some (.iload 5, 0, 61, []), none, some (.ifCond .le 34, 0, 64, [95]), none, none, some (.iload_n 2, 0, 65, []), some (.bipush 60, 60, 67, []), none, some (.if_icmp .gt 28, 0, 70, [95]), none, none, some (.iload_n 2, 0, 71, []), some (.iload 5, 0, 73, []), none, some (.imul, 0, 74, []), some (.aload_n 0, 0, 75, []), some (.getfield 33, 0, 78, []), none, none, some (.bipush 7, 7, 80, []), none, some (.iload 4, 0, 82, []), none, some (.iadd, 0, 83, []), some (.iaload, 0, 84, []), some (.iadd, 0, 85, []), some (.iload_n 1, 0, 86, []), some (.if_icmp .gt 9, 0, 89, [95]), none, none, some (.iinc 2 1, 1, 92, []), none, none, some (.goto (-33), 0, 95, [59]), none, none, some (.iinc 4 1, 1, 98, []), none, none, some (.goto (-67), 0, 101, [31]), none, none, some (.aload_n 0, 0, 102, []), some (.aload_n 0, 0, 103, []), some (.getfield 33, 0, 106, []), none, none, some (.sipush (-1009), (-1009), 109, []), none, none, some (.invokevirtual 135, 0, 112, []), none, none, some (.iinc 3 1, 1, 115, []), none, none, some (.goto (-93), 0, 118, [22]), none, none, some (.iload_n 2, 0, 119, []), some (.bipush 60, 60, 121, []), none, some (.if_icmp .le 9, 0, 124, [130]), none, none, some (.sipush (-1009), (-1009), 127, []), none, none, some (.goto 4, 0, 130, [131]), none, none, some (.iload_n 2, 0, 131, []), some (.ireturn, 0, 132, [])]
def mX8_behind : zM := (iX8_behind, [(13, 8, 3, (.array .int)), (33, 8, 15, (.array .int))], [], [], [], [], [(135, 3, zFV 8 3 (zGoes mX8_pace 0 10)), (142, 1, zFV 8 1 (zGoes mX8_take 0 2))], [(54, 3, zFr 3 (zGoes mX8_in 3 3)), (113, 3, zFr 3 (zGoes mX8_wants 1 3))])
theorem kX8_behind : zchkL cX8_behind 0 iX8_behind = true := by decide +kernel
set_option maxRecDepth 20000 in
theorem gX8_behind : zGood mX8_behind cX8_behind yX8_behind.cls (zwd yX8_behind cX8_behind 6 (zret 1)) := ⟨fun pc x h => by
    have h1 := zchkL_at kX8_behind pc x h
    rw [Nat.zero_add] at h1
    exact h1, zlookF (fin := false) [(13, 8, 3, (.array .int)), (33, 8, 15, (.array .int))] (List.forall_mem_cons.mpr ⟨⟨(RX8, TX8, 24), rfl, by decide, List.mem_cons_of_mem _ zw718, fun w h => List.mem_cons_of_mem _ (zX8 w h), by decide +kernel, fun h => by cases h⟩, List.forall_mem_cons.mpr ⟨⟨(RX8, TX8, 24), rfl, by decide, List.mem_cons_of_mem _ zw730, fun w h => List.mem_cons_of_mem _ (zX8 w h), by decide +kernel, fun h => by cases h⟩, fun _ h => absurd h List.not_mem_nil⟩⟩), zlookF (fin := true) [] (fun _ h => absurd h List.not_mem_nil), zlookup (β := Int32) (L := []) (P := fun ix b => Jvm.Cond.constant yX8_behind.cls ix b ∈ (zwd yX8_behind cX8_behind 6 (zret 1))) (fun _ h => absurd h List.not_mem_nil), zlookup (β := Int64) (L := []) (P := fun ix b => Jvm.Cond.constantLong yX8_behind.cls ix b ∈ (zwd yX8_behind cX8_behind 6 (zret 1))) (fun _ h => absurd h List.not_mem_nil), zlookup (β := Nat) (L := []) (P := fun ix b => zmok yX8_behind.cls (zwd yX8_behind cX8_behind 6 (zret 1)) ix b) (fun _ h => absurd h List.not_mem_nil)⟩
set_option maxRecDepth 20000 in
theorem sX8_behind (l : Launch) : ∀ (as : List Value) (ws : zW) (K : zP), zFr 2 (zGoes mX8_behind 1 6) as ws K → zMet l yX8_behind (zwd yX8_behind cX8_behind 6 (zret 1)) { frames := 3, cells := 0, slots := 0, locals := 600 } 1 as ws K := zFr_met (by decide +kernel) (by decide) (by decide) gX8_behind (fun p e s m args below meth c D cy ad A n0 Q S hKK hA => ⟨fun ix n G h => zlookup (β := Nat × zG) (L := [(135, 3, zFV 8 3 (zGoes mX8_pace 0 10)), (142, 1, zFV 8 1 (zGoes mX8_take 0 2))]) (P := fun ix b => zCO p l e { frames := 3, cells := 0, slots := 0, locals := 600 } s m args below meth c cX8_behind 6 D cy ad A n0 0 0 Q (.invokevirtual ix) b.1 b.2) (List.forall_mem_cons.mpr ⟨zco_V (ci := 8) S hKK hA ⟨Nat.zero_le _, Nat.zero_le _⟩ (cwV 2 S.2.2.2.2 (zgoodV zw855 zw857 zw39 zw57 zw858) rfl rfl rfl (by decide +kernel) (by decide +kernel)) rfl rfl (sX8_pace l), List.forall_mem_cons.mpr ⟨zco_V (ci := 8) S hKK hA ⟨Nat.zero_le _, Nat.zero_le _⟩ (cwV 0 S.2.2.2.2 (zgoodV zw913 zw915 zw44 zw57 zw916) rfl rfl rfl (by decide +kernel) (by decide +kernel)) rfl rfl (sX8_take l), fun _ h => absurd h List.not_mem_nil⟩⟩) ix (n, G) h, fun ix n G h => zlookup (β := Nat × zG) (L := [(54, 3, zFr 3 (zGoes mX8_in 3 3)), (113, 3, zFr 3 (zGoes mX8_wants 1 3))]) (P := fun ix b => zCO p l e { frames := 3, cells := 0, slots := 0, locals := 600 } s m args below meth c cX8_behind 6 D cy ad A n0 0 0 Q (.invokestatic ix) b.1 b.2) (List.forall_mem_cons.mpr ⟨zco_S S hKK hA ⟨Nat.zero_le _, Nat.zero_le _⟩ (va_cwS 3 S.2.2.2.2 (zgoodS zw794 zw795 zw57 zw796) rfl rfl rfl (by decide +kernel) (by decide +kernel)) (sX8_in l), List.forall_mem_cons.mpr ⟨zco_S S hKK hA ⟨Nat.zero_le _, Nat.zero_le _⟩ (va_cwS 3 S.2.2.2.2 (zgoodS zw844 zw845 zw57 zw846) rfl rfl rfl (by decide +kernel) (by decide +kernel)) (sX8_wants l), fun _ h => absurd h List.not_mem_nil⟩⟩) ix (n, G) h⟩) (by decide)
def iX8_post : List (Option zI) := [some (.aload_n 0, 0, 1, []), some (.iload_n 1, 0, 2, []), some (.invokevirtual 110, 0, 5, []), none, none, some (.ifCond .eq 13, 0, 8, [18]), none, none, some (.iload_n 2, 0, 9, []), some (.iconst 1, 1, 10, []), some (.bipush 20, 20, 12, []), none, some (.invokestatic 54, 0, 15, []), none, none, some (.ifCond .ne 7, 0, 18, [22]), none, none, some (.sipush (-1001), (-1001), 21, []), none, none, some (.ireturn, 0, 22, []), some (.aload_n 0, 0, 23, []), some (.invokevirtual 142, 0, 26, []), none, none, some (.iconst 0, 0, 27, []), some (.istore_n 3, 0, 28, []), some (.iload_n 3, 0, 29, []), some (.iload_n 2, 0, 30, []), some (.if_icmp .ge 18, 0, 33, [48]), none, none, some (.aload_n 0, 0, 34, []), some (.aload_n 0, 0, 35, []), some (.getfield 33, 0, 38, []), none, none, some (.iload_n 1, 0, 39, []), some (.invokevirtual 135, 0, 42, []), none, none, some (.iinc 3 1, 1, 45, []), none, none, some (.goto (-17), 0, 48, [28]), none, none, some (.aload_n 0, 0, 49, []), some (.aload_n 0, 0, 50, []), some (.getfield 33, 0, 53, []), none, none, some (.invokevirtual 128, 0, 56, []), none, none, some (.ireturn, 0, 57, [])]
def mX8_post : zM := (iX8_post, [(33, 8, 15, (.array .int))], [], [], [], [], [(110, 2, zFV 8 2 (zGoes mX8_isPlace 3 2)), (128, 2, zFV 8 2 (zGoes mX8_bulge 1 4)), (135, 3, zFV 8 3 (zGoes mX8_pace 0 10)), (142, 1, zFV 8 1 (zGoes mX8_take 0 2))], [(54, 3, zFr 3 (zGoes mX8_in 3 3))])
theorem kX8_post : zchkL cX8_post 0 iX8_post = true := by decide +kernel
set_option maxRecDepth 20000 in
theorem gX8_post : zGood mX8_post cX8_post yX8_post.cls (zwd yX8_post cX8_post 4 (zret 1)) := ⟨fun pc x h => by
    have h1 := zchkL_at kX8_post pc x h
    rw [Nat.zero_add] at h1
    exact h1, zlookF (fin := false) [(33, 8, 15, (.array .int))] (List.forall_mem_cons.mpr ⟨⟨(RX8, TX8, 24), rfl, by decide, List.mem_cons_of_mem _ zw730, fun w h => List.mem_cons_of_mem _ (zX8 w h), by decide +kernel, fun h => by cases h⟩, fun _ h => absurd h List.not_mem_nil⟩), zlookF (fin := true) [] (fun _ h => absurd h List.not_mem_nil), zlookup (β := Int32) (L := []) (P := fun ix b => Jvm.Cond.constant yX8_post.cls ix b ∈ (zwd yX8_post cX8_post 4 (zret 1))) (fun _ h => absurd h List.not_mem_nil), zlookup (β := Int64) (L := []) (P := fun ix b => Jvm.Cond.constantLong yX8_post.cls ix b ∈ (zwd yX8_post cX8_post 4 (zret 1))) (fun _ h => absurd h List.not_mem_nil), zlookup (β := Nat) (L := []) (P := fun ix b => zmok yX8_post.cls (zwd yX8_post cX8_post 4 (zret 1)) ix b) (fun _ h => absurd h List.not_mem_nil)⟩
set_option maxRecDepth 20000 in
theorem sX8_post (l : Launch) : ∀ (as : List Value) (ws : zW) (K : zP), zFr 3 (zGoes mX8_post 1 4) as ws K → zMet l yX8_post (zwd yX8_post cX8_post 4 (zret 1)) { frames := 3, cells := 0, slots := 0, locals := 600 } 1 as ws K := zFr_met (by decide +kernel) (by decide) (by decide) gX8_post (fun p e s m args below meth c D cy ad A n0 Q S hKK hA => ⟨fun ix n G h => zlookup (β := Nat × zG) (L := [(110, 2, zFV 8 2 (zGoes mX8_isPlace 3 2)), (128, 2, zFV 8 2 (zGoes mX8_bulge 1 4)), (135, 3, zFV 8 3 (zGoes mX8_pace 0 10)), (142, 1, zFV 8 1 (zGoes mX8_take 0 2))]) (P := fun ix b => zCO p l e { frames := 3, cells := 0, slots := 0, locals := 600 } s m args below meth c cX8_post 4 D cy ad A n0 0 0 Q (.invokevirtual ix) b.1 b.2) (List.forall_mem_cons.mpr ⟨zco_V (ci := 8) S hKK hA ⟨Nat.zero_le _, Nat.zero_le _⟩ (cwV 1 S.2.2.2.2 (zgoodV zw836 zw838 zw37 zw57 zw839) rfl rfl rfl (by decide +kernel) (by decide +kernel)) rfl rfl (sX8_isPlace l), List.forall_mem_cons.mpr ⟨zco_V (ci := 8) S hKK hA ⟨Nat.zero_le _, Nat.zero_le _⟩ (cwV 1 S.2.2.2.2 (zgoodV zw866 zw868 zw41 zw57 zw869) rfl rfl rfl (by decide +kernel) (by decide +kernel)) rfl rfl (sX8_bulge l), List.forall_mem_cons.mpr ⟨zco_V (ci := 8) S hKK hA ⟨Nat.zero_le _, Nat.zero_le _⟩ (cwV 2 S.2.2.2.2 (zgoodV zw855 zw857 zw39 zw57 zw858) rfl rfl rfl (by decide +kernel) (by decide +kernel)) rfl rfl (sX8_pace l), List.forall_mem_cons.mpr ⟨zco_V (ci := 8) S hKK hA ⟨Nat.zero_le _, Nat.zero_le _⟩ (cwV 0 S.2.2.2.2 (zgoodV zw913 zw915 zw44 zw57 zw916) rfl rfl rfl (by decide +kernel) (by decide +kernel)) rfl rfl (sX8_take l), fun _ h => absurd h List.not_mem_nil⟩⟩⟩⟩) ix (n, G) h, fun ix n G h => zlookup (β := Nat × zG) (L := [(54, 3, zFr 3 (zGoes mX8_in 3 3))]) (P := fun ix b => zCO p l e { frames := 3, cells := 0, slots := 0, locals := 600 } s m args below meth c cX8_post 4 D cy ad A n0 0 0 Q (.invokestatic ix) b.1 b.2) (List.forall_mem_cons.mpr ⟨zco_S S hKK hA ⟨Nat.zero_le _, Nat.zero_le _⟩ (va_cwS 3 S.2.2.2.2 (zgoodS zw794 zw795 zw57 zw796) rfl rfl rfl (by decide +kernel) (by decide +kernel)) (sX8_in l), fun _ h => absurd h List.not_mem_nil⟩) ix (n, G) h⟩) (by decide)
def iX8_odds : List (Option zI) := [some (.iload_n 1, 0, 1, []), some (.iconst 0, 0, 2, []), some (.bipush 10, 10, 4, []), none, some (.invokestatic 54, 0, 7, []), none, none, some (.ifCond .eq 22, 0, 10, [29]), none, none, some (.iload_n 2, 0, 11, []), some (.iconst 0, 0, 12, []), some (.bipush 7, 7, 14, []), none, some (.invokestatic 54, 0, 17, []), none, none, some (.ifCond .eq 12, 0, 20, [29]), none, none, some (.iload_n 3, 0, 21, []), some (.iconst 0, 0, 22, []), some (.iconst 1, 1, 23, []), some (.invokestatic 54, 0, 26, []), none, none, some (.ifCond .ne 7, 0, 29, [33]), none, none, some (.sipush (-1001), (-1001), 32, []), none, none, some (.ireturn, 0, 33, []), some (.iconst 0, 0, 34, []), some (.istore 4, 0, 36, []), none, some (.iconst 1, 1, 37, []), some (.istore 5, 0, 39, []), none, some (.iconst 0, 0, 40, []), some (.istore 6, 0, 42, []), none, some (.iload 6, 0, 44, []), none, some (.iconst 1, 1, 45, []), some (.aload_n 0, 0, 46, []), some (.getfield 13, 0, 49, []), none, none, some (.iconst 0, 0, 50, []), some (.iaload, 0, 51, []), some (.ishl, 0, 52, []), some (.if_icmp .ge 87, 0, 55, [139]), none, none, some (.iconst 1, 1, 56, []), some (.istore 7, 0, 58, []), none, some (.iconst 0, 0, 59, []), some (.istore 8, 0, 61, []), none, some (.iconst 0, 0, 62, []), some (.istore 9, 0, 64, []), none, some (.iload 9, 0, 66, []), none, some (.aload_n 0, 0, 67, []), some (.getfield 13, 0, 70, []), none, none, some (.iconst 0, 0, 71, []), some (.iaload, 0, 72, []), some (.if_icmp .ge 44, 0, 75, [116]), none, none, some (.iload 6, 0, 77, []), none, some (.iload 9, 0, 79, []), none, some (.ishr, 0, 80, []), some (.iconst 1, 1, 81, []), some (.iand, 0, 82, []), some (.istore 10, 0, 84, []), none, some (.iload 8, 0, 86, []), none, some (.iload 10, 0, 88, []), none, some (.iadd, 0, 89, []), some (.istore 8, 0, 91, []), none, some (.iload 7, 0, 93, []), none, some (.iload 10, 0, 95, []), none, some (.iconst 1, 1, 96, []), some (.if_icmp .ne 7, 0, 99, [103]), none, none, some (.iload_n 1, 0, 100, []), some (.goto 7, 0, 103, [107]), none, none, some (.bipush 10, 10, 105, []), none, some (.iload_n 1, 0, 106, []), some (.isub, 0, 107, []), some (.imul, 0, 108, []), some (.istore 7, 0, 110, []), none, some (.iinc 9 1, 1, 113, []), none, none, some (.goto (-49), 0, 116, [64]), none, none, some (.iload 4, 0, 118, []), none, some (.iload 8, 0, 120, []), none, some (.iload_n 2, 0, 121, []), some (.if_icmp .gt 8, 0, 124, [129]), none, none, some (.iload 7, 0, 126, []), none, some (.goto 4, 0, 129, [130]), none, none, some (.iconst 0, 0, 130, []), some (.iadd, 0, 131, []), some (.istore 4, 0, 133, []), none, some (.iinc 6 1, 1, 136, []), none, none, some (.goto (-94), 0, 139, [42]), none, none, some (.iconst 0, 0, 140, []), some (.istore 6, 0, 142, []), none, some (.iload 6, 0, 144, []), none, some (.aload_n 0, 0, 145, []), some (.getfield 13, 0, 148, []), none, none, some (.iconst 0, 0, 149, []), some (.iaload, 0, 150, []), some (.if_icmp .ge 16, 0, 153, [166]), none, none, some (.iload 5, 0, 155, []), none, some (.bipush 10, 10, 157, []), none, some (.imul, 0, 158, []), some (.istore 5, 0, 160, []), none, some (.iinc 6 1, 1, 163, []), none, none, some (.goto (-21), 0, 166, [142]), none, none, some (.iload 4, 0, 168, []), none, some (.istore 6, 0, 170, []), none, some (.iload 5, 0, 172, []), none, some (.istore 7, 0, 174, []), none, some (.iload 7, 0, 176, []), none, some (.ifCond .eq 21, 0, 179, [197]), none, none, some (.iload 6, 0, 181, []), none, some (.iload 7, 0, 183, []), none, some (.irem, 0, 184, []), some (.istore 8, 0, 186, []), none, some (.iload 7, 0, 188, []), none, some (.istore 6, 0, 190, []), none, some (.iload 8, 0, 192, []), none, some (.istore 7, 0, 194, []), none, some (.goto (-20), 0, 197, [174]), none, none, some (.iload_n 3, 0, 198, []), some (.ifCond .ne 11, 0, 201, [209]), none, none, some (.iload 4, 0, 203, []), none, some (.iload 6, 0, 205, []), none, some (.idiv, 0, 206, []), some (.goto 8, 0, 209, [214]), none, none, some (.iload 5, 0, 211, []), none, some (.iload 6, 0, 213, []), none, some (.idiv, 0, 214, []), some (.ireturn, 0, 215, [])]
def mX8_odds : zM := (iX8_odds, [(13, 8, 3, (.array .int))], [], [], [], [], [], [(54, 3, zFr 3 (zGoes mX8_in 3 3))])
theorem kX8_odds : zchkL cX8_odds 0 iX8_odds = true := by decide +kernel
set_option maxRecDepth 20000 in
theorem gX8_odds : zGood mX8_odds cX8_odds yX8_odds.cls (zwd yX8_odds cX8_odds 11 (zret 1)) := ⟨fun pc x h => by
    have h1 := zchkL_at kX8_odds pc x h
    rw [Nat.zero_add] at h1
    exact h1, zlookF (fin := false) [(13, 8, 3, (.array .int))] (List.forall_mem_cons.mpr ⟨⟨(RX8, TX8, 24), rfl, by decide, List.mem_cons_of_mem _ zw718, fun w h => List.mem_cons_of_mem _ (zX8 w h), by decide +kernel, fun h => by cases h⟩, fun _ h => absurd h List.not_mem_nil⟩), zlookF (fin := true) [] (fun _ h => absurd h List.not_mem_nil), zlookup (β := Int32) (L := []) (P := fun ix b => Jvm.Cond.constant yX8_odds.cls ix b ∈ (zwd yX8_odds cX8_odds 11 (zret 1))) (fun _ h => absurd h List.not_mem_nil), zlookup (β := Int64) (L := []) (P := fun ix b => Jvm.Cond.constantLong yX8_odds.cls ix b ∈ (zwd yX8_odds cX8_odds 11 (zret 1))) (fun _ h => absurd h List.not_mem_nil), zlookup (β := Nat) (L := []) (P := fun ix b => zmok yX8_odds.cls (zwd yX8_odds cX8_odds 11 (zret 1)) ix b) (fun _ h => absurd h List.not_mem_nil)⟩
set_option maxRecDepth 20000 in
theorem sX8_odds (l : Launch) : ∀ (as : List Value) (ws : zW) (K : zP), zFr 4 (zGoes mX8_odds 1 11) as ws K → zMet l yX8_odds (zwd yX8_odds cX8_odds 11 (zret 1)) { frames := 2, cells := 0, slots := 0, locals := 400 } 1 as ws K := zFr_met (by decide +kernel) (by decide) (by decide) gX8_odds (fun p e s m args below meth c D cy ad A n0 Q S hKK hA => ⟨fun ix n G h => zlookup (β := Nat × zG) (L := []) (P := fun ix b => zCO p l e { frames := 2, cells := 0, slots := 0, locals := 400 } s m args below meth c cX8_odds 11 D cy ad A n0 0 0 Q (.invokevirtual ix) b.1 b.2) (fun _ h => absurd h List.not_mem_nil) ix (n, G) h, fun ix n G h => zlookup (β := Nat × zG) (L := [(54, 3, zFr 3 (zGoes mX8_in 3 3))]) (P := fun ix b => zCO p l e { frames := 2, cells := 0, slots := 0, locals := 400 } s m args below meth c cX8_odds 11 D cy ad A n0 0 0 Q (.invokestatic ix) b.1 b.2) (List.forall_mem_cons.mpr ⟨zco_S S hKK hA ⟨Nat.zero_le _, Nat.zero_le _⟩ (va_cwS 3 S.2.2.2.2 (zgoodS zw794 zw795 zw57 zw796) rfl rfl rfl (by decide +kernel) (by decide +kernel)) (sX8_in l), fun _ h => absurd h List.not_mem_nil⟩) ix (n, G) h⟩) (by decide)
def iX8_saw : List (Option zI) := [some (.aload_n 0, 0, 1, []), some (.iload_n 1, 0, 2, []), some (.invokevirtual 110, 0, 5, []), none, none, some (.ifCond .eq 26, 0, 8, [31]), none, none, some (.iload_n 2, 0, 9, []), some (.iconst 0, 0, 10, []), some (.bipush 60, 60, 12, []), none, some (.invokestatic 54, 0, 15, []), none, none, some (.ifCond .eq 16, 0, 18, [31]), none, none, some (.iload_n 3, 0, 19, []), some (.sipush (-999), (-999), 22, []), none, none, some (.sipush 999, 999, 25, []), none, none, some (.invokestatic 54, 0, 28, []), none, none, some (.ifCond .ne 7, 0, 31, [35]), none, none, some (.sipush (-1001), (-1001), 34, []), none, none, some (.ireturn, 0, 35, []), some (.aload_n 0, 0, 36, []), some (.getfield 99, 0, 39, []), none, none, some (.bipush 6, 6, 41, []), none, some (.if_icmp .ne 7, 0, 44, [48]), none, none, some (.sipush (-1003), (-1003), 47, []), none, none, some (.ireturn, 0, 48, []), some (.aload_n 0, 0, 49, []), some (.getfield 39, 0, 52, []), none, none, some (.aload_n 0, 0, 53, []), some (.getfield 99, 0, 56, []), none, none, some (.iload_n 1, 0, 57, []), some (.iastore, 0, 58, []), some (.aload_n 0, 0, 59, []), some (.getfield 42, 0, 62, []), none, none, some (.aload_n 0, 0, 63, []), some (.getfield 99, 0, 66, []), none, none, some (.iload_n 2, 0, 67, []), some (.iastore, 0, 68, []), some (.aload_n 0, 0, 69, []), some (.getfield 45, 0, 72, []), none, none, some (.aload_n 0, 0, 73, []), some (.getfield 99, 0, 76, []), none, none, some (.iload_n 3, 0, 77, []), some (.iastore, 0, 78, []), some (.aload_n 0, 0, 79, []), some (.dup, 0, 80, []), some (.getfield 99, 0, 83, []), none, none, some (.iconst 1, 1, 84, []), some (.iadd, 0, 85, []), some (.putfield 99, 0, 88, []), none, none, some (.aload_n 0, 0, 89, []), some (.getfield 99, 0, 92, []), none, none, some (.ireturn, 0, 93, [])]
def mX8_saw : zM := (iX8_saw, [(39, 8, 20, (.array .int)), (42, 8, 21, (.array .int)), (45, 8, 22, (.array .int)), (99, 8, 23, .int)], [(99, 8, 23, .int)], [], [], [], [(110, 2, zFV 8 2 (zGoes mX8_isPlace 3 2))], [(54, 3, zFr 3 (zGoes mX8_in 3 3))])
theorem kX8_saw : zchkL cX8_saw 0 iX8_saw = true := by decide +kernel
set_option maxRecDepth 20000 in
theorem gX8_saw : zGood mX8_saw cX8_saw yX8_saw.cls (zwd yX8_saw cX8_saw 4 (zret 1)) := ⟨fun pc x h => by
    have h1 := zchkL_at kX8_saw pc x h
    rw [Nat.zero_add] at h1
    exact h1, zlookF (fin := false) [(39, 8, 20, (.array .int)), (42, 8, 21, (.array .int)), (45, 8, 22, (.array .int)), (99, 8, 23, .int)] (List.forall_mem_cons.mpr ⟨⟨(RX8, TX8, 24), rfl, by decide, List.mem_cons_of_mem _ zw735, fun w h => List.mem_cons_of_mem _ (zX8 w h), by decide +kernel, fun h => by cases h⟩, List.forall_mem_cons.mpr ⟨⟨(RX8, TX8, 24), rfl, by decide, List.mem_cons_of_mem _ zw736, fun w h => List.mem_cons_of_mem _ (zX8 w h), by decide +kernel, fun h => by cases h⟩, List.forall_mem_cons.mpr ⟨⟨(RX8, TX8, 24), rfl, by decide, List.mem_cons_of_mem _ zw737, fun w h => List.mem_cons_of_mem _ (zX8 w h), by decide +kernel, fun h => by cases h⟩, List.forall_mem_cons.mpr ⟨⟨(RX8, TX8, 24), rfl, by decide, List.mem_cons_of_mem _ zw738, fun w h => List.mem_cons_of_mem _ (zX8 w h), by decide +kernel, fun h => by cases h⟩, fun _ h => absurd h List.not_mem_nil⟩⟩⟩⟩), zlookF (fin := true) [(99, 8, 23, .int)] (List.forall_mem_cons.mpr ⟨⟨(RX8, TX8, 24), rfl, by decide, List.mem_cons_of_mem _ zw738, fun w h => List.mem_cons_of_mem _ (zX8 w h), by decide +kernel, fun _ => rfl⟩, fun _ h => absurd h List.not_mem_nil⟩), zlookup (β := Int32) (L := []) (P := fun ix b => Jvm.Cond.constant yX8_saw.cls ix b ∈ (zwd yX8_saw cX8_saw 4 (zret 1))) (fun _ h => absurd h List.not_mem_nil), zlookup (β := Int64) (L := []) (P := fun ix b => Jvm.Cond.constantLong yX8_saw.cls ix b ∈ (zwd yX8_saw cX8_saw 4 (zret 1))) (fun _ h => absurd h List.not_mem_nil), zlookup (β := Nat) (L := []) (P := fun ix b => zmok yX8_saw.cls (zwd yX8_saw cX8_saw 4 (zret 1)) ix b) (fun _ h => absurd h List.not_mem_nil)⟩
set_option maxRecDepth 20000 in
theorem sX8_saw (l : Launch) : ∀ (as : List Value) (ws : zW) (K : zP), zFr 4 (zGoes mX8_saw 1 4) as ws K → zMet l yX8_saw (zwd yX8_saw cX8_saw 4 (zret 1)) { frames := 3, cells := 0, slots := 0, locals := 600 } 1 as ws K := zFr_met (by decide +kernel) (by decide) (by decide) gX8_saw (fun p e s m args below meth c D cy ad A n0 Q S hKK hA => ⟨fun ix n G h => zlookup (β := Nat × zG) (L := [(110, 2, zFV 8 2 (zGoes mX8_isPlace 3 2))]) (P := fun ix b => zCO p l e { frames := 3, cells := 0, slots := 0, locals := 600 } s m args below meth c cX8_saw 4 D cy ad A n0 0 0 Q (.invokevirtual ix) b.1 b.2) (List.forall_mem_cons.mpr ⟨zco_V (ci := 8) S hKK hA ⟨Nat.zero_le _, Nat.zero_le _⟩ (cwV 1 S.2.2.2.2 (zgoodV zw836 zw838 zw37 zw57 zw839) rfl rfl rfl (by decide +kernel) (by decide +kernel)) rfl rfl (sX8_isPlace l), fun _ h => absurd h List.not_mem_nil⟩) ix (n, G) h, fun ix n G h => zlookup (β := Nat × zG) (L := [(54, 3, zFr 3 (zGoes mX8_in 3 3))]) (P := fun ix b => zCO p l e { frames := 3, cells := 0, slots := 0, locals := 600 } s m args below meth c cX8_saw 4 D cy ad A n0 0 0 Q (.invokestatic ix) b.1 b.2) (List.forall_mem_cons.mpr ⟨zco_S S hKK hA ⟨Nat.zero_le _, Nat.zero_le _⟩ (va_cwS 3 S.2.2.2.2 (zgoodS zw794 zw795 zw57 zw796) rfl rfl rfl (by decide +kernel) (by decide +kernel)) (sX8_in l), fun _ h => absurd h List.not_mem_nil⟩) ix (n, G) h⟩) (by decide)
def iX8_forget : List (Option zI) := [some (.aload_n 0, 0, 1, []), some (.getfield 99, 0, 4, []), none, none, some (.istore_n 1, 0, 5, []), some (.aload_n 0, 0, 6, []), some (.iconst 0, 0, 7, []), some (.putfield 99, 0, 10, []), none, none, some (.iload_n 1, 0, 11, []), some (.ireturn, 0, 12, [])]
def mX8_forget : zM := (iX8_forget, [(99, 8, 23, .int)], [(99, 8, 23, .int)], [], [], [], [], [])
theorem kX8_forget : zchkL cX8_forget 0 iX8_forget = true := by decide +kernel
set_option maxRecDepth 20000 in
theorem gX8_forget : zGood mX8_forget cX8_forget yX8_forget.cls (zwd yX8_forget cX8_forget 2 (zret 1)) := ⟨fun pc x h => by
    have h1 := zchkL_at kX8_forget pc x h
    rw [Nat.zero_add] at h1
    exact h1, zlookF (fin := false) [(99, 8, 23, .int)] (List.forall_mem_cons.mpr ⟨⟨(RX8, TX8, 24), rfl, by decide, List.mem_cons_of_mem _ zw738, fun w h => List.mem_cons_of_mem _ (zX8 w h), by decide +kernel, fun h => by cases h⟩, fun _ h => absurd h List.not_mem_nil⟩), zlookF (fin := true) [(99, 8, 23, .int)] (List.forall_mem_cons.mpr ⟨⟨(RX8, TX8, 24), rfl, by decide, List.mem_cons_of_mem _ zw738, fun w h => List.mem_cons_of_mem _ (zX8 w h), by decide +kernel, fun _ => rfl⟩, fun _ h => absurd h List.not_mem_nil⟩), zlookup (β := Int32) (L := []) (P := fun ix b => Jvm.Cond.constant yX8_forget.cls ix b ∈ (zwd yX8_forget cX8_forget 2 (zret 1))) (fun _ h => absurd h List.not_mem_nil), zlookup (β := Int64) (L := []) (P := fun ix b => Jvm.Cond.constantLong yX8_forget.cls ix b ∈ (zwd yX8_forget cX8_forget 2 (zret 1))) (fun _ h => absurd h List.not_mem_nil), zlookup (β := Nat) (L := []) (P := fun ix b => zmok yX8_forget.cls (zwd yX8_forget cX8_forget 2 (zret 1)) ix b) (fun _ h => absurd h List.not_mem_nil)⟩
set_option maxRecDepth 20000 in
theorem sX8_forget (l : Launch) : ∀ (as : List Value) (ws : zW) (K : zP), zFr 1 (zGoes mX8_forget 1 2) as ws K → zMet l yX8_forget (zwd yX8_forget cX8_forget 2 (zret 1)) { frames := 1, cells := 0, slots := 0, locals := 200 } 1 as ws K := zFr_met (by decide +kernel) (by decide) (by decide) gX8_forget (fun p e s m args below meth c D cy ad A n0 Q S hKK hA => ⟨fun ix n G h => zlookup (β := Nat × zG) (L := []) (P := fun ix b => zCO p l e { frames := 1, cells := 0, slots := 0, locals := 200 } s m args below meth c cX8_forget 2 D cy ad A n0 0 0 Q (.invokevirtual ix) b.1 b.2) (fun _ h => absurd h List.not_mem_nil) ix (n, G) h, fun ix n G h => zlookup (β := Nat × zG) (L := []) (P := fun ix b => zCO p l e { frames := 1, cells := 0, slots := 0, locals := 200 } s m args below meth c cX8_forget 2 D cy ad A n0 0 0 Q (.invokestatic ix) b.1 b.2) (fun _ h => absurd h List.not_mem_nil) ix (n, G) h⟩) (by decide)
def iX8_isSo : List (Option zI) := [some (.aload_n 0, 0, 1, []), some (.invokevirtual 142, 0, 4, []), none, none, some (.aload_n 0, 0, 5, []), some (.getfield 33, 0, 8, []), none, none, some (.bipush 7, 7, 10, []), none, some (.iload_n 1, 0, 11, []), some (.iadd, 0, 12, []), some (.aload_n 0, 0, 13, []), some (.getfield 33, 0, 16, []), none, none, some (.bipush 7, 7, 18, []), none, some (.iload_n 1, 0, 19, []), some (.iadd, 0, 20, []), some (.iaload, 0, 21, []), some (.iload_n 2, 0, 22, []), some (.isub, 0, 23, []), some (.invokestatic 117, 0, 26, []), none, none, some (.iastore, 0, 27, []), some (.iconst 1, 1, 28, []), some (.istore_n 3, 0, 29, []), some (.iconst 0, 0, 30, []), some (.istore 4, 0, 32, []), none, some (.iload 4, 0, 34, []), none, some (.bipush 60, 60, 36, []), none, some (.if_icmp .gt 89, 0, 39, [125]), none, none, some (.iload_n 3, 0, 40, []), some (.ifCond .eq 85, 0, 43, [125]), none, none, some (.iconst 0, 0, 44, []), some (.istore 5, 0, 46, []), none, some (.iload 5, 0, 48, []), none, some (.aload_n 0, 0, 49, []), some (.getfield 99, 0, 52, []), none, none, some (.if_icmp .ge 56, 0, 55, [108]), none, none, some (.iload_n 3, 0, 56, []), some (.ifCond .eq 44, 0, 59, [100]), none, none, some (.aload_n 0, 0, 60, []), some (.getfield 42, 0, 63, []), none, none, some (.iload 5, 0, 65, []), none, some (.iaload, 0, 66, []), some (.iload 4, 0, 68, []), none, some (.if_icmp .ne 28, 0, 71, [96]), none, none, some (.aload_n 0, 0, 72, []), some (.getfield 33, 0, 75, []), none, none, some (.bipush 7, 7, 77, []), none, some (.aload_n 0, 0, 78, []), some (.getfield 39, 0, 81, []), none, none, some (.iload 5, 0, 83, []), none, some (.iaload, 0, 84, []), some (.iadd, 0, 85, []), some (.iaload, 0, 86, []), some (.aload_n 0, 0, 87, []), some (.getfield 45, 0, 90, []), none, none, some (.iload 5, 0, 92, []), none, some (.iaload, 0, 93, []), some (.if_icmp .ne 7, 0, 96, [100]), none, none, some (.iconst 1, 1, 97, []), some (.goto 4, 0, 100, [101]), none, none, some (.iconst 0, 0, 101, []), some (.istore_n 3, 0, 102, []), some (.iinc 5 1, 1, 105, []), none, none, some (.goto (-59), 0, 108, [46]), none, none, some (.aload_n 0, 0, 109, []), some (.aload_n 0, 0, 110, []), some (.getfield 33, 0, 113, []), none, none, some (.sipush (-1009), (-1009), 116, []), none, none, some (.invokevirtual 135, 0, 119, []), none, none, some (.iinc 4 1, 1, 122, []), none, none, some (.goto (-90), 0, 125, [32]), none, none, some (.iload_n 3, 0, 126, []), some (.ireturn, 0, 127, [])]
def mX8_isSo : zM := (iX8_isSo, [(33, 8, 15, (.array .int)), (39, 8, 20, (.array .int)), (42, 8, 21, (.array .int)), (45, 8, 22, (.array .int)), (99, 8, 23, .int)], [], [], [], [], [(135, 3, zFV 8 3 (zGoes mX8_pace 0 10)), (142, 1, zFV 8 1 (zGoes mX8_take 0 2))], [(117, 1, zFr 1 (zGoes mX8_held 1 1))])
theorem kX8_isSo : zchkL cX8_isSo 0 iX8_isSo = true := by decide +kernel
set_option maxRecDepth 20000 in
theorem gX8_isSo : zGood mX8_isSo cX8_isSo yX8_isSo.cls (zwd yX8_isSo cX8_isSo 6 (zret 3)) := ⟨fun pc x h => by
    have h1 := zchkL_at kX8_isSo pc x h
    rw [Nat.zero_add] at h1
    exact h1, zlookF (fin := false) [(33, 8, 15, (.array .int)), (39, 8, 20, (.array .int)), (42, 8, 21, (.array .int)), (45, 8, 22, (.array .int)), (99, 8, 23, .int)] (List.forall_mem_cons.mpr ⟨⟨(RX8, TX8, 24), rfl, by decide, List.mem_cons_of_mem _ zw730, fun w h => List.mem_cons_of_mem _ (zX8 w h), by decide +kernel, fun h => by cases h⟩, List.forall_mem_cons.mpr ⟨⟨(RX8, TX8, 24), rfl, by decide, List.mem_cons_of_mem _ zw735, fun w h => List.mem_cons_of_mem _ (zX8 w h), by decide +kernel, fun h => by cases h⟩, List.forall_mem_cons.mpr ⟨⟨(RX8, TX8, 24), rfl, by decide, List.mem_cons_of_mem _ zw736, fun w h => List.mem_cons_of_mem _ (zX8 w h), by decide +kernel, fun h => by cases h⟩, List.forall_mem_cons.mpr ⟨⟨(RX8, TX8, 24), rfl, by decide, List.mem_cons_of_mem _ zw737, fun w h => List.mem_cons_of_mem _ (zX8 w h), by decide +kernel, fun h => by cases h⟩, List.forall_mem_cons.mpr ⟨⟨(RX8, TX8, 24), rfl, by decide, List.mem_cons_of_mem _ zw738, fun w h => List.mem_cons_of_mem _ (zX8 w h), by decide +kernel, fun h => by cases h⟩, fun _ h => absurd h List.not_mem_nil⟩⟩⟩⟩⟩), zlookF (fin := true) [] (fun _ h => absurd h List.not_mem_nil), zlookup (β := Int32) (L := []) (P := fun ix b => Jvm.Cond.constant yX8_isSo.cls ix b ∈ (zwd yX8_isSo cX8_isSo 6 (zret 3))) (fun _ h => absurd h List.not_mem_nil), zlookup (β := Int64) (L := []) (P := fun ix b => Jvm.Cond.constantLong yX8_isSo.cls ix b ∈ (zwd yX8_isSo cX8_isSo 6 (zret 3))) (fun _ h => absurd h List.not_mem_nil), zlookup (β := Nat) (L := []) (P := fun ix b => zmok yX8_isSo.cls (zwd yX8_isSo cX8_isSo 6 (zret 3)) ix b) (fun _ h => absurd h List.not_mem_nil)⟩
set_option maxRecDepth 20000 in
theorem sX8_isSo (l : Launch) : ∀ (as : List Value) (ws : zW) (K : zP), zFr 3 (zGoes mX8_isSo 3 6) as ws K → zMet l yX8_isSo (zwd yX8_isSo cX8_isSo 6 (zret 3)) { frames := 3, cells := 0, slots := 0, locals := 600 } 3 as ws K := zFr_met (by decide +kernel) (by decide) (by decide) gX8_isSo (fun p e s m args below meth c D cy ad A n0 Q S hKK hA => ⟨fun ix n G h => zlookup (β := Nat × zG) (L := [(135, 3, zFV 8 3 (zGoes mX8_pace 0 10)), (142, 1, zFV 8 1 (zGoes mX8_take 0 2))]) (P := fun ix b => zCO p l e { frames := 3, cells := 0, slots := 0, locals := 600 } s m args below meth c cX8_isSo 6 D cy ad A n0 0 0 Q (.invokevirtual ix) b.1 b.2) (List.forall_mem_cons.mpr ⟨zco_V (ci := 8) S hKK hA ⟨Nat.zero_le _, Nat.zero_le _⟩ (cwV 2 S.2.2.2.2 (zgoodV zw855 zw857 zw39 zw57 zw858) rfl rfl rfl (by decide +kernel) (by decide +kernel)) rfl rfl (sX8_pace l), List.forall_mem_cons.mpr ⟨zco_V (ci := 8) S hKK hA ⟨Nat.zero_le _, Nat.zero_le _⟩ (cwV 0 S.2.2.2.2 (zgoodV zw913 zw915 zw44 zw57 zw916) rfl rfl rfl (by decide +kernel) (by decide +kernel)) rfl rfl (sX8_take l), fun _ h => absurd h List.not_mem_nil⟩⟩) ix (n, G) h, fun ix n G h => zlookup (β := Nat × zG) (L := [(117, 1, zFr 1 (zGoes mX8_held 1 1))]) (P := fun ix b => zCO p l e { frames := 3, cells := 0, slots := 0, locals := 600 } s m args below meth c cX8_isSo 6 D cy ad A n0 0 0 Q (.invokestatic ix) b.1 b.2) (List.forall_mem_cons.mpr ⟨zco_S S hKK hA ⟨Nat.zero_le _, Nat.zero_le _⟩ (va_cwS 1 S.2.2.2.2 (zgoodS zw859 zw860 zw57 zw861) rfl rfl rfl (by decide +kernel) (by decide +kernel)) (sX8_held l), fun _ h => absurd h List.not_mem_nil⟩) ix (n, G) h⟩) (by decide)
def iX8_whose : List (Option zI) := [some (.iload_n 1, 0, 1, []), some (.iconst 0, 0, 2, []), some (.iconst 2, 2, 3, []), some (.invokestatic 54, 0, 6, []), none, none, some (.ifCond .ne 7, 0, 9, [13]), none, none, some (.sipush (-1001), (-1001), 12, []), none, none, some (.ireturn, 0, 13, []), some (.iconst 0, 0, 14, []), some (.istore_n 2, 0, 15, []), some (.sipush (-1009), (-1009), 18, []), none, none, some (.istore_n 3, 0, 19, []), some (.iconst 0, 0, 20, []), some (.istore 4, 0, 22, []), none, some (.iconst 0, 0, 23, []), some (.istore 5, 0, 25, []), none, some (.iload 5, 0, 27, []), none, some (.aload_n 0, 0, 28, []), some (.getfield 13, 0, 31, []), none, none, some (.iconst 0, 0, 32, []), some (.iaload, 0, 33, []), some (.if_icmp .ge 65, 0, 36, [98]), none, none, some (.iconst 1, 1, 37, []), some (.istore 6, 0, 39, []), none, some (.iload 6, 0, 41, []), none, some (.bipush 40, 40, 43, []), none, some (.if_icmp .gt 49, 0, 46, [92]), none, none, some (.aload_n 0, 0, 47, []), some (.iload 5, 0, 49, []), none, some (.iload 6, 0, 51, []), none, some (.invokevirtual 164, 0, 54, []), none, none, some (.ifCond .eq 32, 0, 57, [86]), none, none, some (.iload_n 2, 0, 58, []), some (.ifCond .ne 14, 0, 61, [72]), none, none, some (.bipush 100, 100, 63, []), none, some (.iload 5, 0, 65, []), none, some (.imul, 0, 66, []), some (.iload 6, 0, 68, []), none, some (.iadd, 0, 69, []), some (.goto 4, 0, 72, [73]), none, none, some (.iload_n 3, 0, 73, []), some (.istore_n 3, 0, 74, []), some (.iload 4, 0, 76, []), none, some (.iconst 1, 1, 77, []), some (.iload 5, 0, 79, []), none, some (.ishl, 0, 80, []), some (.ior, 0, 81, []), some (.istore 4, 0, 83, []), none, some (.iinc 2 1, 1, 86, []), none, none, some (.iinc 6 1, 1, 89, []), none, none, some (.goto (-50), 0, 92, [39]), none, none, some (.iinc 5 1, 1, 95, []), none, none, some (.goto (-70), 0, 98, [25]), none, none, some (.iload_n 1, 0, 99, []), some (.ifCond .ne 7, 0, 102, [106]), none, none, some (.iload_n 2, 0, 103, []), some (.goto 14, 0, 106, [117]), none, none, some (.iload_n 1, 0, 107, []), some (.iconst 1, 1, 108, []), some (.if_icmp .ne 7, 0, 111, [115]), none, none, some (.iload_n 3, 0, 112, []), some (.goto 5, 0, 115, [117]), none, none, some (.iload 4, 0, 117, []), none, some (.ireturn, 0, 118, [])]
def mX8_whose : zM := (iX8_whose, [(13, 8, 3, (.array .int))], [], [], [], [], [(164, 3, zFV 8 3 (zGoes mX8_isSo 3 6))], [(54, 3, zFr 3 (zGoes mX8_in 3 3))])
theorem kX8_whose : zchkL cX8_whose 0 iX8_whose = true := by decide +kernel
set_option maxRecDepth 20000 in
theorem gX8_whose : zGood mX8_whose cX8_whose yX8_whose.cls (zwd yX8_whose cX8_whose 7 (zret 1)) := ⟨fun pc x h => by
    have h1 := zchkL_at kX8_whose pc x h
    rw [Nat.zero_add] at h1
    exact h1, zlookF (fin := false) [(13, 8, 3, (.array .int))] (List.forall_mem_cons.mpr ⟨⟨(RX8, TX8, 24), rfl, by decide, List.mem_cons_of_mem _ zw718, fun w h => List.mem_cons_of_mem _ (zX8 w h), by decide +kernel, fun h => by cases h⟩, fun _ h => absurd h List.not_mem_nil⟩), zlookF (fin := true) [] (fun _ h => absurd h List.not_mem_nil), zlookup (β := Int32) (L := []) (P := fun ix b => Jvm.Cond.constant yX8_whose.cls ix b ∈ (zwd yX8_whose cX8_whose 7 (zret 1))) (fun _ h => absurd h List.not_mem_nil), zlookup (β := Int64) (L := []) (P := fun ix b => Jvm.Cond.constantLong yX8_whose.cls ix b ∈ (zwd yX8_whose cX8_whose 7 (zret 1))) (fun _ h => absurd h List.not_mem_nil), zlookup (β := Nat) (L := []) (P := fun ix b => zmok yX8_whose.cls (zwd yX8_whose cX8_whose 7 (zret 1)) ix b) (fun _ h => absurd h List.not_mem_nil)⟩
set_option maxRecDepth 20000 in
theorem sX8_whose (l : Launch) : ∀ (as : List Value) (ws : zW) (K : zP), zFr 2 (zGoes mX8_whose 1 7) as ws K → zMet l yX8_whose (zwd yX8_whose cX8_whose 7 (zret 1)) { frames := 4, cells := 0, slots := 0, locals := 800 } 1 as ws K := zFr_met (by decide +kernel) (by decide) (by decide) gX8_whose (fun p e s m args below meth c D cy ad A n0 Q S hKK hA => ⟨fun ix n G h => zlookup (β := Nat × zG) (L := [(164, 3, zFV 8 3 (zGoes mX8_isSo 3 6))]) (P := fun ix b => zCO p l e { frames := 4, cells := 0, slots := 0, locals := 800 } s m args below meth c cX8_whose 7 D cy ad A n0 0 0 Q (.invokevirtual ix) b.1 b.2) (List.forall_mem_cons.mpr ⟨zco_V (ci := 8) S hKK hA ⟨Nat.zero_le _, Nat.zero_le _⟩ (cwV 2 S.2.2.2.2 (zgoodV zw969 zw971 zw47 zw57 zw972) rfl rfl rfl (by decide +kernel) (by decide +kernel)) rfl rfl (sX8_isSo l), fun _ h => absurd h List.not_mem_nil⟩) ix (n, G) h, fun ix n G h => zlookup (β := Nat × zG) (L := [(54, 3, zFr 3 (zGoes mX8_in 3 3))]) (P := fun ix b => zCO p l e { frames := 4, cells := 0, slots := 0, locals := 800 } s m args below meth c cX8_whose 7 D cy ad A n0 0 0 Q (.invokestatic ix) b.1 b.2) (List.forall_mem_cons.mpr ⟨zco_S S hKK hA ⟨Nat.zero_le _, Nat.zero_le _⟩ (va_cwS 3 S.2.2.2.2 (zgoodS zw794 zw795 zw57 zw796) rfl rfl rfl (by decide +kernel) (by decide +kernel)) (sX8_in l), fun _ h => absurd h List.not_mem_nil⟩) ix (n, G) h⟩) (by decide)
def iX8_rate : List (Option zI) := [some (.iload_n 1, 0, 1, []), some (.iconst 0, 0, 2, []), some (.iconst 5, 5, 3, []), some (.invokestatic 54, 0, 6, []), none, none, some (.ifCond .eq 11, 0, 9, [17]), none, none, some (.aload_n 0, 0, 10, []), some (.iload_n 2, 0, 11, []), some (.invokevirtual 110, 0, 14, []), none, none, some (.ifCond .ne 6, 0, 17, [20]), none, none, some (.ldc 168, 0, 19, []), none, some (.ireturn, 0, 20, []), some (.aload_n 0, 0, 21, []), some (.getfield 26, 0, 24, []), none, none, some (.iload_n 2, 0, 25, []), some (.aload_n 0, 0, 26, []), some (.getfield 13, 0, 29, []), none, none, some (.iconst 0, 0, 30, []), some (.iaload, 0, 31, []), some (.invokestatic 113, 0, 34, []), none, none, some (.istore_n 3, 0, 35, []), some (.aload_n 0, 0, 36, []), some (.getfield 17, 0, 39, []), none, none, some (.aload_n 0, 0, 40, []), some (.getfield 26, 0, 43, []), none, none, some (.iconst 0, 0, 44, []), some (.iload_n 2, 0, 45, []), some (.iadd, 0, 46, []), some (.iaload, 0, 47, []), some (.iaload, 0, 48, []), some (.istore 4, 0, 50, []), none, some (.aload_n 0, 0, 51, []), some (.getfield 26, 0, 54, []), none, none, some (.bipush 7, 7, 56, []), none, some (.iload_n 2, 0, 57, []), some (.iadd, 0, 58, []), some (.iaload, 0, 59, []), some (.istore 5, 0, 61, []), none, some (.iload_n 1, 0, 62, []), some (.tableswitch 125 0 4 #[34, 46, 63, 80, 99], 0, 96, [187, 96, 108, 125, 142, 161]), none, none, none, none, none, none, none, none, none, none, none, none, none, none, none, none, none, none, none, none, none, none, none, none, none, none, none, none, none, none, none, none, none, some (.aload_n 0, 0, 97, []), some (.dup, 0, 98, []), some (.getfield 169, 0, 101, []), none, none, some (.lconst 1, 0, 102, []), some (.ladd, 0, 103, []), some (.putfield 169, 0, 106, []), none, none, some (.iload_n 3, 0, 107, []), some (.ireturn, 0, 108, []), some (.aload_n 0, 0, 109, []), some (.dup, 0, 110, []), some (.getfield 169, 0, 113, []), none, none, some (.ldc2_w 173, 0, 116, []), none, none, some (.ladd, 0, 117, []), some (.putfield 169, 0, 120, []), none, none, some (.iload_n 3, 0, 121, []), some (.iload 4, 0, 123, []), none, some (.iadd, 0, 124, []), some (.ireturn, 0, 125, []), some (.aload_n 0, 0, 126, []), some (.dup, 0, 127, []), some (.getfield 169, 0, 130, []), none, none, some (.ldc2_w 175, 0, 133, []), none, none, some (.ladd, 0, 134, []), some (.putfield 169, 0, 137, []), none, none, some (.iload_n 3, 0, 138, []), some (.iload 5, 0, 140, []), none, some (.isub, 0, 141, []), some (.ireturn, 0, 142, []), some (.aload_n 0, 0, 143, []), some (.dup, 0, 144, []), some (.getfield 169, 0, 147, []), none, none, some (.ldc2_w 177, 0, 150, []), none, none, some (.ladd, 0, 151, []), some (.putfield 169, 0, 154, []), none, none, some (.iconst 2, 2, 155, []), some (.iload_n 3, 0, 156, []), some (.iload 4, 0, 158, []), none, some (.iadd, 0, 159, []), some (.imul, 0, 160, []), some (.ireturn, 0, 161, []), some (.aload_n 0, 0, 162, []), some (.dup, 0, 163, []), some (.getfield 169, 0, 166, []), none, none, some (.ldc2_w 179, 0, 169, []), none, none, some (.ladd, 0, 170, []), some (.putfield 169, 0, 173, []), none, none, some (.iload_n 3, 0, 174, []), some (.iload 5, 0, 176, []), none, some (.isub, 0, 177, []), some (.aload_n 0, 0, 178, []), some (.aload_n 0, 0, 179, []), some (.getfield 26, 0, 182, []), none, none, some (.invokevirtual 128, 0, 185, []), none, none, some (.iadd, 0, 186, []), some (.ireturn, 0, 187, []), some (.aload_n 0, 0, 188, []), some (.dup, 0, 189, []), some (.getfield 169, 0, 192, []), none, none, some (.ldc2_w 181, 0, 195, []), none, none, some (.ladd, 0, 196, []), some (.putfield 169, 0, 199, []), none, none, some (.iload_n 3, 0, 200, []), some (.bipush 9, 9, 202, []), none, some (.aload_n 0, 0, 203, []), some (.getfield 26, 0, 206, []), none, none, some (.bipush 14, 14, 208, []), none, some (.iload_n 2, 0, 209, []), some (.iadd, 0, 210, []), some (.iaload, 0, 211, []), some (.imul, 0, 212, []), some (.iadd, 0, 213, []), some (.ireturn, 0, 214, [])]
def mX8_rate : zM := (iX8_rate, [(13, 8, 3, (.array .int)), (17, 8, 4, (.array .int)), (26, 8, 13, (.array .int)), (169, 8, 0, .long)], [(169, 8, 0, .long)], [(168, (-1000000))], [(173, 11), (175, 101), (177, 1011), (179, 10101), (181, 100001)], [], [(110, 2, zFV 8 2 (zGoes mX8_isPlace 3 2)), (128, 2, zFV 8 2 (zGoes mX8_bulge 1 4))], [(54, 3, zFr 3 (zGoes mX8_in 3 3)), (113, 3, zFr 3 (zGoes mX8_wants 1 3))])
theorem kX8_rate : zchkL cX8_rate 0 iX8_rate = true := by decide +kernel
set_option maxRecDepth 20000 in
theorem gX8_rate : zGood mX8_rate cX8_rate yX8_rate.cls (zwd yX8_rate cX8_rate 6 (zret 1)) := ⟨fun pc x h => by
    have h1 := zchkL_at kX8_rate pc x h
    rw [Nat.zero_add] at h1
    exact h1, zlookF (fin := false) [(13, 8, 3, (.array .int)), (17, 8, 4, (.array .int)), (26, 8, 13, (.array .int)), (169, 8, 0, .long)] (List.forall_mem_cons.mpr ⟨⟨(RX8, TX8, 24), rfl, by decide, List.mem_cons_of_mem _ zw718, fun w h => List.mem_cons_of_mem _ (zX8 w h), by decide +kernel, fun h => by cases h⟩, List.forall_mem_cons.mpr ⟨⟨(RX8, TX8, 24), rfl, by decide, List.mem_cons_of_mem _ zw719, fun w h => List.mem_cons_of_mem _ (zX8 w h), by decide +kernel, fun h => by cases h⟩, List.forall_mem_cons.mpr ⟨⟨(RX8, TX8, 24), rfl, by decide, List.mem_cons_of_mem _ zw728, fun w h => List.mem_cons_of_mem _ (zX8 w h), by decide +kernel, fun h => by cases h⟩, List.forall_mem_cons.mpr ⟨⟨(RX8, TX8, 24), rfl, by decide, List.mem_cons_of_mem _ zw715, fun w h => List.mem_cons_of_mem _ (zX8 w h), by decide +kernel, fun h => by cases h⟩, fun _ h => absurd h List.not_mem_nil⟩⟩⟩⟩), zlookF (fin := true) [(169, 8, 0, .long)] (List.forall_mem_cons.mpr ⟨⟨(RX8, TX8, 24), rfl, by decide, List.mem_cons_of_mem _ zw715, fun w h => List.mem_cons_of_mem _ (zX8 w h), by decide +kernel, fun _ => rfl⟩, fun _ h => absurd h List.not_mem_nil⟩), zlookup (β := Int32) (L := [(168, (-1000000))]) (P := fun ix b => Jvm.Cond.constant yX8_rate.cls ix b ∈ (zwd yX8_rate cX8_rate 6 (zret 1))) (List.forall_mem_cons.mpr ⟨List.mem_cons_of_mem _ zw977, fun _ h => absurd h List.not_mem_nil⟩), zlookup (β := Int64) (L := [(173, 11), (175, 101), (177, 1011), (179, 10101), (181, 100001)]) (P := fun ix b => Jvm.Cond.constantLong yX8_rate.cls ix b ∈ (zwd yX8_rate cX8_rate 6 (zret 1))) (List.forall_mem_cons.mpr ⟨List.mem_cons_of_mem _ zw978, List.forall_mem_cons.mpr ⟨List.mem_cons_of_mem _ zw979, List.forall_mem_cons.mpr ⟨List.mem_cons_of_mem _ zw980, List.forall_mem_cons.mpr ⟨List.mem_cons_of_mem _ zw981, List.forall_mem_cons.mpr ⟨List.mem_cons_of_mem _ zw982, fun _ h => absurd h List.not_mem_nil⟩⟩⟩⟩⟩), zlookup (β := Nat) (L := []) (P := fun ix b => zmok yX8_rate.cls (zwd yX8_rate cX8_rate 6 (zret 1)) ix b) (fun _ h => absurd h List.not_mem_nil)⟩
set_option maxRecDepth 20000 in
theorem sX8_rate (l : Launch) : ∀ (as : List Value) (ws : zW) (K : zP), zFr 3 (zGoes mX8_rate 1 6) as ws K → zMet l yX8_rate (zwd yX8_rate cX8_rate 6 (zret 1)) { frames := 3, cells := 0, slots := 0, locals := 600 } 1 as ws K := zFr_met (by decide +kernel) (by decide) (by decide) gX8_rate (fun p e s m args below meth c D cy ad A n0 Q S hKK hA => ⟨fun ix n G h => zlookup (β := Nat × zG) (L := [(110, 2, zFV 8 2 (zGoes mX8_isPlace 3 2)), (128, 2, zFV 8 2 (zGoes mX8_bulge 1 4))]) (P := fun ix b => zCO p l e { frames := 3, cells := 0, slots := 0, locals := 600 } s m args below meth c cX8_rate 6 D cy ad A n0 0 0 Q (.invokevirtual ix) b.1 b.2) (List.forall_mem_cons.mpr ⟨zco_V (ci := 8) S hKK hA ⟨Nat.zero_le _, Nat.zero_le _⟩ (cwV 1 S.2.2.2.2 (zgoodV zw836 zw838 zw37 zw57 zw839) rfl rfl rfl (by decide +kernel) (by decide +kernel)) rfl rfl (sX8_isPlace l), List.forall_mem_cons.mpr ⟨zco_V (ci := 8) S hKK hA ⟨Nat.zero_le _, Nat.zero_le _⟩ (cwV 1 S.2.2.2.2 (zgoodV zw866 zw868 zw41 zw57 zw869) rfl rfl rfl (by decide +kernel) (by decide +kernel)) rfl rfl (sX8_bulge l), fun _ h => absurd h List.not_mem_nil⟩⟩) ix (n, G) h, fun ix n G h => zlookup (β := Nat × zG) (L := [(54, 3, zFr 3 (zGoes mX8_in 3 3)), (113, 3, zFr 3 (zGoes mX8_wants 1 3))]) (P := fun ix b => zCO p l e { frames := 3, cells := 0, slots := 0, locals := 600 } s m args below meth c cX8_rate 6 D cy ad A n0 0 0 Q (.invokestatic ix) b.1 b.2) (List.forall_mem_cons.mpr ⟨zco_S S hKK hA ⟨Nat.zero_le _, Nat.zero_le _⟩ (va_cwS 3 S.2.2.2.2 (zgoodS zw794 zw795 zw57 zw796) rfl rfl rfl (by decide +kernel) (by decide +kernel)) (sX8_in l), List.forall_mem_cons.mpr ⟨zco_S S hKK hA ⟨Nat.zero_le _, Nat.zero_le _⟩ (va_cwS 3 S.2.2.2.2 (zgoodS zw844 zw845 zw57 zw846) rfl rfl rfl (by decide +kernel) (by decide +kernel)) (sX8_wants l), fun _ h => absurd h List.not_mem_nil⟩⟩) ix (n, G) h⟩) (by decide)
def iX8_keep : List (Option zI) := [some (.iload_n 1, 0, 1, []), some (.iconst 0, 0, 2, []), some (.iconst 1, 1, 3, []), some (.invokestatic 54, 0, 6, []), none, none, some (.ifCond .ne 7, 0, 9, [13]), none, none, some (.sipush (-1001), (-1001), 12, []), none, none, some (.ireturn, 0, 13, []), some (.iconst 0, 0, 14, []), some (.istore_n 2, 0, 15, []), some (.iload_n 2, 0, 16, []), some (.sipush 276, 276, 19, []), none, none, some (.if_icmp .ge 29, 0, 22, [48]), none, none, some (.aload_n 0, 0, 23, []), some (.getfield 26, 0, 26, []), none, none, some (.sipush 276, 276, 29, []), none, none, some (.iconst 1, 1, 30, []), some (.iload_n 1, 0, 31, []), some (.iadd, 0, 32, []), some (.imul, 0, 33, []), some (.iload_n 2, 0, 34, []), some (.iadd, 0, 35, []), some (.aload_n 0, 0, 36, []), some (.getfield 26, 0, 39, []), none, none, some (.iload_n 2, 0, 40, []), some (.iaload, 0, 41, []), some (.iastore, 0, 42, []), some (.iinc 2 1, 1, 45, []), none, none, some (.goto (-30), 0, 48, [15]), none, none, some (.aload_n 0, 0, 49, []), some (.getfield 29, 0, 52, []), none, none, some (.iload_n 1, 0, 53, []), some (.iconst 1, 1, 54, []), some (.bastore, 0, 55, []), some (.aload_n 0, 0, 56, []), some (.getfield 26, 0, 59, []), none, none, some (.bipush 24, 24, 61, []), none, some (.iaload, 0, 62, []), some (.ireturn, 0, 63, [])]
def mX8_keep : zM := (iX8_keep, [(26, 8, 13, (.array .int)), (29, 8, 14, (.array .boolean))], [], [], [], [], [], [(54, 3, zFr 3 (zGoes mX8_in 3 3))])
theorem kX8_keep : zchkL cX8_keep 0 iX8_keep = true := by decide +kernel
set_option maxRecDepth 20000 in
theorem gX8_keep : zGood mX8_keep cX8_keep yX8_keep.cls (zwd yX8_keep cX8_keep 3 (zret 1)) := ⟨fun pc x h => by
    have h1 := zchkL_at kX8_keep pc x h
    rw [Nat.zero_add] at h1
    exact h1, zlookF (fin := false) [(26, 8, 13, (.array .int)), (29, 8, 14, (.array .boolean))] (List.forall_mem_cons.mpr ⟨⟨(RX8, TX8, 24), rfl, by decide, List.mem_cons_of_mem _ zw728, fun w h => List.mem_cons_of_mem _ (zX8 w h), by decide +kernel, fun h => by cases h⟩, List.forall_mem_cons.mpr ⟨⟨(RX8, TX8, 24), rfl, by decide, List.mem_cons_of_mem _ zw729, fun w h => List.mem_cons_of_mem _ (zX8 w h), by decide +kernel, fun h => by cases h⟩, fun _ h => absurd h List.not_mem_nil⟩⟩), zlookF (fin := true) [] (fun _ h => absurd h List.not_mem_nil), zlookup (β := Int32) (L := []) (P := fun ix b => Jvm.Cond.constant yX8_keep.cls ix b ∈ (zwd yX8_keep cX8_keep 3 (zret 1))) (fun _ h => absurd h List.not_mem_nil), zlookup (β := Int64) (L := []) (P := fun ix b => Jvm.Cond.constantLong yX8_keep.cls ix b ∈ (zwd yX8_keep cX8_keep 3 (zret 1))) (fun _ h => absurd h List.not_mem_nil), zlookup (β := Nat) (L := []) (P := fun ix b => zmok yX8_keep.cls (zwd yX8_keep cX8_keep 3 (zret 1)) ix b) (fun _ h => absurd h List.not_mem_nil)⟩
set_option maxRecDepth 20000 in
theorem sX8_keep (l : Launch) : ∀ (as : List Value) (ws : zW) (K : zP), zFr 2 (zGoes mX8_keep 1 3) as ws K → zMet l yX8_keep (zwd yX8_keep cX8_keep 3 (zret 1)) { frames := 2, cells := 0, slots := 0, locals := 400 } 1 as ws K := zFr_met (by decide +kernel) (by decide) (by decide) gX8_keep (fun p e s m args below meth c D cy ad A n0 Q S hKK hA => ⟨fun ix n G h => zlookup (β := Nat × zG) (L := []) (P := fun ix b => zCO p l e { frames := 2, cells := 0, slots := 0, locals := 400 } s m args below meth c cX8_keep 3 D cy ad A n0 0 0 Q (.invokevirtual ix) b.1 b.2) (fun _ h => absurd h List.not_mem_nil) ix (n, G) h, fun ix n G h => zlookup (β := Nat × zG) (L := [(54, 3, zFr 3 (zGoes mX8_in 3 3))]) (P := fun ix b => zCO p l e { frames := 2, cells := 0, slots := 0, locals := 400 } s m args below meth c cX8_keep 3 D cy ad A n0 0 0 Q (.invokestatic ix) b.1 b.2) (List.forall_mem_cons.mpr ⟨zco_S S hKK hA ⟨Nat.zero_le _, Nat.zero_le _⟩ (va_cwS 3 S.2.2.2.2 (zgoodS zw794 zw795 zw57 zw796) rfl rfl rfl (by decide +kernel) (by decide +kernel)) (sX8_in l), fun _ h => absurd h List.not_mem_nil⟩) ix (n, G) h⟩) (by decide)
def iX8_back : List (Option zI) := [some (.iload_n 1, 0, 1, []), some (.iconst 0, 0, 2, []), some (.iconst 1, 1, 3, []), some (.invokestatic 54, 0, 6, []), none, none, some (.ifCond .ne 7, 0, 9, [13]), none, none, some (.sipush (-1001), (-1001), 12, []), none, none, some (.ireturn, 0, 13, []), some (.aload_n 0, 0, 14, []), some (.getfield 29, 0, 17, []), none, none, some (.iload_n 1, 0, 18, []), some (.baload, 0, 19, []), some (.ifCond .ne 7, 0, 22, [26]), none, none, some (.sipush (-1002), (-1002), 25, []), none, none, some (.ireturn, 0, 26, []), some (.iconst 0, 0, 27, []), some (.istore_n 2, 0, 28, []), some (.iload_n 2, 0, 29, []), some (.sipush 276, 276, 32, []), none, none, some (.if_icmp .ge 29, 0, 35, [61]), none, none, some (.aload_n 0, 0, 36, []), some (.getfield 26, 0, 39, []), none, none, some (.iload_n 2, 0, 40, []), some (.aload_n 0, 0, 41, []), some (.getfield 26, 0, 44, []), none, none, some (.sipush 276, 276, 47, []), none, none, some (.iconst 1, 1, 48, []), some (.iload_n 1, 0, 49, []), some (.iadd, 0, 50, []), some (.imul, 0, 51, []), some (.iload_n 2, 0, 52, []), some (.iadd, 0, 53, []), some (.iaload, 0, 54, []), some (.iastore, 0, 55, []), some (.iinc 2 1, 1, 58, []), none, none, some (.goto (-30), 0, 61, [28]), none, none, some (.aload_n 0, 0, 62, []), some (.getfield 26, 0, 65, []), none, none, some (.bipush 24, 24, 67, []), none, some (.iaload, 0, 68, []), some (.ireturn, 0, 69, [])]
def mX8_back : zM := (iX8_back, [(26, 8, 13, (.array .int)), (29, 8, 14, (.array .boolean))], [], [], [], [], [], [(54, 3, zFr 3 (zGoes mX8_in 3 3))])
theorem kX8_back : zchkL cX8_back 0 iX8_back = true := by decide +kernel
set_option maxRecDepth 20000 in
theorem gX8_back : zGood mX8_back cX8_back yX8_back.cls (zwd yX8_back cX8_back 3 (zret 1)) := ⟨fun pc x h => by
    have h1 := zchkL_at kX8_back pc x h
    rw [Nat.zero_add] at h1
    exact h1, zlookF (fin := false) [(26, 8, 13, (.array .int)), (29, 8, 14, (.array .boolean))] (List.forall_mem_cons.mpr ⟨⟨(RX8, TX8, 24), rfl, by decide, List.mem_cons_of_mem _ zw728, fun w h => List.mem_cons_of_mem _ (zX8 w h), by decide +kernel, fun h => by cases h⟩, List.forall_mem_cons.mpr ⟨⟨(RX8, TX8, 24), rfl, by decide, List.mem_cons_of_mem _ zw729, fun w h => List.mem_cons_of_mem _ (zX8 w h), by decide +kernel, fun h => by cases h⟩, fun _ h => absurd h List.not_mem_nil⟩⟩), zlookF (fin := true) [] (fun _ h => absurd h List.not_mem_nil), zlookup (β := Int32) (L := []) (P := fun ix b => Jvm.Cond.constant yX8_back.cls ix b ∈ (zwd yX8_back cX8_back 3 (zret 1))) (fun _ h => absurd h List.not_mem_nil), zlookup (β := Int64) (L := []) (P := fun ix b => Jvm.Cond.constantLong yX8_back.cls ix b ∈ (zwd yX8_back cX8_back 3 (zret 1))) (fun _ h => absurd h List.not_mem_nil), zlookup (β := Nat) (L := []) (P := fun ix b => zmok yX8_back.cls (zwd yX8_back cX8_back 3 (zret 1)) ix b) (fun _ h => absurd h List.not_mem_nil)⟩
set_option maxRecDepth 20000 in
theorem sX8_back (l : Launch) : ∀ (as : List Value) (ws : zW) (K : zP), zFr 2 (zGoes mX8_back 1 3) as ws K → zMet l yX8_back (zwd yX8_back cX8_back 3 (zret 1)) { frames := 2, cells := 0, slots := 0, locals := 400 } 1 as ws K := zFr_met (by decide +kernel) (by decide) (by decide) gX8_back (fun p e s m args below meth c D cy ad A n0 Q S hKK hA => ⟨fun ix n G h => zlookup (β := Nat × zG) (L := []) (P := fun ix b => zCO p l e { frames := 2, cells := 0, slots := 0, locals := 400 } s m args below meth c cX8_back 3 D cy ad A n0 0 0 Q (.invokevirtual ix) b.1 b.2) (fun _ h => absurd h List.not_mem_nil) ix (n, G) h, fun ix n G h => zlookup (β := Nat × zG) (L := [(54, 3, zFr 3 (zGoes mX8_in 3 3))]) (P := fun ix b => zCO p l e { frames := 2, cells := 0, slots := 0, locals := 400 } s m args below meth c cX8_back 3 D cy ad A n0 0 0 Q (.invokestatic ix) b.1 b.2) (List.forall_mem_cons.mpr ⟨zco_S S hKK hA ⟨Nat.zero_le _, Nat.zero_le _⟩ (va_cwS 3 S.2.2.2.2 (zgoodS zw794 zw795 zw57 zw796) rfl rfl rfl (by decide +kernel) (by decide +kernel)) (sX8_in l), fun _ h => absurd h List.not_mem_nil⟩) ix (n, G) h⟩) (by decide)
end
section
def iX8_count : List (Option zI) := [some (.iload_n 1, 0, 1, []), some (.tableswitch 56 0 3 #[31, 38, 43, 51], 0, 32, [57, 32, 39, 44, 52]), none, none, none, none, none, none, none, none, none, none, none, none, none, none, none, none, none, none, none, none, none, none, none, none, none, none, none, none, none, none, some (.aload_n 0, 0, 33, []), some (.getfield 13, 0, 36, []), none, none, some (.iconst 0, 0, 37, []), some (.iaload, 0, 38, []), some (.ireturn, 0, 39, []), some (.aload_n 0, 0, 40, []), some (.getfield 99, 0, 43, []), none, none, some (.ireturn, 0, 44, []), some (.aload_n 0, 0, 45, []), some (.getfield 26, 0, 48, []), none, none, some (.bipush 25, 25, 50, []), none, some (.iaload, 0, 51, []), some (.ireturn, 0, 52, []), some (.aload_n 0, 0, 53, []), some (.getfield 58, 0, 56, []), none, none, some (.ireturn, 0, 57, []), some (.sipush (-1001), (-1001), 60, []), none, none, some (.ireturn, 0, 61, [])]
def mX8_count : zM := (iX8_count, [(13, 8, 3, (.array .int)), (26, 8, 13, (.array .int)), (58, 8, 2, .int), (99, 8, 23, .int)], [], [], [], [], [], [])
theorem kX8_count : zchkL cX8_count 0 iX8_count = true := by decide +kernel
set_option maxRecDepth 20000 in
theorem gX8_count : zGood mX8_count cX8_count yX8_count.cls (zwd yX8_count cX8_count 2 (zret 1)) := ⟨fun pc x h => by
    have h1 := zchkL_at kX8_count pc x h
    rw [Nat.zero_add] at h1
    exact h1, zlookF (fin := false) [(13, 8, 3, (.array .int)), (26, 8, 13, (.array .int)), (58, 8, 2, .int), (99, 8, 23, .int)] (List.forall_mem_cons.mpr ⟨⟨(RX8, TX8, 24), rfl, by decide, List.mem_cons_of_mem _ zw718, fun w h => List.mem_cons_of_mem _ (zX8 w h), by decide +kernel, fun h => by cases h⟩, List.forall_mem_cons.mpr ⟨⟨(RX8, TX8, 24), rfl, by decide, List.mem_cons_of_mem _ zw728, fun w h => List.mem_cons_of_mem _ (zX8 w h), by decide +kernel, fun h => by cases h⟩, List.forall_mem_cons.mpr ⟨⟨(RX8, TX8, 24), rfl, by decide, List.mem_cons_of_mem _ zw717, fun w h => List.mem_cons_of_mem _ (zX8 w h), by decide +kernel, fun h => by cases h⟩, List.forall_mem_cons.mpr ⟨⟨(RX8, TX8, 24), rfl, by decide, List.mem_cons_of_mem _ zw738, fun w h => List.mem_cons_of_mem _ (zX8 w h), by decide +kernel, fun h => by cases h⟩, fun _ h => absurd h List.not_mem_nil⟩⟩⟩⟩), zlookF (fin := true) [] (fun _ h => absurd h List.not_mem_nil), zlookup (β := Int32) (L := []) (P := fun ix b => Jvm.Cond.constant yX8_count.cls ix b ∈ (zwd yX8_count cX8_count 2 (zret 1))) (fun _ h => absurd h List.not_mem_nil), zlookup (β := Int64) (L := []) (P := fun ix b => Jvm.Cond.constantLong yX8_count.cls ix b ∈ (zwd yX8_count cX8_count 2 (zret 1))) (fun _ h => absurd h List.not_mem_nil), zlookup (β := Nat) (L := []) (P := fun ix b => zmok yX8_count.cls (zwd yX8_count cX8_count 2 (zret 1)) ix b) (fun _ h => absurd h List.not_mem_nil)⟩
set_option maxRecDepth 20000 in
theorem sX8_count (l : Launch) : ∀ (as : List Value) (ws : zW) (K : zP), zFr 2 (zGoes mX8_count 1 2) as ws K → zMet l yX8_count (zwd yX8_count cX8_count 2 (zret 1)) { frames := 1, cells := 0, slots := 0, locals := 200 } 1 as ws K := zFr_met (by decide +kernel) (by decide) (by decide) gX8_count (fun p e s m args below meth c D cy ad A n0 Q S hKK hA => ⟨fun ix n G h => zlookup (β := Nat × zG) (L := []) (P := fun ix b => zCO p l e { frames := 1, cells := 0, slots := 0, locals := 200 } s m args below meth c cX8_count 2 D cy ad A n0 0 0 Q (.invokevirtual ix) b.1 b.2) (fun _ h => absurd h List.not_mem_nil) ix (n, G) h, fun ix n G h => zlookup (β := Nat × zG) (L := []) (P := fun ix b => zCO p l e { frames := 1, cells := 0, slots := 0, locals := 200 } s m args below meth c cX8_count 2 D cy ad A n0 0 0 Q (.invokestatic ix) b.1 b.2) (fun _ h => absurd h List.not_mem_nil) ix (n, G) h⟩) (by decide)
def iX8_trace : List (Option zI) := [some (.aload_n 0, 0, 1, []), some (.getfield 169, 0, 4, []), none, none, some (.lreturn, 0, 5, [])]
def mX8_trace : zM := (iX8_trace, [(169, 8, 0, .long)], [], [], [], [], [], [])
theorem kX8_trace : zchkL cX8_trace 0 iX8_trace = true := by decide +kernel
set_option maxRecDepth 20000 in
theorem gX8_trace : zGood mX8_trace cX8_trace yX8_trace.cls (zwd yX8_trace cX8_trace 1 (zret 2)) := ⟨fun pc x h => by
    have h1 := zchkL_at kX8_trace pc x h
    rw [Nat.zero_add] at h1
    exact h1, zlookF (fin := false) [(169, 8, 0, .long)] (List.forall_mem_cons.mpr ⟨⟨(RX8, TX8, 24), rfl, by decide, List.mem_cons_of_mem _ zw715, fun w h => List.mem_cons_of_mem _ (zX8 w h), by decide +kernel, fun h => by cases h⟩, fun _ h => absurd h List.not_mem_nil⟩), zlookF (fin := true) [] (fun _ h => absurd h List.not_mem_nil), zlookup (β := Int32) (L := []) (P := fun ix b => Jvm.Cond.constant yX8_trace.cls ix b ∈ (zwd yX8_trace cX8_trace 1 (zret 2))) (fun _ h => absurd h List.not_mem_nil), zlookup (β := Int64) (L := []) (P := fun ix b => Jvm.Cond.constantLong yX8_trace.cls ix b ∈ (zwd yX8_trace cX8_trace 1 (zret 2))) (fun _ h => absurd h List.not_mem_nil), zlookup (β := Nat) (L := []) (P := fun ix b => zmok yX8_trace.cls (zwd yX8_trace cX8_trace 1 (zret 2)) ix b) (fun _ h => absurd h List.not_mem_nil)⟩
set_option maxRecDepth 20000 in
theorem sX8_trace (l : Launch) : ∀ (as : List Value) (ws : zW) (K : zP), zFr 1 (zGoes mX8_trace 2 1) as ws K → zMet l yX8_trace (zwd yX8_trace cX8_trace 1 (zret 2)) { frames := 1, cells := 0, slots := 0, locals := 200 } 2 as ws K := zFr_met (by decide +kernel) (by decide) (by decide) gX8_trace (fun p e s m args below meth c D cy ad A n0 Q S hKK hA => ⟨fun ix n G h => zlookup (β := Nat × zG) (L := []) (P := fun ix b => zCO p l e { frames := 1, cells := 0, slots := 0, locals := 200 } s m args below meth c cX8_trace 1 D cy ad A n0 0 0 Q (.invokevirtual ix) b.1 b.2) (fun _ h => absurd h List.not_mem_nil) ix (n, G) h, fun ix n G h => zlookup (β := Nat × zG) (L := []) (P := fun ix b => zCO p l e { frames := 1, cells := 0, slots := 0, locals := 200 } s m args below meth c cX8_trace 1 D cy ad A n0 0 0 Q (.invokestatic ix) b.1 b.2) (fun _ h => absurd h List.not_mem_nil) ix (n, G) h⟩) (by decide)
end
section
/-! ===== the meaning, in words that the class and the reference share ===== -/
def zmax (x y : Int32) : Int32 := if x < y then y else x
def zmin (x y : Int32) : Int32 := if y < x then y else x
def zabs (x : Int32) : Int32 := if 0 ≤ x then x else 0 - x
def zb (b : Bool) : Int32 := if b then 1 else 0
def zclamp (v : Int32) : Int32 := zmax (-999) (zmin 999 v)
def sFill (g i : Nat → Int32) (p : Nat) : Nat → Int32 := fun k => if k < p then g k else i k
theorem sFill_0 (g i : Nat → Int32) : sFill g i 0 = i := by
  funext k
  simp [sFill]
theorem sFill_upd (g i : Nat → Int32) (p : Nat) : upd (sFill g i p) p (g p) = sFill g i (p + 1) := by
  funext k
  unfold upd sFill
  by_cases h : k = p
  · subst h
    rw [if_pos rfl, if_pos (Nat.lt_succ_self k)]
  · rw [if_neg h]
    by_cases h2 : k < p
    · rw [if_pos h2, if_pos (by omega)]
    · rw [if_neg h2, if_neg (by omega)]
theorem sFill_ge {g i : Nat → Int32} {p k : Nat} (h : p ≤ k) : sFill g i p k = i k := if_neg (by omega)
theorem sFill_lt {g i : Nat → Int32} {p k : Nat} (h : k < p) : sFill g i p k = g k := if_pos h
def sWant (pc : Int32) (n p : Nat) : Int32 := if nI n < 2 then 0 else pc * nI p / (nI n - 1)
def sSees (i : Nat → Int32) (n p : Nat) : Int32 := if p + 1 < n then i (p + 1) - i p else 0
def sFeels (i : Nat → Int32) (p : Nat) : Int32 := if 0 < p then i (p - 1) - i p else 0
def sWould (i : Nat → Int32) (pc ey el : Int32) (n p : Nat) : Int32 := sWant pc n p + ey * sSees i n p / 10 + el * sFeels i p / 10
def sTakes (w i : Nat → Int32) (pc ey el : Int32) (n : Nat) (lg : Nat → Int32) (q : Int32) (p : Nat) : Int32 := if nI p = q then 0 else zmin (lg (w p).toNatClampNeg) (zmax 0 (sWould i pc ey el n p))
def sMv (w i : Nat → Int32) (pc ey el : Int32) (n : Nat) (lg : Nat → Int32) (q : Int32) (p : Nat) : Int32 := zclamp (i p + sTakes w i pc ey el n lg q p - sWant pc n p)
def sMvd (w i : Nat → Int32) (pc ey el : Int32) (n : Nat) (lg : Nat → Int32) (q : Int32) : Nat → Bool
  | 0 => false
  | p + 1 => sMvd w i pc ey el n lg q p || decide (¬ sMv w i pc ey el n lg q p = i p)
def sFt (f : Nat → Int32) (n p : Nat) : Int32 := if (1 < n ∧ (p = 0 ∨ ¬ f (p - 1) = f p)) ∧ (n ≤ p + 1 ∨ ¬ f (p + 1) = f p) then 1 - f p else f p
def sBulge (i : Nat → Int32) : Nat → Int32
  | 0 => 0
  | p + 1 => zmax (sBulge i p) (zabs (i (p + 1) - i p))
def sFirst (P : Nat → Bool) (d : Int32) : Nat → Nat → Int32
  | 0, _ => d
  | k + 1, p => if P p then nI p else sFirst P d k (p + 1)
def sFeet (f : Nat → Int32) : Nat → Int32
  | 0 => 0
  | p + 1 => sFeet f p ||| f p <<< (nI p &&& 31)
def sAlike (f : Nat → Int32) (n : Nat) : Bool := (List.range (n - 1)).all (fun p => decide (f p = f (p + 1)))
def sLine (i : Nat → Int32) : Nat → Nat
  | 0 => 0
  | p + 1 => sLine i p + if i p = 0 then 1 else 0
def sBeh (i : Nat → Int32) (pc : Int32) (n : Nat) (x : Int32) : Nat → Int32
  | 0 => 0
  | p + 1 => if 0 < sWant pc n p ∧ 0 ≤ x - i p then zmax (sBeh i pc n x p) ((x - i p) / sWant pc n p + 1) else sBeh i pc n x p
/-! numbers -/
theorem nI_c1 {k : Nat} (h : k < 1000) : (nI k + 1).toNatClampNeg = k + 1 := by rw [nI_1, nI_clamp (by omega)]
theorem nI_c0 {k : Nat} (h : k < 1000) : (nI k).toNatClampNeg = k := nI_clamp (by omega)
theorem vi0 {k N : Nat} (h : k < N) (hN : N < 1000) : vp_in (nI k) N := vp_in_nI h (by omega)
theorem vi1 {k N : Nat} (h : k + 1 < N) (hN : N < 1000) : vp_in (nI k + 1) N := by rw [nI_1]; exact vp_in_nI h (by omega)
theorem zb_cases (b : Bool) : zb b = 0 ∨ zb b = 1 := by cases b <;> decide
theorem sLine_le (i : Nat → Int32) : ∀ n, sLine i n ≤ n
  | 0 => Nat.le_refl _
  | n + 1 => by
    have := sLine_le i n
    unfold sLine
    split <;> omega
end
section
/-! ===== small static methods ===== -/
set_option maxRecDepth 100000 in
theorem t_within {ws : zW} {post : zP} (a b c : Int32) (h1 : b ≤ a → a ≤ c → post (some (.int 1)) ws) (h0 : ¬ (b ≤ a ∧ a ≤ c) → post (some (.int 0)) ws) : zGoes mX7_within 3 3 [.int a, .int b, .int c] ws post := by
  intro K hK
  refine hK.1 [] 20 _ _ _ _ ?_
  refine And.intro (fun h => ?_) (fun h => ?_)
  · refine And.intro (Or.inl rfl) (h0 (fun q => ?_))
    exact absurd q.1 (Int32.not_le.mpr h)
  · refine And.intro (fun h2 => ?_) (fun h2 => ?_)
    · refine And.intro (Or.inl rfl) (h0 (fun q => ?_))
      exact absurd q.2 (Int32.not_le.mpr h2)
    · exact And.intro (Or.inr rfl) (h1 (Int32.not_lt.mp h) (Int32.not_lt.mp h2))
theorem want_ne {n : Nat} (hn : n ≤ 7) (h : ¬ nI n < 2) : ¬ nI n - 1 = 0 := by
  have h2 : 2 ≤ n := by
    rcases Nat.lt_or_ge n 2 with q | q
    · exact absurd (nI_lt q (by omega)) h
    · exact q
  have : nI n = nI (n - 1) + 1 := by rw [nI_1]; congr 1; omega
  rw [this, show nI (n - 1) + 1 - 1 = nI (n - 1) by rw [nI_1]; exact nI_pred _]
  exact nI_ne0 (by omega) (by omega)
set_option maxRecDepth 100000 in
theorem t_wanted {ws : zW} {post : zP} (a : Int32) (p n : Nat) (hn : n ≤ 7) (h : post (some (.int (sWant a n p))) ws) : zGoes mX7_wanted 1 3 [.int a, .int (nI p), .int (nI n)] ws post := by
  intro K hK
  refine hK.1 [] 20 _ _ _ _ ?_
  unfold sWant at h
  refine And.intro (fun c => ?_) (fun c => ?_)
  · rw [if_neg (Int32.not_lt.mpr c)] at h
    exact And.intro (want_ne hn (Int32.not_lt.mpr c)) h
  · rw [if_pos (Int32.not_le.mp c)] at h
    exact h
/-! ===== Line ===== -/
/-- the cells that a Line's methods touch -/
def wLn (w i f : Nat → Int32) (pc ey el ps : Int32) (n : Nat) (lg : Nat → Int32) : zW := [.inr (.inr (1, [.ref 4, .ref 1, .ref 2, .ref 3, .int pc, .int ey, .int el, .int ps])), .inl (0, 7, w), .inl (0, 7, i), .inl (0, 7, f), .inr (.inr (2, [.int (nI n), .ref 5, .ref 6])), .inl (0, 7, lg)]
section LN
variable {w i f : Nat → Int32} {pc ey el ps : Int32} {n : Nat} {lg : Nat → Int32} {post : zP}
set_option maxRecDepth 100000 in
theorem t_gapAt (k : Nat) (hk : k + 1 < 7) (h : post (some (.int (zabs (i (k + 1) - i k)))) (wLn w i f pc ey el ps n lg)) : zGoes mX1_gapAt 1 2 [.ref 0, .int (nI k)] (wLn w i f pc ey el ps n lg) post := by
  intro K hK
  refine hK.1 [] 40 _ _ _ _ ?_
  refine And.intro (vi1 hk (by omega)) (And.intro (vi0 (by omega) (by omega)) ?_)
  show post (some (.int (if 0 ≤ i (nI k + 1).toNatClampNeg - i (nI k).toNatClampNeg then i (nI k + 1).toNatClampNeg - i (nI k).toNatClampNeg else 0 - (i (nI k + 1).toNatClampNeg - i (nI k).toNatClampNeg)))) _
  rw [nI_c1 (by omega), nI_c0 (by omega)]
  exact h
set_option maxRecDepth 100000 in
theorem t_bulge (hn : n ≤ 7) (h : post (some (.int (sBulge i (n - 1)))) (wLn w i f pc ey el ps n lg)) : zGoes mX1_bulge 1 3 [.ref 0] (wLn w i f pc ey el ps n lg) post := by
  intro K hK
  have loop : ∀ d p : Nat, p + d = n - 1 → K 4 [some (.ref 0), some (.int (sBulge i p)), some (.int (nI p))] [] (wLn w i f pc ey el ps n lg) := by
    intro d
    induction d with
    | zero =>
      intro p hp
      refine hK.1 [4] 60 _ _ _ _ ?_
      refine And.intro (fun c => ?_) (fun c => ?_)
      · have e : p = n - 1 := by omega
        subst e
        exact h
      · exact absurd (by rw [nI_1]; exact nI_le (by omega) (by omega)) c
    | succ d ih =>
      intro p hp
      refine hK.1 [4] 60 _ _ _ _ ?_
      refine And.intro (fun c => ?_) (fun c => ?_)
      · rw [nI_1] at c
        exact absurd c (nI_ge (by omega) (by omega))
      · refine And.intro rfl (Or.inl ⟨rfl, rfl, t_gapAt p (by omega) ?_⟩)
        have := ih (p + 1) (by omega)
        rw [← nI_1] at this
        exact this
  exact hK.1 [4] 60 _ _ _ _ (loop (n - 1) 0 (by omega))
set_option maxRecDepth 100000 in
theorem t_bulgePlace (hn : n ≤ 7) (h : post (some (.int (sFirst (fun p => decide (zabs (i (p + 1) - i p) = sBulge i (n - 1))) (-1009) (n - 1) 0))) (wLn w i f pc ey el ps n lg)) : zGoes mX1_bulgePlace 1 3 [.ref 0] (wLn w i f pc ey el ps n lg) post := by
  intro K hK
  have loop : ∀ d p : Nat, p + d = n - 1 → post (some (.int (sFirst (fun p => decide (zabs (i (p + 1) - i p) = sBulge i (n - 1))) (-1009) d p))) (wLn w i f pc ey el ps n lg) → K 7 [some (.ref 0), some (.int (sBulge i (n - 1))), some (.int (nI p))] [] (wLn w i f pc ey el ps n lg) := by
    intro d
    induction d with
    | zero =>
      intro p hp h
      refine hK.1 [7] 60 _ _ _ _ ?_
      refine And.intro (fun c => ?_) (fun c => ?_)
      · exact h
      · exact absurd (by rw [nI_1]; exact nI_le (by omega) (by omega)) c
    | succ d ih =>
      intro p hp h
      refine hK.1 [7] 60 _ _ _ _ ?_
      refine And.intro (fun c => ?_) (fun c => ?_)
      · rw [nI_1] at c
        exact absurd c (nI_ge (by omega) (by omega))
      · refine And.intro rfl (Or.inl ⟨rfl, rfl, t_gapAt p (by omega) ?_⟩)
        unfold sFirst at h
        refine And.intro (fun c2 => ?_) (fun c2 => ?_)
        · rw [if_pos (by simpa using c2)] at h
          exact h
        · rw [if_neg (by simpa using c2)] at h
          have := ih (p + 1) (by omega) h
          rw [← nI_1] at this
          exact this
  refine hK.1 [7] 60 _ _ _ _ ?_
  exact And.intro rfl (Or.inl ⟨rfl, rfl, t_bulge hn (loop (n - 1) 0 (by omega) h)⟩)
set_option maxRecDepth 100000 in
theorem t_legAt (k : Nat) (hk : k < 7) (hw : vp_in (w k) 7) (h : post (some (.int (lg (w k).toNatClampNeg))) (wLn w i f pc ey el ps n lg)) : zGoes mX1_legAt 1 2 [.ref 0, .int (nI k)] (wLn w i f pc ey el ps n lg) post := by
  intro K hK
  refine hK.1 [] 40 _ _ _ _ ?_
  refine And.intro (vi0 (by omega) (by omega)) ?_
  refine And.intro (by rw [nI_c0 (by omega)]; exact hw) ?_
  show post (some (.int (lg (w (nI k).toNatClampNeg).toNatClampNeg))) _
  rw [nI_c0 (by omega)]
  exact h
set_option maxRecDepth 100000 in
theorem t_wants (k : Nat) (hn : n ≤ 7) (h : post (some (.int (sWant pc n k))) (wLn w i f pc ey el ps n lg)) : zGoes mX1_wants 1 2 [.ref 0, .int (nI k)] (wLn w i f pc ey el ps n lg) post := by
  intro K hK
  refine hK.1 [] 40 _ _ _ _ ?_
  exact Or.inl ⟨rfl, rfl, t_wanted pc k n hn h⟩
end LN
end
section
section LN2
variable {w i f : Nat → Int32} {pc ey el ps : Int32} {n : Nat} {lg : Nat → Int32} {post : zP}
theorem sLine_1 (i : Nat → Int32) (p : Nat) : sLine i (p + 1) = sLine i p + if i p = 0 then 1 else 0 := rfl
theorem nle_of {p n : Nat} (h : p < n) (hn : n < 1000) : ¬ nI n ≤ nI p := nI_ge h (by omega)
theorem le_of {p n : Nat} (h : n ≤ p) (hp : p < 1000) : nI n ≤ nI p := nI_le h (by omega)
set_option maxRecDepth 100000 in
theorem t_placesInLine (hn : n ≤ 7) (h : post (some (.int (nI (sLine i n)))) (wLn w i f pc ey el ps n lg)) : zGoes mX1_placesInLine 1 3 [.ref 0] (wLn w i f pc ey el ps n lg) post := by
  intro K hK
  have loop : ∀ d p : Nat, p + d = n → K 4 [some (.ref 0), some (.int (nI (sLine i p))), some (.int (nI p))] [] (wLn w i f pc ey el ps n lg) := by
    intro d
    induction d with
    | zero =>
      intro p hp
      have e : p = n := by omega
      subst e
      refine hK.1 [4] 60 _ _ _ _ (And.intro (fun c => h) (fun c => ?_))
      exact absurd (le_of (Nat.le_refl _) (by omega)) c
    | succ d ih =>
      intro p hp
      refine hK.1 [4] 60 _ _ _ _ (And.intro (fun c => ?_) (fun c => ?_))
      · exact absurd c (nle_of (by omega) (by omega))
      · refine And.intro (vi0 (by omega) (by omega)) ?_
        have ih := ih (p + 1) (by omega)
        rw [sLine_1, ← nI_1] at ih
        refine And.intro (fun c2 => ?_) (fun c2 => ?_)
        · rw [nI_c0 (by omega)] at c2
          rw [if_pos c2, ← nI_1] at ih
          exact ih
        · rw [nI_c0 (by omega)] at c2
          rw [if_neg c2, Nat.add_zero] at ih
          exact ih
  exact hK.1 [4] 60 _ _ _ _ (loop n 0 (by omega))
set_option maxRecDepth 100000 in
theorem t_feet (hn : n ≤ 7) (h : post (some (.int (sFeet f n))) (wLn w i f pc ey el ps n lg)) : zGoes mX1_feet 1 3 [.ref 0] (wLn w i f pc ey el ps n lg) post := by
  intro K hK
  have loop : ∀ d p : Nat, p + d = n → K 4 [some (.ref 0), some (.int (sFeet f p)), some (.int (nI p))] [] (wLn w i f pc ey el ps n lg) := by
    intro d
    induction d with
    | zero =>
      intro p hp
      have e : p = n := by omega
      subst e
      refine hK.1 [4] 60 _ _ _ _ (And.intro (fun c => h) (fun c => ?_))
      exact absurd (le_of (Nat.le_refl _) (by omega)) c
    | succ d ih =>
      intro p hp
      refine hK.1 [4] 60 _ _ _ _ (And.intro (fun c => ?_) (fun c => ?_))
      · exact absurd c (nle_of (by omega) (by omega))
      · refine And.intro (vi0 (by omega) (by omega)) ?_
        have ih := ih (p + 1) (by omega)
        rw [← nI_1] at ih
        have e : f (nI p).toNatClampNeg = f p := by rw [nI_c0 (by omega)]
        unfold sFeet at ih
        rw [← e] at ih
        exact ih
  exact hK.1 [4] 60 _ _ _ _ (loop n 0 (by omega))
theorem sAlike_go {f : Nat → Int32} {n : Nat} (h : ∀ p, p + 1 < n → f p = f (p + 1)) : sAlike f n = true := by
  unfold sAlike
  rw [List.all_eq_true]
  intro p hp
  rw [decide_eq_true_eq]
  exact h p (by have := List.mem_range.mp hp; omega)
theorem sAlike_no {f : Nat → Int32} {n p : Nat} (h : p + 1 < n) (h2 : ¬ f p = f (p + 1)) : sAlike f n = false := by
  cases hs : sAlike f n with
  | false => rfl
  | true =>
    unfold sAlike at hs
    rw [List.all_eq_true] at hs
    have := hs p (List.mem_range.mpr (by omega))
    rw [decide_eq_true_eq] at this
    exact absurd this h2
set_option maxRecDepth 100000 in
theorem t_feetAlike (hn : n ≤ 7) (h : post (some (.int (zb (sAlike f n)))) (wLn w i f pc ey el ps n lg)) : zGoes mX1_feetAlike 3 2 [.ref 0] (wLn w i f pc ey el ps n lg) post := by
  intro K hK
  have loop : ∀ d p : Nat, p + d = n - 1 → (∀ q, q < p → f q = f (q + 1)) → K 2 [some (.ref 0), some (.int (nI p))] [] (wLn w i f pc ey el ps n lg) := by
    intro d
    induction d with
    | zero =>
      intro p hp hq
      rw [sAlike_go (fun q h => hq q (by omega))] at h
      refine hK.1 [2] 60 _ _ _ _ (And.intro (fun c => And.intro (Or.inr rfl) h) (fun c => ?_))
      exact absurd (by rw [nI_1]; exact nI_le (by omega) (by omega)) c
    | succ d ih =>
      intro p hp hq
      refine hK.1 [2] 60 _ _ _ _ (And.intro (fun c => ?_) (fun c => ?_))
      · rw [nI_1] at c
        exact absurd c (nI_ge (by omega) (by omega))
      · refine And.intro (vi0 (by omega) (by omega)) (And.intro (vi1 (by omega) (by omega)) (And.intro (fun c2 => ?_) (fun c2 => ?_)))
        · rw [nI_c0 (by omega), nI_c1 (by omega)] at c2
          have := ih (p + 1) (by omega) (fun q hq2 => by
            rcases Nat.lt_or_ge q p with h3 | h3
            · exact hq q h3
            · have : q = p := by omega
              subst this
              exact c2)
          rw [← nI_1] at this
          exact this
        · rw [nI_c0 (by omega), nI_c1 (by omega)] at c2
          rw [sAlike_no (p := p) (by omega) c2] at h
          exact And.intro (Or.inl rfl) h
  exact hK.1 [2] 60 _ _ _ _ (loop (n - 1) 0 (by omega) (fun q h => by omega))
set_option maxRecDepth 100000 in
theorem t_lose (k : Nat) (hk : k < 7) (x : Int32) (h : post none (wLn w (upd i k (zmax (-999) (i k - x))) f pc ey el ps n lg)) : zGoes mX1_lose 0 3 [.ref 0, .int (nI k), .int x] (wLn w i f pc ey el ps n lg) post := by
  intro K hK
  refine hK.1 [] 60 _ _ _ _ ?_
  refine And.intro (vi0 (by omega) (by omega)) (And.intro (vi0 (by omega) (by omega)) ?_)
  have e : (nI k).toNatClampNeg = k := nI_c0 (by omega)
  rw [← e] at h
  exact h
set_option maxRecDepth 100000 in
theorem t_stepOf (k : Nat) (hk : k < 7) (hw : vp_in (w k) 7) (a b c : Int32) (h : post (some (.int (zmin (lg (w k).toNatClampNeg) (zmax 0 (a + ey * b / 10 + el * c / 10))))) (wLn w i f pc ey el ps n lg)) : zGoes mX1_stepOf 1 6 [.ref 0, .int (nI k), .int a, .int b, .int c] (wLn w i f pc ey el ps n lg) post := by
  intro K hK
  refine hK.1 [] 60 _ _ _ _ ?_
  refine And.intro (by decide) (And.intro (by decide) ?_)
  exact And.intro rfl (Or.inl ⟨rfl, rfl, t_legAt k hk hw h⟩)
end LN2
end
section
section LN3
variable {w i f : Nat → Int32} {pc ey el ps : Int32} {n : Nat} {lg : Nat → Int32} {post : zP}
theorem zb0 {b : Bool} (h : zb b = 0) : b = false := by
  cases b
  · rfl
  · exact absurd h (by decide)
theorem zb1 {b : Bool} (h : ¬ zb b = 0) : b = true := by
  cases b
  · exact absurd rfl h
  · rfl
set_option maxRecDepth 100000 in
set_option maxHeartbeats 2000000 in
theorem t_moveAll (hn : n ≤ 7) (hw : ∀ k, k < n → vp_in (w k) 7) (q : Int32) (h : post (some (.int (zb (sMvd w i pc ey el n lg q n)))) (wLn w (sFill (sMv w i pc ey el n lg q) i n) f pc ey el ps n lg)) : zGoes mX1_moveAll 3 11 [.ref 0, .int q] (wLn w i f pc ey el ps n lg) post := by
  intro K hK
  have loop : ∀ (d p : Nat) (o5 o6 o7 o8 o9 o10 : Option Value), p + d = n → K 7 [some (.ref 0), some (.int q), some (.int (zb (sMvd w i pc ey el n lg q p))), some (.int (if 0 < p then i (p - 1) else 0)), some (.int (nI p)), o5, o6, o7, o8, o9, o10] [] (wLn w (sFill (sMv w i pc ey el n lg q) i p) f pc ey el ps n lg) := by
    intro d
    induction d with
    | zero =>
      intro p o5 o6 o7 o8 o9 o10 hp
      have e : p = n := by omega
      subst e
      refine hK.1 [7] 60 _ _ _ _ (And.intro (fun c => And.intro (zb_cases _) h) (fun c => ?_))
      exact absurd (le_of (Nat.le_refl _) (by omega)) c
    | succ d ih =>
      intro p o5 o6 o7 o8 o9 o10 hp
      have ec : (nI p).toNatClampNeg = p := nI_c0 (by omega)
      have eown : (sFill (sMv w i pc ey el n lg q) i p) (nI p).toNatClampNeg = i p := by rw [ec]; exact sFill_ge (Nat.le_refl _)
      have eout : p + 1 < n → (sFill (sMv w i pc ey el n lg q) i p) (nI p + 1).toNatClampNeg = i (p + 1) := fun hlt => by rw [nI_c1 (by omega)]; exact sFill_ge (by omega)
      have hW : upd (sFill (sMv w i pc ey el n lg q) i p) (nI p).toNatClampNeg (sMv w i pc ey el n lg q p) = sFill (sMv w i pc ey el n lg q) i (p + 1) := by rw [ec, sFill_upd]
      have j159 : ∀ (o10 : Option Value), K 159 [some (.ref 0), some (.int q), some (.int (zb (sMvd w i pc ey el n lg q p))), some (.int (if 0 < p then i (p - 1) else 0)), some (.int (nI p)), some (.int (i p)), some (.int (sWant pc n p)), some (.int (sSees i n p)), some (.int (sFeels i p)), some (.int (sTakes w i pc ey el n lg q p)), o10] [.int (zb (sMvd w i pc ey el n lg q (p + 1)))] (wLn w (upd (sFill (sMv w i pc ey el n lg q) i p) (nI p).toNatClampNeg (sMv w i pc ey el n lg q p)) f pc ey el ps n lg) := by
        intro o10
        have := ih (p + 1) (some (.int (i p))) (some (.int (sWant pc n p))) (some (.int (sSees i n p))) (some (.int (sFeels i p))) (some (.int (sTakes w i pc ey el n lg q p))) o10 (by omega)
        rw [if_pos (by omega), Nat.add_sub_cancel, ← nI_1, ← hW] at this
        exact hK.1 [7] 60 _ _ _ _ this
      have j105 : ∀ (o9 o10 : Option Value), K 105 [some (.ref 0), some (.int q), some (.int (zb (sMvd w i pc ey el n lg q p))), some (.int (if 0 < p then i (p - 1) else 0)), some (.int (nI p)), some (.int (i p)), some (.int (sWant pc n p)), some (.int (sSees i n p)), some (.int (sFeels i p)), o9, o10] [.int (sTakes w i pc ey el n lg q p)] (wLn w (sFill (sMv w i pc ey el n lg q) i p) f pc ey el ps n lg) := by
        intro o9 o10
        have j := j159 (some (.int (i p + sTakes w i pc ey el n lg q p - sWant pc n p)))
        refine hK.1 [159] 60 _ _ _ _ (And.intro (vi0 (by omega) (by omega)) (And.intro (fun c => ?_) (fun c => ?_)))
        · refine And.intro (vi0 (by omega) (by omega)) (And.intro (fun c2 => ?_) (fun c2 => ?_))
          · have c3 : sMv w i pc ey el n lg q p = i p := (pk_us).symm.trans c2
            rw [show sMvd w i pc ey el n lg q (p + 1) = false by unfold sMvd; rw [zb0 c, c3]; simp] at j
            exact j
          · have c3 : ¬ sMv w i pc ey el n lg q p = i p := fun z => c2 (pk_us.trans z)
            rw [show sMvd w i pc ey el n lg q (p + 1) = true by unfold sMvd; simp [c3]] at j
            exact j
        · rw [show sMvd w i pc ey el n lg q (p + 1) = true by unfold sMvd; rw [zb1 c]; rfl] at j
          exact j
      have j81 : ∀ (o8 o9 o10 : Option Value), K 81 [some (.ref 0), some (.int q), some (.int (zb (sMvd w i pc ey el n lg q p))), some (.int (if 0 < p then i (p - 1) else 0)), some (.int (nI p)), some (.int (i p)), some (.int (sWant pc n p)), some (.int (sSees i n p)), o8, o9, o10] [.int (sFeels i p)] (wLn w (sFill (sMv w i pc ey el n lg q) i p) f pc ey el ps n lg) := by
        intro o8 o9 o10
        have j := j105 o9 o10
        refine hK.1 [105] 60 _ _ _ _ (And.intro (fun c => ?_) (fun c => ?_))
        · rw [show sTakes w i pc ey el n lg q p = 0 from if_pos c] at j
          exact j
        · rw [show sTakes w i pc ey el n lg q p = zmin (lg (w p).toNatClampNeg) (zmax 0 (sWould i pc ey el n p)) from if_neg c] at j
          exact And.intro rfl (Or.inl ⟨rfl, rfl, t_stepOf p (by omega) (hw p (by omega)) _ _ _ j⟩)
      have j66 : ∀ (o7 o8 o9 o10 : Option Value), K 66 [some (.ref 0), some (.int q), some (.int (zb (sMvd w i pc ey el n lg q p))), some (.int (if 0 < p then i (p - 1) else 0)), some (.int (nI p)), some (.int (i p)), some (.int (sWant pc n p)), o7, o8, o9, o10] [.int (sSees i n p)] (wLn w (sFill (sMv w i pc ey el n lg q) i p) f pc ey el ps n lg) := by
        intro o7 o8 o9 o10
        have j := j81 o8 o9 o10
        refine hK.1 [81] 60 _ _ _ _ (And.intro (fun c => ?_) (fun c => ?_))
        · have e : p = 0 := by
            rcases Nat.eq_zero_or_pos p with z | z
            · exact z
            · exact absurd c (nI_nle z (by omega))
          rw [show sFeels i p = 0 from if_neg (by omega)] at j
          exact j
        · have e : 0 < p := by
            rcases Nat.eq_zero_or_pos p with z | z
            · subst z; exact absurd (by decide) c
            · exact z
          rw [show sFeels i p = i (p - 1) - i p from if_pos e, if_pos e] at j
          rw [if_pos e]
          exact j
      have j := j66 o7 o8 o9 o10
      refine hK.1 [66] 60 _ _ _ _ (And.intro (fun c => ?_) (fun c => ?_))
      · exact absurd c (nle_of (by omega) (by omega))
      · refine And.intro (vi0 (by omega) (by omega)) ?_
        rw [← eown] at j
        refine And.intro rfl (Or.inl ⟨rfl, rfl, t_wants p hn ?_⟩)
        refine And.intro (fun c2 => ?_) (fun c2 => ?_)
        · have e : ¬ p + 1 < n := fun z => by rw [nI_1] at c2; exact absurd c2 (nI_ge z (by omega))
          rw [show sSees i n p = 0 from if_neg e] at j
          exact j
        · have e : p + 1 < n := by
            rcases Nat.lt_or_ge (p + 1) n with z | z
            · exact z
            · exact absurd (by rw [nI_1]; exact nI_le z (by omega)) c2
          refine And.intro (vi1 (by omega) (by omega)) ?_
          rw [show sSees i n p = i (p + 1) - i p from if_pos e, ← eout e] at j
          rw [← eown] at j
          exact j
  have := loop n 0 none none none none none none (by omega)
  rw [sFill_0] at this
  exact hK.1 [7] 60 _ _ _ _ this
end LN3
end
section
theorem n1 : nI 1 = 1 := by decide
theorem n2 : nI 2 = 2 := by decide
theorem n7 : nI 7 = 7 := by decide
theorem sFill_same {g i : Nat → Int32} {p : Nat} (h : g p = i p) : sFill g i (p + 1) = sFill g i p := by
  funext k
  unfold sFill
  by_cases h1 : k < p
  · rw [if_pos h1, if_pos (by omega)]
  · rw [if_neg h1]
    by_cases h2 : k = p
    · subst h2; rw [if_pos (by omega), h]
    · rw [if_neg (by omega)]
section LN4
variable {w i f : Nat → Int32} {pc ey el ps : Int32} {n : Nat} {lg : Nat → Int32} {post : zP}
set_option maxRecDepth 100000 in
set_option maxHeartbeats 2000000 in
theorem t_changeFeet (hn : n ≤ 7) (h : post none (wLn w i (sFill (sFt f n) f n) pc ey el ps n lg)) : zGoes mX1_changeFeet 0 6 [.ref 0] (wLn w i f pc ey el ps n lg) post := by
  intro K hK
  have loop : ∀ (d p : Nat) (o3 o4 o5 : Option Value), p + d = n → K 4 [some (.ref 0), some (.int (if 0 < p then f (p - 1) else 0)), some (.int (nI p)), o3, o4, o5] [] (wLn w i (sFill (sFt f n) f p) pc ey el ps n lg) := by
    intro d
    induction d with
    | zero =>
      intro p o3 o4 o5 hp
      have e : p = n := by omega
      subst e
      refine hK.1 [4] 60 _ _ _ _ (And.intro (fun c => h) (fun c => ?_))
      exact absurd (le_of (Nat.le_refl _) (by omega)) c
    | succ d ih =>
      intro p o3 o4 o5 hp
      have ec : (nI p).toNatClampNeg = p := nI_c0 (by omega)
      have eown : (sFill (sFt f n) f p) (nI p).toNatClampNeg = f p := by rw [ec]; exact sFill_ge (Nat.le_refl _)
      have eout : p + 1 < n → (sFill (sFt f n) f p) (nI p + 1).toNatClampNeg = f (p + 1) := fun hlt => by rw [nI_c1 (by omega)]; exact sFill_ge (by omega)
      have j100 : ∀ (o4 o5 : Option Value), K 100 [some (.ref 0), some (.int (if 0 < p then f (p - 1) else 0)), some (.int (nI p)), some (.int (f p)), o4, o5] [] (wLn w i (sFill (sFt f n) f (p + 1)) pc ey el ps n lg) := by
        intro o4 o5
        have := ih (p + 1) (some (.int (f p))) o4 o5 (by omega)
        rw [if_pos (by omega), Nat.add_sub_cancel, ← nI_1] at this
        exact hK.1 [4] 60 _ _ _ _ this
      have j68 : ∀ (o5 : Option Value), K 68 [some (.ref 0), some (.int (if 0 < p then f (p - 1) else 0)), some (.int (nI p)), some (.int (f p)), some (.int (zb (decide (p = 0 ∨ ¬ f (p - 1) = f p)))), o5] [.int (zb (decide (n ≤ p + 1 ∨ ¬ f (p + 1) = f p)))] (wLn w i (sFill (sFt f n) f p) pc ey el ps n lg) := by
        intro o5
        have j := j100 (some (.int (zb (decide (p = 0 ∨ ¬ f (p - 1) = f p))))) (some (.int (zb (decide (n ≤ p + 1 ∨ ¬ f (p + 1) = f p)))))
        refine hK.1 [100] 60 _ _ _ _ (And.intro (fun c => ?_) (fun c => ?_))
        · rw [← n1, nI_leI (by omega) (by omega)] at c
          rw [sFill_same (show sFt f n p = f p from if_neg (fun z => by omega))] at j
          exact j
        · rw [← n1, nI_leI (by omega) (by omega)] at c
          refine And.intro (fun c2 => ?_) (fun c2 => ?_)
          · have c2 := of_decide_eq_false (zb0 c2)
            rw [sFill_same (show sFt f n p = f p from if_neg (fun z => c2 z.1.2))] at j
            exact j
          · have c2 := of_decide_eq_true (zb1 c2)
            refine And.intro (fun c3 => ?_) (fun c3 => ?_)
            · have c3 := of_decide_eq_false (zb0 c3)
              rw [sFill_same (show sFt f n p = f p from if_neg (fun z => c3 z.2))] at j
              exact j
            · have c3 := of_decide_eq_true (zb1 c3)
              have hW : upd (sFill (sFt f n) f p) (nI p).toNatClampNeg (1 - f p) = sFill (sFt f n) f (p + 1) := by
                rw [ec, ← sFill_upd, show sFt f n p = 1 - f p from if_pos ⟨⟨by omega, c2⟩, c3⟩]
              rw [← hW] at j
              exact And.intro (vi0 (by omega) (by omega)) j
      have j36 : ∀ (o4 o5 : Option Value), K 36 [some (.ref 0), some (.int (if 0 < p then f (p - 1) else 0)), some (.int (nI p)), some (.int (f p)), o4, o5] [.int (zb (decide (p = 0 ∨ ¬ f (p - 1) = f p)))] (wLn w i (sFill (sFt f n) f p) pc ey el ps n lg) := by
        intro o4 o5
        have j := j68 o5
        refine hK.1 [68] 60 _ _ _ _ (And.intro (fun c => ?_) (fun c => ?_))
        · rw [nI_1, nI_leI (by omega) (by omega)] at c
          rw [show decide (n ≤ p + 1 ∨ ¬ f (p + 1) = f p) = true from decide_eq_true (Or.inl c)] at j
          exact j
        · rw [nI_1, nI_leI (by omega) (by omega)] at c
          refine And.intro (vi1 (by omega) (by omega)) (And.intro (fun c2 => ?_) (fun c2 => ?_))
          · rw [eout (by omega)] at c2
            rw [show decide (n ≤ p + 1 ∨ ¬ f (p + 1) = f p) = false from decide_eq_false (fun z => z.elim c (fun y => y c2))] at j
            exact j
          · rw [eout (by omega)] at c2
            rw [show decide (n ≤ p + 1 ∨ ¬ f (p + 1) = f p) = true from decide_eq_true (Or.inr c2)] at j
            exact j
      have j := j36 o4 o5
      refine hK.1 [36] 60 _ _ _ _ (And.intro (fun c => ?_) (fun c => ?_))
      · exact absurd c (nle_of (by omega) (by omega))
      · refine And.intro (vi0 (by omega) (by omega)) (And.intro (fun c2 => ?_) (fun c2 => ?_))
        · have c2 : p = 0 := by
            rcases Nat.eq_zero_or_pos p with z | z
            · exact z
            · exact absurd c2 (nI_ne0 z (by omega))
          rw [show decide (p = 0 ∨ ¬ f (p - 1) = f p) = true from decide_eq_true (Or.inl c2), ← eown] at j
          exact j
        · have c2 : 0 < p := by
            rcases Nat.eq_zero_or_pos p with z | z
            · subst z; exact absurd (by decide) c2
            · exact z
          refine And.intro (fun c3 => ?_) (fun c3 => ?_)
          · rw [if_pos c2, eown] at c3
            rw [show decide (p = 0 ∨ ¬ f (p - 1) = f p) = false from decide_eq_false (fun z => z.elim (by omega) (fun y => y c3)), ← eown] at j
            exact j
          · rw [if_pos c2, eown] at c3
            rw [show decide (p = 0 ∨ ¬ f (p - 1) = f p) = true from decide_eq_true (Or.inr c3), ← eown] at j
            exact j
  have := loop n 0 none none none (by omega)
  rw [sFill_0] at this
  exact hK.1 [4] 60 _ _ _ _ this
set_option maxRecDepth 100000 in
theorem t_wheelOnce (hn : n ≤ 7) (hw : ∀ k, k < n → vp_in (w k) 7) (q : Int32) (h : post (some (.int (zb (sMvd w i pc ey el n lg q n)))) (wLn w (sFill (sMv w i pc ey el n lg q) i n) (sFill (sFt f n) f n) pc ey el ps n lg)) : zGoes mX1_wheelOnce 3 3 [.ref 0, .int q] (wLn w i f pc ey el ps n lg) post := by
  intro K hK
  refine hK.1 [] 30 _ _ _ _ ?_
  refine And.intro rfl (Or.inl ⟨rfl, rfl, t_moveAll hn hw q ?_⟩)
  exact And.intro rfl (Or.inl ⟨rfl, rfl, t_changeFeet hn (And.intro (zb_cases _) h)⟩)
set_option maxRecDepth 100000 in
theorem t_pacesBehind (hn : n ≤ 7) (x : Int32) (h : post (some (.int (sBeh i pc n x n))) (wLn w i f pc ey el ps n lg)) : zGoes mX1_pacesBehind 1 6 [.ref 0, .int x] (wLn w i f pc ey el ps n lg) post := by
  intro K hK
  have loop : ∀ (d p : Nat) (o4 o5 : Option Value), p + d = n → K 4 [some (.ref 0), some (.int x), some (.int (sBeh i pc n x p)), some (.int (nI p)), o4, o5] [] (wLn w i f pc ey el ps n lg) := by
    intro d
    induction d with
    | zero =>
      intro p o4 o5 hp
      have e : p = n := by omega
      subst e
      refine hK.1 [4] 60 _ _ _ _ (And.intro (fun c => h) (fun c => ?_))
      exact absurd (le_of (Nat.le_refl _) (by omega)) c
    | succ d ih =>
      intro p o4 o5 hp
      have ec : i (nI p).toNatClampNeg = i p := by rw [nI_c0 (by omega)]
      have j54 : K 54 [some (.ref 0), some (.int x), some (.int (sBeh i pc n x (p + 1))), some (.int (nI p)), some (.int (sWant pc n p)), some (.int (x - i p))] [] (wLn w i f pc ey el ps n lg) := by
        have := ih (p + 1) (some (.int (sWant pc n p))) (some (.int (x - i p))) (by omega)
        rw [← nI_1] at this
        exact hK.1 [4] 60 _ _ _ _ this
      rw [← ec] at j54
      unfold sBeh at j54
      refine hK.1 [54] 60 _ _ _ _ (And.intro (fun c => ?_) (fun c => ?_))
      · exact absurd c (nle_of (by omega) (by omega))
      · refine And.intro rfl (Or.inl ⟨rfl, rfl, t_wants p hn ?_⟩)
        refine And.intro (vi0 (by omega) (by omega)) (And.intro (fun c2 => ?_) (fun c2 => ?_))
        · rw [if_neg (fun z => absurd z.1 (Int32.not_lt.mpr c2))] at j54
          exact j54
        · refine And.intro (fun c3 => ?_) (fun c3 => ?_)
          · rw [if_neg (fun z => absurd c3 (by rw [← ec] at z; exact Int32.not_lt.mpr z.2))] at j54
            exact j54
          · rw [if_pos (show _ ∧ _ from ⟨Int32.not_le.mp c2, by rw [← ec]; exact Int32.not_lt.mp c3⟩), ← ec] at j54
            exact And.intro (fun z => c2 (by rw [z]; decide)) j54
  exact hK.1 [4] 60 _ _ _ _ (loop n 0 none none (by omega))
set_option maxRecDepth 100000 in
theorem t_placeOf (hn : n ≤ 7) (x : Int32) (h : post (some (.int (sFirst (fun p => decide (w p = x)) (-1001) n 0))) (wLn w i f pc ey el ps n lg)) : zGoes mX1_placeOf 1 3 [.ref 0, .int x] (wLn w i f pc ey el ps n lg) post := by
  intro K hK
  have loop : ∀ (d p : Nat), p + d = n → post (some (.int (sFirst (fun p => decide (w p = x)) (-1001) d p))) (wLn w i f pc ey el ps n lg) → K 2 [some (.ref 0), some (.int x), some (.int (nI p))] [] (wLn w i f pc ey el ps n lg) := by
    intro d
    induction d with
    | zero =>
      intro p hp h
      have e : p = n := by omega
      subst e
      refine hK.1 [2] 60 _ _ _ _ (And.intro (fun c => h) (fun c => ?_))
      exact absurd (le_of (Nat.le_refl _) (by omega)) c
    | succ d ih =>
      intro p hp h
      unfold sFirst at h
      refine hK.1 [2] 60 _ _ _ _ (And.intro (fun c => ?_) (fun c => ?_))
      · exact absurd c (nle_of (by omega) (by omega))
      · refine And.intro (vi0 (by omega) (by omega)) (And.intro (fun c2 => ?_) (fun c2 => ?_))
        · rw [nI_c0 (by omega)] at c2
          rw [if_pos (by simpa using c2)] at h
          exact h
        · rw [nI_c0 (by omega)] at c2
          rw [if_neg (by simpa using c2)] at h
          have := ih (p + 1) (by omega) h
          rw [← nI_1] at this
          exact this
  exact hK.1 [2] 60 _ _ _ _ (loop n 0 (by omega) h)
theorem zEqC_i {n : Nat} {f f' : Nat → Int32} (h : ∀ j, j < n → f j = f' j) : zEqC (.inl (0, n, f)) (.inl (0, n, f')) := by
  show zbool (Nat.beq 0 0 && Nat.beq n n) _
  rw [show Nat.beq n n = true from Nat.beq_refl n]
  exact h
set_option maxRecDepth 100000 in
theorem t_formUp (a b c : Int32) (h : post none (wLn nI (fun _ => 0) (fun _ => 0) a b c 0 n lg)) : zGoes mX1_formUp 0 5 [.ref 0, .int a, .int b, .int c] (wLn w i f pc ey el ps n lg) post := by
  intro K hK
  have fin : K 61 [some (.ref 0), some (.int a), some (.int b), some (.int c), some (.int (nI 7))] [] (wLn (sFill nI w 7) (sFill (fun _ => 0) i 7) (sFill (fun _ => 0) f 7) a b c 0 n lg) := by
    refine hK.2 _ _ _ _ (wLn nI (fun _ => 0) (fun _ => 0) a b c 0 n lg) ?_ (hK.1 [] 10 _ _ _ _ h)
    exact ⟨rfl, zEqC_i (fun j hj => sFill_lt hj), zEqC_i (fun j hj => sFill_lt hj), zEqC_i (fun j hj => sFill_lt hj), rfl, zEqC_i (fun _ _ => rfl), trivial⟩
  have loop : ∀ (d p : Nat), p + d = 7 → K 3 [some (.ref 0), some (.int a), some (.int b), some (.int c), some (.int (nI p))] [] (wLn (sFill nI w p) (sFill (fun _ => 0) i p) (sFill (fun _ => 0) f p) pc ey el ps n lg) := by
    intro d
    induction d with
    | zero =>
      intro p hp
      have e : p = 7 := by omega
      subst e
      refine hK.1 [3, 61] 60 _ _ _ _ (And.intro (fun c => fin) (fun c => ?_))
      exact absurd (by decide) c
    | succ d ih =>
      intro p hp
      have ec : (nI p).toNatClampNeg = p := nI_c0 (by omega)
      refine hK.1 [3, 61] 60 _ _ _ _ (And.intro (fun c => ?_) (fun c => ?_))
      · rw [← n7] at c
        exact absurd c (nle_of (by omega) (by omega))
      · refine And.intro (vi0 (by omega) (by omega)) (And.intro (vi0 (by omega) (by omega)) (And.intro (vi0 (by omega) (by omega)) ?_))
        have := ih (p + 1) (by omega)
        have h1 : upd (sFill nI w p) (nI p).toNatClampNeg (nI p) = sFill nI w (p + 1) := by rw [ec, sFill_upd]
        have h2 : upd (sFill (fun _ => 0) i p) (nI p).toNatClampNeg 0 = sFill (fun _ => 0) i (p + 1) := by rw [ec]; exact sFill_upd (fun _ => 0) i p
        have h3 : upd (sFill (fun _ => 0) f p) (nI p).toNatClampNeg 0 = sFill (fun _ => 0) f (p + 1) := by rw [ec]; exact sFill_upd (fun _ => 0) f p
        rw [← nI_1, ← h1, ← h2, ← h3] at this
        exact this
  have := loop 7 0 (by omega)
  rw [sFill_0, sFill_0, sFill_0] at this
  exact hK.1 [3] 60 _ _ _ _ this
end LN4
end
section
theorem cpy7 (f g : Nat → Int32) : ∀ j, j < 7 → va_cpy f g (0 : Int32).toNatClampNeg (0 : Int32).toNatClampNeg (7 : Int32).toNatClampNeg j = f j := by
  intro j hj
  have e0 : (0 : Int32).toNatClampNeg = 0 := by decide
  have e7 : (7 : Int32).toNatClampNeg = 7 := by decide
  unfold va_cpy
  rw [e0, e7, if_pos ⟨Nat.zero_le _, by omega⟩]
  congr 1
  omega
/-- two lines, of the same men (place 8) -/
def wL2 (w i f : Nat → Int32) (pc ey el ps : Int32) (w' i' f' : Nat → Int32) (pc' ey' el' ps' : Int32) : zW := [.inr (.inr (1, [.ref 8, .ref 1, .ref 2, .ref 3, .int pc, .int ey, .int el, .int ps])), .inl (0, 7, w), .inl (0, 7, i), .inl (0, 7, f), .inr (.inr (1, [.ref 8, .ref 5, .ref 6, .ref 7, .int pc', .int ey', .int el', .int ps'])), .inl (0, 7, w'), .inl (0, 7, i'), .inl (0, 7, f')]
set_option maxRecDepth 100000 in
theorem t_copyFrom {w i f w' i' f' : Nat → Int32} {pc ey el ps pc' ey' el' ps' : Int32} {post : zP} (h : post none (wL2 w' i' f' pc' ey' el' ps' w' i' f' pc' ey' el' ps')) : zGoes mX1_copyFrom 0 2 [.ref 0, .ref 4] (wL2 w i f pc ey el ps w' i' f' pc' ey' el' ps') post := by
  intro K hK
  have fin := hK.2 77 [some (.ref 0), some (.ref 4)] [] (wL2 (va_cpy w' w (0 : Int32).toNatClampNeg (0 : Int32).toNatClampNeg (7 : Int32).toNatClampNeg) (va_cpy i' i (0 : Int32).toNatClampNeg (0 : Int32).toNatClampNeg (7 : Int32).toNatClampNeg) (va_cpy f' f (0 : Int32).toNatClampNeg (0 : Int32).toNatClampNeg (7 : Int32).toNatClampNeg) pc' ey' el' ps' w' i' f' pc' ey' el' ps') (wL2 w' i' f' pc' ey' el' ps' w' i' f' pc' ey' el' ps') ⟨rfl, zEqC_i (cpy7 _ _), zEqC_i (cpy7 _ _), zEqC_i (cpy7 _ _), rfl, zEqC_i (fun _ _ => rfl), zEqC_i (fun _ _ => rfl), zEqC_i (fun _ _ => rfl), trivial⟩ (hK.1 [] 10 _ _ _ _ h)
  exact hK.1 [77] 90 _ _ _ _ (And.intro (by decide) (And.intro (by decide) (And.intro (by decide) fin)))
/-- two Men -/
def wM2 (n : Int32) (a b : Nat → Int32) (n' : Int32) (a' b' : Nat → Int32) : zW := [.inr (.inr (2, [.int n, .ref 1, .ref 2])), .inl (0, 7, a), .inl (0, 7, b), .inr (.inr (2, [.int n', .ref 4, .ref 5])), .inl (0, 7, a'), .inl (0, 7, b')]
set_option maxRecDepth 100000 in
theorem t_menCopy {n n' : Int32} {a b a' b' : Nat → Int32} {post : zP} (h : post none (wM2 n' a' b' n' a' b')) : zGoes mX2_copyFrom 0 2 [.ref 0, .ref 3] (wM2 n a b n' a' b') post := by
  intro K hK
  have fin := hK.2 38 [some (.ref 0), some (.ref 3)] [] (wM2 n' (va_cpy a' a (0 : Int32).toNatClampNeg (0 : Int32).toNatClampNeg (7 : Int32).toNatClampNeg) (va_cpy b' b (0 : Int32).toNatClampNeg (0 : Int32).toNatClampNeg (7 : Int32).toNatClampNeg) n' a' b') (wM2 n' a' b' n' a' b') ⟨rfl, zEqC_i (cpy7 _ _), zEqC_i (cpy7 _ _), rfl, zEqC_i (fun _ _ => rfl), zEqC_i (fun _ _ => rfl), trivial⟩ (hK.1 [] 10 _ _ _ _ h)
  exact hK.1 [38] 90 _ _ _ _ (And.intro (by decide) (And.intro (by decide) fin))
/-- one Men -/
def wM1 (n : Nat) (a b : Nat → Int32) : zW := [.inr (.inr (2, [.int (nI n), .ref 1, .ref 2])), .inl (0, 7, a), .inl (0, 7, b)]
set_option maxRecDepth 100000 in
theorem t_join {n : Nat} {a b : Nat → Int32} {post : zP} (hn : n < 7) (x y : Int32) (h : post none (wM1 (n + 1) (upd a n x) (upd b n y))) : zGoes mX2_join 0 3 [.ref 0, .int x, .int y] (wM1 n a b) post := by
  intro K hK
  refine hK.1 [] 90 _ _ _ _ (And.intro (fun c => ?_) (fun c => ?_))
  · rw [← n7] at c
    exact absurd c (nle_of (by omega) (by omega))
  · have ec : (nI n).toNatClampNeg = n := nI_c0 (by omega)
    unfold wM1 at h
    rw [← nI_1] at h
    have h2 : post none [.inr (.inr (2, [.int (nI n + 1), .ref 1, .ref 2])), .inl (0, 7, upd a (nI n).toNatClampNeg x), .inl (0, 7, upd b (nI n).toNatClampNeg y)] := by rw [ec]; exact h
    exact And.intro (vi0 (by omega) (by omega)) (And.intro (vi0 (by omega) (by omega)) h2)
/-- what was seen -/
def wSe (z : Nat) (a b c : Nat → Int32) : zW := [.inr (.inr (5, [.int (nI z), .ref 1, .ref 2, .ref 3])), .inl (0, 6, a), .inl (0, 6, b), .inl (0, 6, c)]
theorem n6 : nI 6 = 6 := by decide
set_option maxRecDepth 100000 in
theorem t_note {z : Nat} {a b c : Nat → Int32} {post : zP} (hz : z < 6) (x y u : Int32) (h : post none (wSe (z + 1) (upd a z x) (upd b z y) (upd c z u))) : zGoes mX5_note 0 4 [.ref 0, .int x, .int y, .int u] (wSe z a b c) post := by
  intro K hK
  refine hK.1 [] 90 _ _ _ _ (And.intro (fun q => ?_) (fun q => ?_))
  · rw [← n6] at q
    exact absurd q (nle_of (by omega) (by omega))
  · have ec : (nI z).toNatClampNeg = z := nI_c0 (by omega)
    unfold wSe at h
    rw [← nI_1] at h
    have h2 : post none [.inr (.inr (5, [.int (nI z + 1), .ref 1, .ref 2, .ref 3])), .inl (0, 6, upd a (nI z).toNatClampNeg x), .inl (0, 6, upd b (nI z).toNatClampNeg y), .inl (0, 6, upd c (nI z).toNatClampNeg u)] := by rw [ec]; exact h
    exact And.intro (vi0 (by omega) (by omega)) (And.intro (vi0 (by omega) (by omega)) (And.intro (vi0 (by omega) (by omega)) h2))
def sLast (b : Nat → Int32) : Nat → Int32
  | 0 => -1
  | k + 1 => zmax (sLast b k) (b k)
set_option maxRecDepth 100000 in
theorem t_lastPace {z : Nat} {a b c : Nat → Int32} {post : zP} (hz : z ≤ 6) (h : post (some (.int (sLast b z))) (wSe z a b c)) : zGoes mX5_lastPace 1 3 [.ref 0] (wSe z a b c) post := by
  intro K hK
  have loop : ∀ d p : Nat, p + d = z → K 4 [some (.ref 0), some (.int (sLast b p)), some (.int (nI p))] [] (wSe z a b c) := by
    intro d
    induction d with
    | zero =>
      intro p hp
      have e : p = z := by omega
      subst e
      refine hK.1 [4] 60 _ _ _ _ (And.intro (fun c => h) (fun c => ?_))
      exact absurd (le_of (Nat.le_refl _) (by omega)) c
    | succ d ih =>
      intro p hp
      refine hK.1 [4] 60 _ _ _ _ (And.intro (fun c => ?_) (fun c => ?_))
      · exact absurd c (nle_of (by omega) (by omega))
      · refine And.intro (vi0 (by omega) (by omega)) ?_
        have ih := ih (p + 1) (by omega)
        have e : b (nI p).toNatClampNeg = b p := by rw [nI_c0 (by omega)]
        unfold sLast at ih
        rw [← nI_1, ← e] at ih
        exact ih
  exact hK.1 [4] 60 _ _ _ _ (loop z 0 (by omega))
/-- what was seen, and a line (place 4) -/
def wSL (z : Nat) (a b c : Nat → Int32) (w i f : Nat → Int32) (pc ey el ps : Int32) : zW := [.inr (.inr (5, [.int (nI z), .ref 1, .ref 2, .ref 3])), .inl (0, 6, a), .inl (0, 6, b), .inl (0, 6, c), .inr (.inr (1, [.ref 8, .ref 5, .ref 6, .ref 7, .int pc, .int ey, .int el, .int ps])), .inl (0, 7, w), .inl (0, 7, i), .inl (0, 7, f)]
def sFit (a b c i : Nat → Int32) (k : Int32) (z : Nat) : Bool := (List.range z).all (fun j => decide (b j = k → i (a j).toNatClampNeg = c j))
theorem sFit_go {a b c i : Nat → Int32} {k : Int32} {z : Nat} (h : ∀ j, j < z → b j = k → i (a j).toNatClampNeg = c j) : sFit a b c i k z = true := by
  unfold sFit
  rw [List.all_eq_true]
  intro j hj
  rw [decide_eq_true_eq]
  exact h j (List.mem_range.mp hj)
theorem sFit_no {a b c i : Nat → Int32} {k : Int32} {z j : Nat} (hj : j < z) (h1 : b j = k) (h2 : ¬ i (a j).toNatClampNeg = c j) : sFit a b c i k z = false := by
  cases hs : sFit a b c i k z with
  | false => rfl
  | true =>
    unfold sFit at hs
    rw [List.all_eq_true] at hs
    have := hs j (List.mem_range.mpr hj)
    rw [decide_eq_true_eq] at this
    exact absurd (this h1) h2
set_option maxRecDepth 100000 in
theorem t_fit {z : Nat} {a b c w i f : Nat → Int32} {pc ey el ps : Int32} {post : zP} (hz : z ≤ 6) (ha : ∀ j, j < z → vp_in (a j) 7) (k : Int32) (h : post (some (.int (zb (sFit a b c i k z)))) (wSL z a b c w i f pc ey el ps)) : zGoes mX5_fit 3 4 [.ref 0, .ref 4, .int k] (wSL z a b c w i f pc ey el ps) post := by
  intro K hK
  have loop : ∀ d p : Nat, p + d = z → (∀ j, j < p → b j = k → i (a j).toNatClampNeg = c j) → K 2 [some (.ref 0), some (.ref 4), some (.int k), some (.int (nI p))] [] (wSL z a b c w i f pc ey el ps) := by
    intro d
    induction d with
    | zero =>
      intro p hp hq
      have e : p = z := by omega
      subst e
      rw [sFit_go hq] at h
      refine hK.1 [2] 60 _ _ _ _ (And.intro (fun c => And.intro (Or.inr rfl) h) (fun c => ?_))
      exact absurd (le_of (Nat.le_refl _) (by omega)) c
    | succ d ih =>
      intro p hp hq
      have ec : (nI p).toNatClampNeg = p := nI_c0 (by omega)
      have next : (b p = k → i (a p).toNatClampNeg = c p) → K 42 [some (.ref 0), some (.ref 4), some (.int k), some (.int (nI p))] [] (wSL z a b c w i f pc ey el ps) := by
        intro hb
        have := ih (p + 1) (by omega) (fun j hj hbj => by
          rcases Nat.lt_or_ge j p with h3 | h3
          · exact hq j h3 hbj
          · have : j = p := by omega
            subst this
            exact hb hbj)
        rw [← nI_1] at this
        exact hK.1 [2] 20 _ _ _ _ this
      refine hK.1 [2, 42] 60 _ _ _ _ (And.intro (fun c => ?_) (fun c => ?_))
      · exact absurd c (nle_of (by omega) (by omega))
      · refine And.intro (vi0 (by omega) (by omega)) (And.intro (fun c2 => ?_) (fun c2 => ?_))
        · rw [ec] at c2
          refine And.intro (vi0 (by omega) (by omega)) (And.intro (by rw [ec]; exact ha p (by omega)) (And.intro (vi0 (by omega) (by omega)) (And.intro (fun c3 => ?_) (fun c3 => ?_))))
          · rw [ec] at c3
            exact next (fun _ => c3)
          · rw [ec] at c3
            rw [sFit_no (by omega) c2 c3] at h
            exact And.intro (Or.inl rfl) h
        · rw [ec] at c2
          exact next (fun q => absurd q c2)
  exact hK.1 [2] 60 _ _ _ _ (loop z 0 (by omega) (fun j hj => by omega))
end
section
/-- a line: who, inches, feet, pace, eye, elbow, paces -/
abbrev zLn : Type := (Nat → Int32) × (Nat → Int32) × (Nat → Int32) × Int32 × Int32 × Int32 × Int32
theorem vpd {i : Int32} {n : Nat} (h : ¬ (i < 0 ∨ n ≤ i.toNatClampNeg)) : vp_in i n := h
def zfl (Q P : Nat → zLn) (p : Nat) : Nat → zLn := fun j => if j < p then Q j else P j
end
section
/-- the class's cells: RankWheels (0), text (1), telling (2 to 6), men (7 to 9), line (10 to 13), ahead (14 to 17), past and its row (18, 19), images (20 to 22), sightings (23 to 26), ordering (27 to 29), and what lies behind -/
def wC (t : Nat → Int32) (b : Nat) (c2 c3 c4 c5 c6 : zCell) (n : Nat) (lg ht : Nat → Int32) (x y : zLn) (sz : Int32) (kn : List (Option Nat)) (k0 k1 : Int32) (z : Nat) (sa sb sc : Nat → Int32) (c7 c8 c9 : zCell) (tr : Int64) (tl : zW) : zW := .inr (.inr (7, [.ref 1, .int (nI b), .ref 2, .ref 7, .ref 10, .ref 14, .ref 18, .ref 20, .ref 23, .ref 27, .long tr])) :: .inl (0, 120, t) :: c2 :: c3 :: c4 :: c5 :: c6 :: .inr (.inr (2, [.int (nI n), .ref 8, .ref 9])) :: .inl (0, 7, lg) :: .inl (0, 7, ht) :: .inr (.inr (1, [.ref 7, .ref 11, .ref 12, .ref 13, .int x.2.2.2.1, .int x.2.2.2.2.1, .int x.2.2.2.2.2.1, .int x.2.2.2.2.2.2])) :: .inl (0, 7, x.1) :: .inl (0, 7, x.2.1) :: .inl (0, 7, x.2.2.1) :: .inr (.inr (1, [.ref 7, .ref 15, .ref 16, .ref 17, .int y.2.2.2.1, .int y.2.2.2.2.1, .int y.2.2.2.2.2.1, .int y.2.2.2.2.2.2])) :: .inl (0, 7, y.1) :: .inl (0, 7, y.2.1) :: .inl (0, 7, y.2.2.1) :: .inr (.inr (4, [.ref 19, .int sz])) :: .inr (.inl (4, kn)) :: .inr (.inl (3, [some 21, some 22])) :: .inr (.inr (0, [.ref 70, .ref 74, .int k0])) :: .inr (.inr (0, [.ref 116, .ref 120, .int k1])) :: .inr (.inr (5, [.int (nI z), .ref 24, .ref 25, .ref 26])) :: .inl (0, 6, sa) :: .inl (0, 6, sb) :: .inl (0, 6, sc) :: c7 :: c8 :: c9 :: tl
def sStep (n : Nat) (lg : Nat → Int32) (q : Int32) (y : zLn) : zLn := (y.1, sFill (sMv y.1 y.2.1 y.2.2.2.1 y.2.2.2.2.1 y.2.2.2.2.2.1 n lg q) y.2.1 n, sFill (sFt y.2.2.1 n) y.2.2.1 n, y.2.2.2.1, y.2.2.2.2.1, y.2.2.2.2.2.1, y.2.2.2.2.2.2)
def sMoved (n : Nat) (lg : Nat → Int32) (q : Int32) (y : zLn) : Bool := sMvd y.1 y.2.1 y.2.2.2.1 y.2.2.2.2.1 y.2.2.2.2.2.1 n lg q n
def sLose (p : Nat) (v : Int32) (y : zLn) : zLn := (y.1, upd y.2.1 p (zmax (-999) (y.2.1 p - v)), y.2.2.1, y.2.2.2.1, y.2.2.2.2.1, y.2.2.2.2.2.1, y.2.2.2.2.2.2)
section RW0
variable {t : Nat → Int32} {b : Nat} {c2 c3 c4 c5 c6 : zCell} {n : Nat} {lg ht : Nat → Int32} {x y : zLn} {sz : Int32} {kn : List (Option Nat)} {k0 k1 : Int32} {z : Nat} {sa sb sc : Nat → Int32} {c7 c8 c9 : zCell} {tr : Int64} {tl : zW}
variable {K : zP}
set_option maxRecDepth 100000 in
theorem uL_bulge (hn : n ≤ 7) (h : K (some (.int (sBulge x.2.1 (n - 1)))) (wC t b c2 c3 c4 c5 c6 n lg ht x y sz kn k0 k1 z sa sb sc c7 c8 c9 tr tl)) : zFV 1 1 (zGoes mX1_bulge 1 3) [.ref 10] (wC t b c2 c3 c4 c5 c6 n lg ht x y sz kn k0 k1 z sa sb sc c7 c8 c9 tr tl) K := And.intro rfl (Or.inr ⟨[10, 11, 12, 13, 7, 8, 9], [.ref 0], (wLn x.1 x.2.1 x.2.2.1 x.2.2.2.1 x.2.2.2.2.1 x.2.2.2.2.2.1 x.2.2.2.2.2.2 n lg), ⟨rfl, rfl, rfl⟩, ⟨Nat.le_of_ble_eq_true rfl, rfl⟩, rfl, t_bulge hn h⟩)
set_option maxRecDepth 100000 in
theorem uL_inLine (hn : n ≤ 7) (h : K (some (.int (nI (sLine x.2.1 n)))) (wC t b c2 c3 c4 c5 c6 n lg ht x y sz kn k0 k1 z sa sb sc c7 c8 c9 tr tl)) : zFV 1 1 (zGoes mX1_placesInLine 1 3) [.ref 10] (wC t b c2 c3 c4 c5 c6 n lg ht x y sz kn k0 k1 z sa sb sc c7 c8 c9 tr tl) K := And.intro rfl (Or.inr ⟨[10, 11, 12, 13, 7, 8, 9], [.ref 0], (wLn x.1 x.2.1 x.2.2.1 x.2.2.2.1 x.2.2.2.2.1 x.2.2.2.2.2.1 x.2.2.2.2.2.2 n lg), ⟨rfl, rfl, rfl⟩, ⟨Nat.le_of_ble_eq_true rfl, rfl⟩, rfl, t_placesInLine hn h⟩)
set_option maxRecDepth 100000 in
theorem uL_step (hn : n ≤ 7) (hw : ∀ k, k < n → vp_in (x.1 k) 7) (q : Int32) (h : K (some (.int (zb (sMoved n lg q x)))) (wC t b c2 c3 c4 c5 c6 n lg ht (sStep n lg q x) y sz kn k0 k1 z sa sb sc c7 c8 c9 tr tl)) : zFV 1 2 (zGoes mX1_wheelOnce 3 3) [.ref 10, .int q] (wC t b c2 c3 c4 c5 c6 n lg ht x y sz kn k0 k1 z sa sb sc c7 c8 c9 tr tl) K := And.intro rfl (Or.inr ⟨[10, 11, 12, 13, 7, 8, 9], [.ref 0, .int q], (wLn x.1 x.2.1 x.2.2.1 x.2.2.2.1 x.2.2.2.2.1 x.2.2.2.2.2.1 x.2.2.2.2.2.2 n lg), ⟨rfl, rfl, rfl⟩, ⟨Nat.le_of_ble_eq_true rfl, rfl⟩, rfl, t_wheelOnce hn hw q h⟩)
set_option maxRecDepth 100000 in
theorem uL_lose (p : Nat) (hp : p < 7) (u : Int32) (h : K none (wC t b c2 c3 c4 c5 c6 n lg ht (sLose p u x) y sz kn k0 k1 z sa sb sc c7 c8 c9 tr tl)) : zFV 1 3 (zGoes mX1_lose 0 3) [.ref 10, .int (nI p), .int u] (wC t b c2 c3 c4 c5 c6 n lg ht x y sz kn k0 k1 z sa sb sc c7 c8 c9 tr tl) K := And.intro rfl (Or.inr ⟨[10, 11, 12, 13, 7, 8, 9], [.ref 0, .int (nI p), .int u], (wLn x.1 x.2.1 x.2.2.1 x.2.2.2.1 x.2.2.2.2.1 x.2.2.2.2.2.1 x.2.2.2.2.2.2 n lg), ⟨rfl, rfl, rfl⟩, ⟨Nat.le_of_ble_eq_true rfl, rfl⟩, rfl, t_lose p hp u h⟩)
set_option maxRecDepth 100000 in
theorem uA_bulge (hn : n ≤ 7) (h : K (some (.int (sBulge y.2.1 (n - 1)))) (wC t b c2 c3 c4 c5 c6 n lg ht x y sz kn k0 k1 z sa sb sc c7 c8 c9 tr tl)) : zFV 1 1 (zGoes mX1_bulge 1 3) [.ref 14] (wC t b c2 c3 c4 c5 c6 n lg ht x y sz kn k0 k1 z sa sb sc c7 c8 c9 tr tl) K := And.intro rfl (Or.inr ⟨[14, 15, 16, 17, 7, 8, 9], [.ref 0], (wLn y.1 y.2.1 y.2.2.1 y.2.2.2.1 y.2.2.2.2.1 y.2.2.2.2.2.1 y.2.2.2.2.2.2 n lg), ⟨rfl, rfl, rfl⟩, ⟨Nat.le_of_ble_eq_true rfl, rfl⟩, rfl, t_bulge hn h⟩)
set_option maxRecDepth 100000 in
theorem uA_inLine (hn : n ≤ 7) (h : K (some (.int (nI (sLine y.2.1 n)))) (wC t b c2 c3 c4 c5 c6 n lg ht x y sz kn k0 k1 z sa sb sc c7 c8 c9 tr tl)) : zFV 1 1 (zGoes mX1_placesInLine 1 3) [.ref 14] (wC t b c2 c3 c4 c5 c6 n lg ht x y sz kn k0 k1 z sa sb sc c7 c8 c9 tr tl) K := And.intro rfl (Or.inr ⟨[14, 15, 16, 17, 7, 8, 9], [.ref 0], (wLn y.1 y.2.1 y.2.2.1 y.2.2.2.1 y.2.2.2.2.1 y.2.2.2.2.2.1 y.2.2.2.2.2.2 n lg), ⟨rfl, rfl, rfl⟩, ⟨Nat.le_of_ble_eq_true rfl, rfl⟩, rfl, t_placesInLine hn h⟩)
set_option maxRecDepth 100000 in
theorem uA_step (hn : n ≤ 7) (hw : ∀ k, k < n → vp_in (y.1 k) 7) (q : Int32) (h : K (some (.int (zb (sMoved n lg q y)))) (wC t b c2 c3 c4 c5 c6 n lg ht x (sStep n lg q y) sz kn k0 k1 z sa sb sc c7 c8 c9 tr tl)) : zFV 1 2 (zGoes mX1_wheelOnce 3 3) [.ref 14, .int q] (wC t b c2 c3 c4 c5 c6 n lg ht x y sz kn k0 k1 z sa sb sc c7 c8 c9 tr tl) K := And.intro rfl (Or.inr ⟨[14, 15, 16, 17, 7, 8, 9], [.ref 0, .int q], (wLn y.1 y.2.1 y.2.2.1 y.2.2.2.1 y.2.2.2.2.1 y.2.2.2.2.2.1 y.2.2.2.2.2.2 n lg), ⟨rfl, rfl, rfl⟩, ⟨Nat.le_of_ble_eq_true rfl, rfl⟩, rfl, t_wheelOnce hn hw q h⟩)
set_option maxRecDepth 100000 in
theorem uA_lose (p : Nat) (hp : p < 7) (u : Int32) (h : K none (wC t b c2 c3 c4 c5 c6 n lg ht x (sLose p u y) sz kn k0 k1 z sa sb sc c7 c8 c9 tr tl)) : zFV 1 3 (zGoes mX1_lose 0 3) [.ref 14, .int (nI p), .int u] (wC t b c2 c3 c4 c5 c6 n lg ht x y sz kn k0 k1 z sa sb sc c7 c8 c9 tr tl) K := And.intro rfl (Or.inr ⟨[14, 15, 16, 17, 7, 8, 9], [.ref 0, .int (nI p), .int u], (wLn y.1 y.2.1 y.2.2.1 y.2.2.2.1 y.2.2.2.2.1 y.2.2.2.2.2.1 y.2.2.2.2.2.2 n lg), ⟨rfl, rfl, rfl⟩, ⟨Nat.le_of_ble_eq_true rfl, rfl⟩, rfl, t_lose p hp u h⟩)
set_option maxRecDepth 100000 in
theorem uL_bulgePlace (hn : n ≤ 7) (h : K (some (.int (sFirst (fun p => decide (zabs (x.2.1 (p + 1) - x.2.1 p) = sBulge x.2.1 (n - 1))) (-1009) (n - 1) 0))) (wC t b c2 c3 c4 c5 c6 n lg ht x y sz kn k0 k1 z sa sb sc c7 c8 c9 tr tl)) : zFV 1 1 (zGoes mX1_bulgePlace 1 3) [.ref 10] (wC t b c2 c3 c4 c5 c6 n lg ht x y sz kn k0 k1 z sa sb sc c7 c8 c9 tr tl) K := And.intro rfl (Or.inr ⟨[10, 11, 12, 13, 7, 8, 9], [.ref 0], (wLn x.1 x.2.1 x.2.2.1 x.2.2.2.1 x.2.2.2.2.1 x.2.2.2.2.2.1 x.2.2.2.2.2.2 n lg), ⟨rfl, rfl, rfl⟩, ⟨Nat.le_of_ble_eq_true rfl, rfl⟩, rfl, t_bulgePlace hn h⟩)
set_option maxRecDepth 100000 in
theorem uL_feet (hn : n ≤ 7) (h : K (some (.int (sFeet x.2.2.1 n))) (wC t b c2 c3 c4 c5 c6 n lg ht x y sz kn k0 k1 z sa sb sc c7 c8 c9 tr tl)) : zFV 1 1 (zGoes mX1_feet 1 3) [.ref 10] (wC t b c2 c3 c4 c5 c6 n lg ht x y sz kn k0 k1 z sa sb sc c7 c8 c9 tr tl) K := And.intro rfl (Or.inr ⟨[10, 11, 12, 13, 7, 8, 9], [.ref 0], (wLn x.1 x.2.1 x.2.2.1 x.2.2.2.1 x.2.2.2.2.1 x.2.2.2.2.2.1 x.2.2.2.2.2.2 n lg), ⟨rfl, rfl, rfl⟩, ⟨Nat.le_of_ble_eq_true rfl, rfl⟩, rfl, t_feet hn h⟩)
set_option maxRecDepth 100000 in
theorem uL_placeOf (hn : n ≤ 7) (u : Int32) (h : K (some (.int (sFirst (fun p => decide (x.1 p = u)) (-1001) n 0))) (wC t b c2 c3 c4 c5 c6 n lg ht x y sz kn k0 k1 z sa sb sc c7 c8 c9 tr tl)) : zFV 1 2 (zGoes mX1_placeOf 1 3) [.ref 10, .int u] (wC t b c2 c3 c4 c5 c6 n lg ht x y sz kn k0 k1 z sa sb sc c7 c8 c9 tr tl) K := And.intro rfl (Or.inr ⟨[10, 11, 12, 13, 7, 8, 9], [.ref 0, .int u], (wLn x.1 x.2.1 x.2.2.1 x.2.2.2.1 x.2.2.2.2.1 x.2.2.2.2.2.1 x.2.2.2.2.2.2 n lg), ⟨rfl, rfl, rfl⟩, ⟨Nat.le_of_ble_eq_true rfl, rfl⟩, rfl, t_placeOf hn u h⟩)
set_option maxRecDepth 100000 in
theorem uL_wants (hn : n ≤ 7) (p : Nat) (h : K (some (.int (sWant x.2.2.2.1 n p))) (wC t b c2 c3 c4 c5 c6 n lg ht x y sz kn k0 k1 z sa sb sc c7 c8 c9 tr tl)) : zFV 1 2 (zGoes mX1_wants 1 2) [.ref 10, .int (nI p)] (wC t b c2 c3 c4 c5 c6 n lg ht x y sz kn k0 k1 z sa sb sc c7 c8 c9 tr tl) K := And.intro rfl (Or.inr ⟨[10, 11, 12, 13, 7, 8, 9], [.ref 0, .int (nI p)], (wLn x.1 x.2.1 x.2.2.1 x.2.2.2.1 x.2.2.2.2.1 x.2.2.2.2.2.1 x.2.2.2.2.2.2 n lg), ⟨rfl, rfl, rfl⟩, ⟨Nat.le_of_ble_eq_true rfl, rfl⟩, rfl, t_wants p hn h⟩)
set_option maxRecDepth 100000 in
theorem uL_legAt (p : Nat) (hp : p < 7) (hw : vp_in (x.1 p) 7) (h : K (some (.int (lg (x.1 p).toNatClampNeg))) (wC t b c2 c3 c4 c5 c6 n lg ht x y sz kn k0 k1 z sa sb sc c7 c8 c9 tr tl)) : zFV 1 2 (zGoes mX1_legAt 1 2) [.ref 10, .int (nI p)] (wC t b c2 c3 c4 c5 c6 n lg ht x y sz kn k0 k1 z sa sb sc c7 c8 c9 tr tl) K := And.intro rfl (Or.inr ⟨[10, 11, 12, 13, 7, 8, 9], [.ref 0, .int (nI p)], (wLn x.1 x.2.1 x.2.2.1 x.2.2.2.1 x.2.2.2.2.1 x.2.2.2.2.2.1 x.2.2.2.2.2.2 n lg), ⟨rfl, rfl, rfl⟩, ⟨Nat.le_of_ble_eq_true rfl, rfl⟩, rfl, t_legAt p hp hw h⟩)
set_option maxRecDepth 100000 in
theorem uL_formUp (u1 u2 u3 : Int32) (h : K none (wC t b c2 c3 c4 c5 c6 n lg ht (nI, (fun _ => 0), (fun _ => 0), u1, u2, u3, 0) y sz kn k0 k1 z sa sb sc c7 c8 c9 tr tl)) : zFV 1 4 (zGoes mX1_formUp 0 5) [.ref 10, .int u1, .int u2, .int u3] (wC t b c2 c3 c4 c5 c6 n lg ht x y sz kn k0 k1 z sa sb sc c7 c8 c9 tr tl) K := And.intro rfl (Or.inr ⟨[10, 11, 12, 13, 7, 8, 9], [.ref 0, .int u1, .int u2, .int u3], (wLn x.1 x.2.1 x.2.2.1 x.2.2.2.1 x.2.2.2.2.1 x.2.2.2.2.2.1 x.2.2.2.2.2.2 n lg), ⟨rfl, rfl, rfl⟩, ⟨Nat.le_of_ble_eq_true rfl, rfl⟩, rfl, t_formUp u1 u2 u3 h⟩)
set_option maxRecDepth 100000 in
theorem uA_alike (hn : n ≤ 7) (h : K (some (.int (zb (sAlike y.2.2.1 n)))) (wC t b c2 c3 c4 c5 c6 n lg ht x y sz kn k0 k1 z sa sb sc c7 c8 c9 tr tl)) : zFV 1 1 (zGoes mX1_feetAlike 3 2) [.ref 14] (wC t b c2 c3 c4 c5 c6 n lg ht x y sz kn k0 k1 z sa sb sc c7 c8 c9 tr tl) K := And.intro rfl (Or.inr ⟨[14, 15, 16, 17, 7, 8, 9], [.ref 0], (wLn y.1 y.2.1 y.2.2.1 y.2.2.2.1 y.2.2.2.2.1 y.2.2.2.2.2.1 y.2.2.2.2.2.2 n lg), ⟨rfl, rfl, rfl⟩, ⟨Nat.le_of_ble_eq_true rfl, rfl⟩, rfl, t_feetAlike hn h⟩)
set_option maxRecDepth 100000 in
theorem uA_behind (hn : n ≤ 7) (u : Int32) (h : K (some (.int (sBeh y.2.1 y.2.2.2.1 n u n))) (wC t b c2 c3 c4 c5 c6 n lg ht x y sz kn k0 k1 z sa sb sc c7 c8 c9 tr tl)) : zFV 1 2 (zGoes mX1_pacesBehind 1 6) [.ref 14, .int u] (wC t b c2 c3 c4 c5 c6 n lg ht x y sz kn k0 k1 z sa sb sc c7 c8 c9 tr tl) K := And.intro rfl (Or.inr ⟨[14, 15, 16, 17, 7, 8, 9], [.ref 0, .int u], (wLn y.1 y.2.1 y.2.2.1 y.2.2.2.1 y.2.2.2.2.1 y.2.2.2.2.2.1 y.2.2.2.2.2.2 n lg), ⟨rfl, rfl, rfl⟩, ⟨Nat.le_of_ble_eq_true rfl, rfl⟩, rfl, t_pacesBehind hn u h⟩)
set_option maxRecDepth 100000 in
theorem uA_copy (h : K none (wC t b c2 c3 c4 c5 c6 n lg ht x x sz kn k0 k1 z sa sb sc c7 c8 c9 tr tl)) : zFV 1 2 (zGoes mX1_copyFrom 0 2) [.ref 14, .ref 10] (wC t b c2 c3 c4 c5 c6 n lg ht x y sz kn k0 k1 z sa sb sc c7 c8 c9 tr tl) K := And.intro rfl (Or.inr ⟨[14, 15, 16, 17, 10, 11, 12, 13, 7], [.ref 0, .ref 4], wL2 y.1 y.2.1 y.2.2.1 y.2.2.2.1 y.2.2.2.2.1 y.2.2.2.2.2.1 y.2.2.2.2.2.2 x.1 x.2.1 x.2.2.1 x.2.2.2.1 x.2.2.2.2.1 x.2.2.2.2.2.1 x.2.2.2.2.2.2, ⟨rfl, rfl, rfl⟩, ⟨Nat.le_of_ble_eq_true rfl, rfl⟩, rfl, t_copyFrom h⟩)
end RW0
end
section
def sInB (n : Nat) (p : Int32) : Bool := decide (0 ≤ p ∧ p ≤ nI n - 1)
theorem sInB_t {n : Nat} {p : Int32} (h : 0 ≤ p ∧ p ≤ nI n - 1) : sInB n p = true := decide_eq_true h
theorem sInB_f {n : Nat} {p : Int32} (h : ¬ (0 ≤ p ∧ p ≤ nI n - 1)) : ¬ sInB n p = true := fun q => h (of_decide_eq_true q)

abbrev sIn (n : Nat) (p : Int32) : Prop := 0 ≤ p ∧ p ≤ nI n - 1
theorem sIn_iff {n : Nat} (hn : n ≤ 7) (p : Int32) : sIn n p ↔ ∃ k, k < n ∧ p = nI k := by
  unfold sIn
  constructor
  · rintro ⟨h1, h2⟩
    obtain ⟨j, hj, rfl⟩ := nI_of (Int32.not_lt.mpr h1)
    rcases Nat.eq_zero_or_pos n with z | z
    · subst z
      exfalso
      have h3 : nI j ≤ -1 := h2
      rw [Int32.le_iff_toInt_le, nI_toInt hj] at h3
      have : (-1 : Int32).toInt = -1 := by decide
      omega
    · obtain ⟨m, rfl⟩ : ∃ m, n = m + 1 := ⟨n - 1, by omega⟩
      rw [nI_pred, nI_leI hj (by omega)] at h2
      exact ⟨j, by omega, rfl⟩
  · rintro ⟨k, hk, rfl⟩
    obtain ⟨m, rfl⟩ : ∃ m, n = m + 1 := ⟨n - 1, by omega⟩
    rw [nI_pred]
    exact ⟨nI_pos' (by omega), nI_le (by omega) (by omega)⟩
theorem tI {x y : Int32} {a : Int} (h : x.toInt = a) (hy : y.toInt = a) : x = y := Int32.toInt_inj.mp (h.trans hy.symm)
theorem tO {x : Int32} {a b : Int} {y : Int32} (h : x.toInt < a ∨ b < x.toInt) (h1 : a ≤ y.toInt) (h2 : y.toInt ≤ b) : ¬ x = y := fun e => by rw [e] at h; omega
set_option maxRecDepth 100000 in
theorem u_within {ws : zW} {K : zP} (a b c : Int32) (h1 : b ≤ a ∧ a ≤ c → K (some (.int 1)) ws) (h0 : ¬ (b ≤ a ∧ a ≤ c) → K (some (.int 0)) ws) : zFr 3 (zGoes mX7_within 3 3) [.int a, .int b, .int c] ws K := Or.inl ⟨rfl, rfl, t_within a b c (fun x y => h1 ⟨x, y⟩) h0⟩
section RWS
variable {t : Nat → Int32} {b : Nat} {c2 c3 c4 c5 c6 : zCell} {n : Nat} {lg ht : Nat → Int32} {x y : zLn} {sz : Int32} {kn : List (Option Nat)} {k0 k1 : Int32} {z : Nat} {sa sb sc : Nat → Int32} {c7 c8 c9 : zCell} {tr : Int64} {tl : zW}
variable {K : zP} {post : zP}

set_option maxRecDepth 100000 in
theorem u_isPlace (p : Int32) (h1 : sIn n p → K (some (.int 1)) (wC t b c2 c3 c4 c5 c6 n lg ht x y sz kn k0 k1 z sa sb sc c7 c8 c9 tr tl)) (h0 : ¬ sIn n p → K (some (.int 0)) (wC t b c2 c3 c4 c5 c6 n lg ht x y sz kn k0 k1 z sa sb sc c7 c8 c9 tr tl)) : zFV 7 2 (zGoes mX7_isPlace 3 2) [.ref 0, .int p] (wC t b c2 c3 c4 c5 c6 n lg ht x y sz kn k0 k1 z sa sb sc c7 c8 c9 tr tl) K := And.intro rfl (Or.inl ⟨rfl, rfl, fun Z hZ => hZ.1 [] 40 _ _ _ _ (u_within p 0 (nI n - 1) (fun q => And.intro (Or.inr rfl) (h1 q)) (fun q => And.intro (Or.inl rfl) (h0 q)))⟩)
def sType (b : Nat) (c : Int32) : Int32 := if 0 ≤ c ∧ c ≤ 255 then if b < 120 then nI b + 1 else -1003 else -1001
set_option maxRecDepth 100000 in
theorem c_type (hb : b ≤ 120) (c : Int32) (h : post (some (.int (sType b c))) (if 0 ≤ c ∧ c ≤ 255 ∧ b < 120 then (wC (upd t b c) (b + 1) c2 c3 c4 c5 c6 n lg ht x y sz kn k0 k1 z sa sb sc c7 c8 c9 tr tl) else (wC t b c2 c3 c4 c5 c6 n lg ht x y sz kn k0 k1 z sa sb sc c7 c8 c9 tr tl))) : zGoes mX7_type 1 2 [.ref 0, .int c] (wC t b c2 c3 c4 c5 c6 n lg ht x y sz kn k0 k1 z sa sb sc c7 c8 c9 tr tl) post := by
  intro Z hZ
  unfold sType at h
  refine hZ.1 [] 60 _ _ _ _ (u_within c 0 255 (fun q => ?_) (fun q => ?_))
  · rw [if_pos q] at h
    refine And.intro (fun e => absurd e (by decide)) (fun _ => And.intro (fun e => ?_) (fun e => ?_))
    · rw [show (120 : Int32) = nI 120 by decide, nI_ltI (by omega) (by omega)] at e
      rw [if_pos e, if_pos ⟨q.1, q.2, e⟩] at h
      have ec : (nI b).toNatClampNeg = b := nI_c0 (by omega)
      refine And.intro (vi0 (by omega) (by omega)) ?_
      unfold wC at h
      rw [← nI_1] at h
      have h2 := h
      rw [← ec] at h2
      simp only [ec] at h2
      show post (some (.int (nI b + 1))) _
      have hw : upd t (nI b).toNatClampNeg c = upd t b c := by rw [ec]
      rw [← hw] at h
      exact h
    · rw [show (120 : Int32) = nI 120 by decide, nI_ltI (by omega) (by omega)] at e
      rw [if_neg e, if_neg (fun z => e z.2.2)] at h
      exact h
  · rw [if_neg q, if_neg (fun z => q ⟨z.1, z.2.1⟩)] at h
    exact And.intro (fun _ => h) (fun e => absurd rfl e)
set_option maxRecDepth 100000 in
theorem c_clear (h : post (some (.int (nI b))) (wC t 0 c2 c3 c4 c5 c6 n lg ht x y sz kn k0 k1 z sa sb sc c7 c8 c9 tr tl)) : zGoes mX7_clear 1 2 [.ref 0] (wC t b c2 c3 c4 c5 c6 n lg ht x y sz kn k0 k1 z sa sb sc c7 c8 c9 tr tl) post := fun Z hZ => hZ.1 [] 60 _ _ _ _ h
set_option maxRecDepth 100000 in
theorem c_trace (h : post (some (.long tr)) (wC t b c2 c3 c4 c5 c6 n lg ht x y sz kn k0 k1 z sa sb sc c7 c8 c9 tr tl)) : zGoes mX7_trace 2 1 [.ref 0] (wC t b c2 c3 c4 c5 c6 n lg ht x y sz kn k0 k1 z sa sb sc c7 c8 c9 tr tl) post := fun Z hZ => hZ.1 [] 60 _ _ _ _ h
set_option maxRecDepth 100000 in
theorem c_forget (h : post (some (.int (nI z))) (wC t b c2 c3 c4 c5 c6 n lg ht x y sz kn k0 k1 0 sa sb sc c7 c8 c9 tr tl)) : zGoes mX7_forget 1 2 [.ref 0] (wC t b c2 c3 c4 c5 c6 n lg ht x y sz kn k0 k1 z sa sb sc c7 c8 c9 tr tl) post := fun Z hZ => hZ.1 [] 60 _ _ _ _ h
def sMan (n : Nat) (lg ht w : Nat → Int32) (m u : Int32) : Int32 := if sInB n m then if u = 0 then lg m.toNatClampNeg else if u = 1 then ht m.toNatClampNeg else if u = 2 then sFirst (fun p => decide (w p = m)) (-1001) n 0 else -1001 else -1001
set_option maxRecDepth 100000 in
theorem c_man (hn : n ≤ 7) (m u : Int32) (h : post (some (.int (sMan n lg ht x.1 m u))) (wC t b c2 c3 c4 c5 c6 n lg ht x y sz kn k0 k1 z sa sb sc c7 c8 c9 tr tl)) : zGoes mX7_man 1 3 [.ref 0, .int m, .int u] (wC t b c2 c3 c4 c5 c6 n lg ht x y sz kn k0 k1 z sa sb sc c7 c8 c9 tr tl) post := by
  intro Z hZ
  unfold sMan at h
  refine hZ.1 [] 60 _ _ _ _ (u_within m 0 (nI n - 1) (fun q => ?_) (fun q => ?_))
  · rw [if_pos (sInB_t q)] at h
    obtain ⟨k, hk, rfl⟩ := (sIn_iff hn m).mp q
    refine And.intro (fun e => absurd e (by decide)) (fun _ => And.intro (fun e => ?_) (And.intro (fun e => ?_) (And.intro (fun e => ?_) (And.intro (fun e => ?_) trivial))))
    · rw [if_neg (tO e (by decide) (by decide)), if_neg (tO e (by decide) (by decide)), if_neg (tO e (by decide) (by decide))] at h
      exact h
    · have e : u = 0 := tI e rfl
      rw [if_pos e] at h
      exact And.intro (vi0 (by omega) (by omega)) h
    · have e : u = 1 := tI e rfl
      subst e
      exact And.intro (vi0 (by omega) (by omega)) h
    · have e : u = 2 := tI e rfl
      subst e
      exact uL_placeOf hn _ h
  · rw [if_neg (sInB_f q)] at h
    exact And.intro (fun _ => h) (fun e => absurd rfl e)
def sPlace (n : Nat) (x : zLn) (p u : Int32) : Int32 := if sInB n p then if u = 0 then x.1 p.toNatClampNeg else if u = 1 then x.2.1 p.toNatClampNeg else if u = 2 then x.2.2.1 p.toNatClampNeg else if u = 3 then sWant x.2.2.2.1 n p.toNatClampNeg else -1001 else -1001
set_option maxRecDepth 100000 in
theorem c_place (hn : n ≤ 7) (p u : Int32) (h : post (some (.int (sPlace n x p u))) (wC t b c2 c3 c4 c5 c6 n lg ht x y sz kn k0 k1 z sa sb sc c7 c8 c9 tr tl)) : zGoes mX7_place 1 3 [.ref 0, .int p, .int u] (wC t b c2 c3 c4 c5 c6 n lg ht x y sz kn k0 k1 z sa sb sc c7 c8 c9 tr tl) post := by
  intro Z hZ
  unfold sPlace at h
  refine hZ.1 [] 60 _ _ _ _ (u_isPlace p (fun q => ?_) (fun q => ?_))
  · rw [if_pos (sInB_t q)] at h
    obtain ⟨k, hk, rfl⟩ := (sIn_iff hn p).mp q
    refine And.intro (fun e => absurd e (by decide)) (fun _ => And.intro (fun e => ?_) (And.intro (fun e => ?_) (And.intro (fun e => ?_) (And.intro (fun e => ?_) (And.intro (fun e => ?_) trivial)))))
    · rw [if_neg (tO e (by decide) (by decide)), if_neg (tO e (by decide) (by decide)), if_neg (tO e (by decide) (by decide)), if_neg (tO e (by decide) (by decide))] at h
      exact h
    · have e : u = 0 := tI e rfl
      subst e
      exact And.intro (vi0 (by omega) (by omega)) h
    · have e : u = 1 := tI e rfl
      subst e
      exact And.intro (vi0 (by omega) (by omega)) h
    · have e : u = 2 := tI e rfl
      subst e
      exact And.intro (vi0 (by omega) (by omega)) h
    · have e : u = 3 := tI e rfl
      subst e
      rw [nI_c0 (by omega)] at h
      exact uL_wants hn k h
  · rw [if_neg (sInB_f q)] at h
    exact And.intro (fun _ => h) (fun e => absurd rfl e)
def sNow (n : Nat) (x : zLn) (u : Int32) : Int32 := if u = 0 then x.2.2.2.2.2.2 else if u = 1 then x.2.2.2.1 else if u = 2 then x.2.2.2.2.1 else if u = 3 then x.2.2.2.2.2.1 else if u = 4 then sBulge x.2.1 (n - 1) else if u = 5 then sFirst (fun p => decide (zabs (x.2.1 (p + 1) - x.2.1 p) = sBulge x.2.1 (n - 1))) (-1009) (n - 1) 0 else if u = 6 then sFeet x.2.2.1 n else if u = 7 then nI (sLine x.2.1 n) else -1001
set_option maxRecDepth 100000 in
theorem c_now (hn : n ≤ 7) (u : Int32) (h : post (some (.int (sNow n x u))) (wC t b c2 c3 c4 c5 c6 n lg ht x y sz kn k0 k1 z sa sb sc c7 c8 c9 tr tl)) : zGoes mX7_now 1 2 [.ref 0, .int u] (wC t b c2 c3 c4 c5 c6 n lg ht x y sz kn k0 k1 z sa sb sc c7 c8 c9 tr tl) post := by
  intro Z hZ
  refine hZ.1 [] 60 _ _ _ _ (And.intro (fun e => ?_) (And.intro (fun e => ?_) (And.intro (fun e => ?_) (And.intro (fun e => ?_) (And.intro (fun e => ?_) (And.intro (fun e => ?_) (And.intro (fun e => ?_) (And.intro (fun e => ?_) (And.intro (fun e => ?_) trivial)))))))))
  · unfold sNow at h
    rw [if_neg (tO e (by decide) (by decide)), if_neg (tO e (by decide) (by decide)), if_neg (tO e (by decide) (by decide)), if_neg (tO e (by decide) (by decide)), if_neg (tO e (by decide) (by decide)), if_neg (tO e (by decide) (by decide)), if_neg (tO e (by decide) (by decide)), if_neg (tO e (by decide) (by decide))] at h
    exact h
  · have e : u = 0 := tI e rfl
    subst e; exact h
  · have e : u = 1 := tI e rfl
    subst e; exact h
  · have e : u = 2 := tI e rfl
    subst e; exact h
  · have e : u = 3 := tI e rfl
    subst e; exact h
  · have e : u = 4 := tI e rfl
    subst e; exact uL_bulge hn h
  · have e : u = 5 := tI e rfl
    subst e; exact uL_bulgePlace hn h
  · have e : u = 6 := tI e rfl
    subst e; exact uL_feet hn h
  · have e : u = 7 := tI e rfl
    subst e; exact uL_inLine hn h
def sCount (n z : Nat) (sz : Int32) (b : Nat) (u : Int32) : Int32 := if u = 0 then nI n else if u = 1 then nI z else if u = 2 then sz else if u = 3 then nI b else -1001
set_option maxRecDepth 100000 in
theorem c_count (u : Int32) (h : post (some (.int (sCount n z sz b u))) (wC t b c2 c3 c4 c5 c6 n lg ht x y sz kn k0 k1 z sa sb sc c7 c8 c9 tr tl)) : zGoes mX7_count 1 2 [.ref 0, .int u] (wC t b c2 c3 c4 c5 c6 n lg ht x y sz kn k0 k1 z sa sb sc c7 c8 c9 tr tl) post := by
  intro Z hZ
  refine hZ.1 [] 60 _ _ _ _ (And.intro (fun e => ?_) (And.intro (fun e => ?_) (And.intro (fun e => ?_) (And.intro (fun e => ?_) (And.intro (fun e => ?_) trivial)))))
  · unfold sCount at h
    rw [if_neg (tO e (by decide) (by decide)), if_neg (tO e (by decide) (by decide)), if_neg (tO e (by decide) (by decide)), if_neg (tO e (by decide) (by decide))] at h
    exact h
  · have e : u = 0 := tI e rfl
    subst e; exact h
  · have e : u = 1 := tI e rfl
    subst e; exact h
  · have e : u = 2 := tI e rfl
    subst e; exact h
  · have e : u = 3 := tI e rfl
    subst e; exact h
end RWS
end
section

def sGo (n : Nat) (lg : Nat → Int32) (q : Int32) : Nat → zLn → zLn
  | 0, y => y
  | k + 1, y => sGo n lg q k (sStep n lg q y)
theorem sGo_1 (n : Nat) (lg : Nat → Int32) (q : Int32) : ∀ (k : Nat) (y : zLn), sGo n lg q (k + 1) y = sStep n lg q (sGo n lg q k y)
  | 0, y => rfl
  | k + 1, y => by
    show sGo n lg q (k + 1) (sStep n lg q y) = _
    rw [sGo_1 n lg q k]
    rfl
theorem sGo_w (n : Nat) (lg : Nat → Int32) (q : Int32) : ∀ (k : Nat) (y : zLn), (sGo n lg q k y).1 = y.1
  | 0, y => rfl
  | k + 1, y => sGo_w n lg q k (sStep n lg q y)
def sTill (n : Nat) (lg : Nat → Int32) : Nat → Nat → zLn → Int32
  | 0, _, _ => -1009
  | r + 1, k, y => if sLine y.2.1 n = n then nI k else if sMoved n lg (-1) y then sTill n lg r (k + 1) (sStep n lg (-1) y) else -1009
def sMind (e l : Int32) (x : zLn) : zLn := (x.1, x.2.1, x.2.2.1, x.2.2.2.1, e, l, x.2.2.2.2.2.2)
theorem nI_m1 {k r : Nat} (hk : k < 1000) (hr : r < 1000) : nI r - 1 < nI k ↔ r ≤ k := by
  rcases Nat.eq_zero_or_pos r with z | z
  · subst z
    refine ⟨fun _ => Nat.zero_le _, fun _ => ?_⟩
    show (-1 : Int32) < nI k
    rw [Int32.lt_iff_toInt_lt, nI_toInt (by omega)]
    have : (-1 : Int32).toInt = -1 := by decide
    omega
  · obtain ⟨m, rfl⟩ : ∃ m, r = m + 1 := ⟨r - 1, by omega⟩
    rw [nI_pred, nI_ltI (by omega) (by omega)]
    omega
section RWS
variable {t : Nat → Int32} {b : Nat} {c2 c3 c4 c5 c6 : zCell} {n : Nat} {lg ht : Nat → Int32} {x y : zLn} {sz : Int32} {kn : List (Option Nat)} {k0 k1 : Int32} {z : Nat} {sa sb sc : Nat → Int32} {c7 c8 c9 : zCell} {tr : Int64} {tl : zW}
variable {K : zP} {post : zP}

set_option maxRecDepth 100000 in
theorem u_till (hn : n ≤ 7) (hw : ∀ k, k < n → vp_in (x.1 k) 7) (e l : Int32) (r : Nat) (hr : r < 400) (mo : Int32) (hmo : mo = nI r - 1) (h : ∀ y', K (some (.int (sTill n lg r 0 (sMind e l x)))) (wC t b c2 c3 c4 c5 c6 n lg ht x y' sz kn k0 k1 z sa sb sc c7 c8 c9 tr tl)) : zFV 7 4 (zGoes mX7_pacesTillDressed 1 5) [.ref 0, .int e, .int l, .int mo] (wC t b c2 c3 c4 c5 c6 n lg ht x y sz kn k0 k1 z sa sb sc c7 c8 c9 tr tl) K := by
  subst hmo
  refine And.intro rfl (Or.inl ⟨rfl, rfl, ?_⟩)
  intro Z hZ
  have loop : ∀ (d k : Nat) (y : zLn), k + d = r → (∀ j, j < n → vp_in (y.1 j) 7) → (∀ y', K (some (.int (sTill n lg d k y))) (wC t b c2 c3 c4 c5 c6 n lg ht x y' sz kn k0 k1 z sa sb sc c7 c8 c9 tr tl)) → Z 30 [some (.ref 0), some (.int e), some (.int l), some (.int (nI r - 1)), some (.int (nI k))] [] (wC t b c2 c3 c4 c5 c6 n lg ht x y sz kn k0 k1 z sa sb sc c7 c8 c9 tr tl) := by
    intro d
    induction d with
    | zero =>
      intro k y hk hwy h
      refine hZ.1 [30] 60 _ _ _ _ (And.intro (fun c => h y) (fun c => ?_))
      exact absurd ((nI_m1 (by omega) (by omega)).mpr (by omega)) c
    | succ d ih =>
      intro k y hk hwy h
      refine hZ.1 [30] 60 _ _ _ _ (And.intro (fun c => ?_) (fun c => ?_))
      · exact absurd ((nI_m1 (by omega) (by omega)).mp c) (by omega)
      · refine uA_inLine hn (And.intro (fun c2 => ?_) (fun c2 => ?_))
        · have c2 := (nI_eq (by have := sLine_le y.2.1 n; omega) (by omega)).mp c2
          unfold sTill at h
          rw [if_pos c2] at h
          exact h y
        · have c2 : ¬ sLine y.2.1 n = n := fun q => c2 (by rw [q])
          unfold sTill at h
          rw [if_neg c2] at h
          refine uA_step hn hwy (-1) (And.intro (fun c3 => ?_) (fun c3 => ?_))
          · rw [zb0 c3] at h
            exact h _
          · rw [zb1 c3] at h
            have := ih (k + 1) (sStep n lg (-1) y) (by omega) hwy h
            rw [← nI_1] at this
            exact this
  refine hZ.1 [30] 60 _ _ _ _ (uA_copy ?_)
  exact loop r 0 (sMind e l x) (by omega) hw h
set_option maxRecDepth 100000 in
theorem c_dressed (hn : n ≤ 7) (hw : ∀ k, k < n → vp_in (x.1 k) 7) (h : ∀ y', post (some (.int (sTill n lg 301 0 (sMind x.2.2.2.2.1 x.2.2.2.2.2.1 x)))) (wC t b c2 c3 c4 c5 c6 n lg ht x y' sz kn k0 k1 z sa sb sc c7 c8 c9 tr tl)) : zGoes mX7_dressed 1 1 [.ref 0] (wC t b c2 c3 c4 c5 c6 n lg ht x y sz kn k0 k1 z sa sb sc c7 c8 c9 tr tl) post := by
  intro Z hZ
  exact hZ.1 [] 60 _ _ _ _ (u_till hn hw _ _ 301 (by omega) 300 (by decide) h)
set_option maxRecDepth 100000 in
theorem u_lookAhead (hn : n ≤ 7) (hw : ∀ k, k < n → vp_in (x.1 k) 7) (r : Nat) (hr : r ≤ 60) (q : Int32) (h : K none (wC t b c2 c3 c4 c5 c6 n lg ht x (sGo n lg q r x) sz kn k0 k1 z sa sb sc c7 c8 c9 tr tl)) : zFV 7 3 (zGoes mX7_lookAhead 0 4) [.ref 0, .int (nI r), .int q] (wC t b c2 c3 c4 c5 c6 n lg ht x y sz kn k0 k1 z sa sb sc c7 c8 c9 tr tl) K := by
  refine And.intro rfl (Or.inl ⟨rfl, rfl, ?_⟩)
  intro Z hZ
  have loop : ∀ (d k : Nat), k + d = r → Z 13 [some (.ref 0), some (.int (nI r)), some (.int q), some (.int (nI k))] [] (wC t b c2 c3 c4 c5 c6 n lg ht x (sGo n lg q k x) sz kn k0 k1 z sa sb sc c7 c8 c9 tr tl) := by
    intro d
    induction d with
    | zero =>
      intro k hk
      have e : k = r := by omega
      subst e
      refine hZ.1 [13] 60 _ _ _ _ (And.intro (fun c => h) (fun c => ?_))
      exact absurd (le_of (Nat.le_refl _) (by omega)) c
    | succ d ih =>
      intro k hk
      refine hZ.1 [13] 60 _ _ _ _ (And.intro (fun c => ?_) (fun c => And.intro (fun c2 => ?_) (fun c2 => ?_)))
      · exact absurd c (nle_of (by omega) (by omega))
      · rw [show (60 : Int32) = nI 60 by decide] at c2
        exact absurd c2 (nle_of (by omega) (by omega))
      · refine uA_step hn (by rw [sGo_w]; exact hw) q ?_
        have := ih (k + 1) (by omega)
        rw [← nI_1, sGo_1] at this
        exact this
  exact hZ.1 [13] 60 _ _ _ _ (uA_copy (loop r 0 (by omega)))
def sLooks (n : Nat) (lg : Nat → Int32) (x : zLn) (a p : Int32) : Int32 := if (0 ≤ a ∧ a ≤ 60) ∧ (p = -1 ∨ sIn n p) then if p = -1 then sBulge (sGo n lg (-1) a.toNatClampNeg x).2.1 (n - 1) else (sGo n lg (-1) a.toNatClampNeg x).2.1 p.toNatClampNeg else -1001
theorem in60 {a : Int32} {m : Nat} {M : Int32} (hM : M.toInt = m) (h : 0 ≤ a ∧ a ≤ M) : ∃ k, k ≤ m ∧ a = nI k := nI_of2 hM (Int32.not_lt.mpr h.1) h.2
theorem sIn_m1 {n : Nat} (hn : n ≤ 7) : ¬ sIn n (-1) := fun h => absurd h.1 (by decide)
set_option maxRecDepth 100000 in
theorem c_looks (hn : n ≤ 7) (hw : ∀ k, k < n → vp_in (x.1 k) 7) (a p : Int32) (h : ∀ y', post (some (.int (sLooks n lg x a p))) (wC t b c2 c3 c4 c5 c6 n lg ht x y' sz kn k0 k1 z sa sb sc c7 c8 c9 tr tl)) : zGoes mX7_looks 1 4 [.ref 0, .int a, .int p] (wC t b c2 c3 c4 c5 c6 n lg ht x y sz kn k0 k1 z sa sb sc c7 c8 c9 tr tl) post := by
  intro Z hZ
  have bad : ∀ (o : Option Value), ¬ ((0 ≤ a ∧ a ≤ 60) ∧ (p = -1 ∨ sIn n p)) → Z 33 [some (.ref 0), some (.int a), some (.int p), o] [] (wC t b c2 c3 c4 c5 c6 n lg ht x y sz kn k0 k1 z sa sb sc c7 c8 c9 tr tl) := by
    intro o hb
    have h := h y
    unfold sLooks at h
    rw [if_neg hb] at h
    exact hZ.1 [] 20 _ _ _ _ h
  have good : ∀ (o : Option Value), (p = -1 ∨ sIn n p) → 0 ≤ a ∧ a ≤ 60 → Z 37 [some (.ref 0), some (.int a), some (.int p), o] [] (wC t b c2 c3 c4 c5 c6 n lg ht x y sz kn k0 k1 z sa sb sc c7 c8 c9 tr tl) := by
    intro o hp ha
    have h := h (sGo n lg (-1) a.toNatClampNeg x)
    unfold sLooks at h
    rw [if_pos ⟨ha, hp⟩] at h
    obtain ⟨k, hk, rfl⟩ := in60 (m := 60) rfl ha
    rw [nI_c0 (by omega)] at h
    refine hZ.1 [] 60 _ _ _ _ (u_lookAhead hn hw k hk (-1) (u_isPlace p (fun q => ?_) (fun q => ?_)))
    · obtain ⟨j, hj, rfl⟩ := (sIn_iff hn p).mp q
      rw [if_neg (fun e => by rw [e] at q; exact sIn_m1 hn q)] at h
      exact And.intro (fun e => absurd e (by decide)) (fun _ => And.intro (vi0 (by omega) (by omega)) h)
    · have e : p = -1 := hp.elim id (fun z => absurd z q)
      rw [if_pos e] at h
      exact And.intro (fun _ => uA_bulge hn h) (fun e => absurd rfl e)
  have j18 : ∀ (bo : Bool), (bo = true ↔ (p = -1 ∨ sIn n p)) → Z 18 [some (.ref 0), some (.int a), some (.int p), none] [.int (zb bo)] (wC t b c2 c3 c4 c5 c6 n lg ht x y sz kn k0 k1 z sa sb sc c7 c8 c9 tr tl) := by
    intro bo hbo
    refine hZ.1 [33, 37] 60 _ _ _ _ (And.intro (fun e => ?_) (fun e => ?_))
    · exact bad _ (fun q => by rw [hbo.mpr q.2] at e; exact absurd e (by decide))
    · have e2 := hbo.mp (zb1 e)
      refine u_within a 0 60 (fun q => ?_) (fun q => ?_)
      · exact And.intro (fun e => absurd e (by decide)) (fun _ => good _ e2 q)
      · exact And.intro (fun _ => bad _ (fun z => q z.1)) (fun e => absurd rfl e)
  refine hZ.1 [18] 60 _ _ _ _ (And.intro (fun e => ?_) (fun e => ?_))
  · exact j18 true ⟨fun _ => Or.inl e, fun _ => rfl⟩
  · refine u_isPlace p (fun q => ?_) (fun q => ?_)
    · exact And.intro (fun e => absurd e (by decide)) (fun _ => j18 true ⟨fun _ => Or.inr q, fun _ => rfl⟩)
    · exact And.intro (fun _ => j18 false ⟨fun z => (by cases z), fun z => z.elim (fun y => absurd y e) (fun y => absurd y q)⟩) (fun e => absurd rfl e)
def sPost (n : Nat) (lg : Nat → Int32) (x : zLn) (p a : Int32) : Int32 := if sIn n p ∧ (1 ≤ a ∧ a ≤ 20) then sBulge (sGo n lg p a.toNatClampNeg x).2.1 (n - 1) else -1001
set_option maxRecDepth 100000 in
theorem c_post (hn : n ≤ 7) (hw : ∀ k, k < n → vp_in (x.1 k) 7) (p a : Int32) (h : ∀ y', post (some (.int (sPost n lg x p a))) (wC t b c2 c3 c4 c5 c6 n lg ht x y' sz kn k0 k1 z sa sb sc c7 c8 c9 tr tl)) : zGoes mX7_post 1 3 [.ref 0, .int p, .int a] (wC t b c2 c3 c4 c5 c6 n lg ht x y sz kn k0 k1 z sa sb sc c7 c8 c9 tr tl) post := by
  intro Z hZ
  have bad : ¬ (sIn n p ∧ (1 ≤ a ∧ a ≤ 20)) → Z 18 [some (.ref 0), some (.int p), some (.int a)] [] (wC t b c2 c3 c4 c5 c6 n lg ht x y sz kn k0 k1 z sa sb sc c7 c8 c9 tr tl) := by
    intro hb
    have h := h y
    unfold sPost at h
    rw [if_neg hb] at h
    exact hZ.1 [] 20 _ _ _ _ h
  refine hZ.1 [18] 60 _ _ _ _ (u_isPlace p (fun q => ?_) (fun q => ?_))
  · refine And.intro (fun e => absurd e (by decide)) (fun _ => u_within a 1 20 (fun q2 => ?_) (fun q2 => ?_))
    · have h := h (sGo n lg p a.toNatClampNeg x)
      unfold sPost at h
      rw [if_pos ⟨q, q2⟩] at h
      obtain ⟨k, hk, rfl⟩ := in60 (m := 20) rfl ⟨Int32.le_trans (by decide) q2.1, q2.2⟩
      rw [nI_c0 (by omega)] at h
      exact And.intro (fun e => absurd e (by decide)) (fun _ => u_lookAhead hn hw k (by omega) p (uA_bulge hn h))
    · exact And.intro (fun _ => bad (fun z => q2 z.2)) (fun e => absurd rfl e)
  · exact And.intro (fun _ => bad (fun z => q z.1)) (fun e => absurd rfl e)
def sInStep (n : Nat) (lg : Nat → Int32) : Nat → Nat → zLn → Int32
  | 0, _, _ => -1009
  | r + 1, k, y => if sAlike y.2.2.1 n then nI k else sInStep n lg r (k + 1) (sStep n lg (-1) y)
set_option maxRecDepth 100000 in
theorem c_inStep (hn : n ≤ 7) (hw : ∀ k, k < n → vp_in (x.1 k) 7) (h : ∀ y', post (some (.int (sInStep n lg 21 0 x))) (wC t b c2 c3 c4 c5 c6 n lg ht x y' sz kn k0 k1 z sa sb sc c7 c8 c9 tr tl)) : zGoes mX7_inStep 1 2 [.ref 0] (wC t b c2 c3 c4 c5 c6 n lg ht x y sz kn k0 k1 z sa sb sc c7 c8 c9 tr tl) post := by
  intro Z hZ
  have loop : ∀ (d k : Nat) (y : zLn), k + d = 21 → (∀ j, j < n → vp_in (y.1 j) 7) → (∀ y', post (some (.int (sInStep n lg d k y))) (wC t b c2 c3 c4 c5 c6 n lg ht x y' sz kn k0 k1 z sa sb sc c7 c8 c9 tr tl)) → Z 13 [some (.ref 0), some (.int (nI k))] [] (wC t b c2 c3 c4 c5 c6 n lg ht x y sz kn k0 k1 z sa sb sc c7 c8 c9 tr tl) := by
    intro d
    induction d with
    | zero =>
      intro k y hk hwy h
      refine hZ.1 [13] 60 _ _ _ _ (And.intro (fun c => h y) (fun c => ?_))
      exact absurd (by rw [show (20 : Int32) = nI 20 by decide]; exact nI_lt (by omega) (by omega)) c
    | succ d ih =>
      intro k y hk hwy h
      refine hZ.1 [13] 60 _ _ _ _ (And.intro (fun c => ?_) (fun c => uA_alike hn (And.intro (fun c2 => ?_) (fun c2 => ?_))))
      · rw [show (20 : Int32) = nI 20 by decide] at c
        exact absurd c (nI_nlt (by omega) (by omega))
      · unfold sInStep at h
        rw [if_neg (by rw [zb0 c2]; decide)] at h
        refine uA_step hn hwy (-1) ?_
        have := ih (k + 1) (sStep n lg (-1) y) (by omega) hwy h
        rw [← nI_1] at this
        exact this
      · unfold sInStep at h
        rw [if_pos (zb1 c2)] at h
        exact h y
  exact hZ.1 [13] 60 _ _ _ _ (uA_copy (loop 21 0 x (by omega) hw h))
def sBehA (n : Nat) (lg : Nat → Int32) (u : Int32) (x : zLn) : Nat → Int32
  | 0 => sBeh x.2.1 x.2.2.2.1 n u n
  | k + 1 => zmax (sBehA n lg u x k) (sBeh (sGo n lg (-1) (k + 1) x).2.1 (sGo n lg (-1) (k + 1) x).2.2.2.1 n u n)
def sBehind (n : Nat) (lg : Nat → Int32) (u : Int32) (x : zLn) : Int32 := if 0 ≤ u ∧ u ≤ 99 then if sBehA n lg u x 60 ≤ 60 then sBehA n lg u x 60 else -1009 else -1001
set_option maxRecDepth 100000 in
theorem c_behind (hn : n ≤ 7) (hw : ∀ k, k < n → vp_in (x.1 k) 7) (u : Int32) (h : ∀ y', post (some (.int (sBehind n lg u x))) (wC t b c2 c3 c4 c5 c6 n lg ht x y' sz kn k0 k1 z sa sb sc c7 c8 c9 tr tl)) : zGoes mX7_behind 1 4 [.ref 0, .int u] (wC t b c2 c3 c4 c5 c6 n lg ht x y sz kn k0 k1 z sa sb sc c7 c8 c9 tr tl) post := by
  intro Z hZ
  refine hZ.1 [36] 60 _ _ _ _ (u_within u 0 99 (fun q => ?_) (fun q => ?_))
  · have loop : ∀ (d k : Nat), k + d = 60 → Z 36 [some (.ref 0), some (.int u), some (.int (sBehA n lg u x k)), some (.int (nI k))] [] (wC t b c2 c3 c4 c5 c6 n lg ht x (sGo n lg (-1) k x) sz kn k0 k1 z sa sb sc c7 c8 c9 tr tl) := by
      intro d
      induction d with
      | zero =>
        intro k hk
        have e : k = 60 := by omega
        subst e
        have h := h (sGo n lg (-1) 60 x)
        unfold sBehind at h
        rw [if_pos q] at h
        refine hZ.1 [36] 60 _ _ _ _ (And.intro (fun c => And.intro (fun c2 => ?_) (fun c2 => ?_)) (fun c => ?_))
        · rw [if_pos c2] at h
          exact h
        · rw [if_neg c2] at h
          exact h
        · exact absurd (by decide) c
      | succ d ih =>
        intro k hk
        refine hZ.1 [36] 60 _ _ _ _ (And.intro (fun c => ?_) (fun c => uA_step hn (by rw [sGo_w]; exact hw) (-1) (uA_behind hn u ?_)))
        · rw [show (60 : Int32) = nI 60 by decide] at c
          exact absurd c (nle_of (by omega) (by omega))
        · have := ih (k + 1) (by omega)
          unfold sBehA at this
          rw [← nI_1, sGo_1] at this
          exact this
    exact And.intro (fun e => absurd e (by decide)) (fun _ => uA_copy (uA_behind hn u (loop 60 0 (by omega))))
  · have h := h y
    unfold sBehind at h
    rw [if_neg q] at h
    exact And.intro (fun _ => h) (fun e => absurd rfl e)
def sStride (n : Nat) (lg : Nat → Int32) (w : Nat → Int32) (a : Int32) : Bool := (List.range n).all (fun p => decide (sWant a n p ≤ lg (w p).toNatClampNeg))
def sFast (n : Nat) (lg : Nat → Int32) (w : Nat → Int32) : Nat → Int32
  | 0 => 1
  | 1 => 1
  | k + 2 => if sStride n lg w (nI (k + 2)) then nI (k + 2) else sFast n lg w (k + 1)
theorem all_yes {n : Nat} {P : Nat → Bool} (h : ∀ p, p < n → P p = true) : (List.range n).all P = true := by
  rw [List.all_eq_true]
  intro p hp
  exact h p (List.mem_range.mp hp)
theorem all_no {n p : Nat} {P : Nat → Bool} (hp : p < n) (h : P p = false) : (List.range n).all P = false := by
  cases hs : (List.range n).all P with
  | false => rfl
  | true =>
    rw [List.all_eq_true] at hs
    rw [hs p (List.mem_range.mpr hp)] at h
    cases h
set_option maxRecDepth 100000 in
theorem u_stride (hn : n ≤ 7) (hw : ∀ k, k < n → vp_in (x.1 k) 7) (a : Int32) (h : K (some (.int (zb (sStride n lg x.1 a)))) (wC t b c2 c3 c4 c5 c6 n lg ht x y sz kn k0 k1 z sa sb sc c7 c8 c9 tr tl)) : zFV 7 2 (zGoes mX7_allCanStride 3 3) [.ref 0, .int a] (wC t b c2 c3 c4 c5 c6 n lg ht x y sz kn k0 k1 z sa sb sc c7 c8 c9 tr tl) K := by
  refine And.intro rfl (Or.inl ⟨rfl, rfl, ?_⟩)
  intro Z hZ
  have loop : ∀ (d p : Nat), p + d = n → (∀ q, q < p → decide (sWant a n q ≤ lg (x.1 q).toNatClampNeg) = true) → Z 2 [some (.ref 0), some (.int a), some (.int (nI p))] [] (wC t b c2 c3 c4 c5 c6 n lg ht x y sz kn k0 k1 z sa sb sc c7 c8 c9 tr tl) := by
    intro d
    induction d with
    | zero =>
      intro p hp hq
      have e : p = n := by omega
      subst e
      unfold sStride at h
      rw [all_yes hq] at h
      refine hZ.1 [2] 60 _ _ _ _ (And.intro (fun c => And.intro (Or.inr rfl) h) (fun c => ?_))
      exact absurd (le_of (Nat.le_refl _) (by omega)) c
    | succ d ih =>
      intro p hp hq
      refine hZ.1 [2] 60 _ _ _ _ (And.intro (fun c => ?_) (fun c => Or.inl ⟨rfl, rfl, t_wanted a p n hn (uL_legAt p (by omega) (hw p (by omega)) (And.intro (fun c2 => ?_) (fun c2 => ?_)))⟩))
      · exact absurd c (nle_of (by omega) (by omega))
      · have := ih (p + 1) (by omega) (fun q hq2 => by
          rcases Nat.lt_or_ge q p with h3 | h3
          · exact hq q h3
          · have : q = p := by omega
            subst this
            exact decide_eq_true c2)
        rw [← nI_1] at this
        exact this
      · unfold sStride at h
        rw [all_no (p := p) (by omega) (decide_eq_false c2)] at h
        exact And.intro (Or.inl rfl) h
  exact hZ.1 [2] 60 _ _ _ _ (loop n 0 (by omega) (fun q hq => by omega))
set_option maxRecDepth 100000 in
theorem c_fastest (hn : n ≤ 7) (hw : ∀ k, k < n → vp_in (x.1 k) 7) (h : post (some (.int (sFast n lg x.1 60))) (wC t b c2 c3 c4 c5 c6 n lg ht x y sz kn k0 k1 z sa sb sc c7 c8 c9 tr tl)) : zGoes mX7_fastest 1 2 [.ref 0] (wC t b c2 c3 c4 c5 c6 n lg ht x y sz kn k0 k1 z sa sb sc c7 c8 c9 tr tl) post := by
  intro Z hZ
  have loop : ∀ (k : Nat), k < 60 → post (some (.int (sFast n lg x.1 (k + 1)))) (wC t b c2 c3 c4 c5 c6 n lg ht x y sz kn k0 k1 z sa sb sc c7 c8 c9 tr tl) → Z 3 [some (.ref 0), some (.int (nI (k + 1)))] [] (wC t b c2 c3 c4 c5 c6 n lg ht x y sz kn k0 k1 z sa sb sc c7 c8 c9 tr tl) := by
    intro k
    induction k with
    | zero =>
      intro hk h
      refine hZ.1 [3] 60 _ _ _ _ (And.intro (fun c => h) (fun c => absurd (by decide) c))
    | succ k ih =>
      intro hk h
      refine hZ.1 [3] 60 _ _ _ _ (And.intro (fun c => ?_) (fun c => u_stride hn hw _ (And.intro (fun c2 => ?_) (fun c2 => ?_))))
      · rw [← n1, nI_leI (by omega) (by omega)] at c
        omega
      · unfold sFast at h
        rw [zb0 c2] at h
        have := ih (by omega) h
        rw [← pk_m1] at this
        exact this
      · unfold sFast at h
        rw [zb1 c2] at h
        exact h
  exact hZ.1 [3] 60 _ _ _ _ (loop 59 (by omega) h)
end RWS
end
section

def sSaw (n z : Nat) (p a u : Int32) : Int32 := if sIn n p ∧ (0 ≤ a ∧ a ≤ 60) ∧ (-999 ≤ u ∧ u ≤ 999) then if z < 6 then nI (z + 1) else -1003 else -1001
section RWS
variable {t : Nat → Int32} {b : Nat} {c2 c3 c4 c5 c6 : zCell} {n : Nat} {lg ht : Nat → Int32} {x y : zLn} {sz : Int32} {kn : List (Option Nat)} {k0 k1 : Int32} {z : Nat} {sa sb sc : Nat → Int32} {c7 c8 c9 : zCell} {tr : Int64} {tl : zW}
variable {K : zP} {post : zP}

set_option maxRecDepth 100000 in
theorem c_saw (hn : n ≤ 7) (hz : z ≤ 6) (p a u : Int32) (h : post (some (.int (sSaw n z p a u))) (if (sIn n p ∧ (0 ≤ a ∧ a ≤ 60) ∧ (-999 ≤ u ∧ u ≤ 999)) ∧ z < 6 then (wC t b c2 c3 c4 c5 c6 n lg ht x y sz kn k0 k1 (z + 1) (upd sa z p) (upd sb z a) (upd sc z u) c7 c8 c9 tr tl) else (wC t b c2 c3 c4 c5 c6 n lg ht x y sz kn k0 k1 z sa sb sc c7 c8 c9 tr tl))) : zGoes mX7_saw 1 4 [.ref 0, .int p, .int a, .int u] (wC t b c2 c3 c4 c5 c6 n lg ht x y sz kn k0 k1 z sa sb sc c7 c8 c9 tr tl) post := by
  intro Z hZ
  unfold sSaw at h
  have bad : ¬ (sIn n p ∧ (0 ≤ a ∧ a ≤ 60) ∧ (-999 ≤ u ∧ u ≤ 999)) → Z 31 [some (.ref 0), some (.int p), some (.int a), some (.int u)] [] (wC t b c2 c3 c4 c5 c6 n lg ht x y sz kn k0 k1 z sa sb sc c7 c8 c9 tr tl) := by
    intro hb
    rw [if_neg hb, if_neg (fun q => hb q.1)] at h
    exact hZ.1 [] 20 _ _ _ _ h
  refine hZ.1 [31] 60 _ _ _ _ (u_isPlace p (fun q => ?_) (fun q => ?_))
  · refine And.intro (fun e => absurd e (by decide)) (fun _ => u_within a 0 60 (fun q2 => ?_) (fun q2 => ?_))
    · refine And.intro (fun e => absurd e (by decide)) (fun _ => u_within u (-999) 999 (fun q3 => ?_) (fun q3 => ?_))
      · rw [if_pos ⟨q, q2, q3⟩] at h
        refine And.intro (fun e => absurd e (by decide)) (fun _ => And.intro (fun e => ?_) (fun e => ?_))
        · rw [show (6 : Int32) = nI 6 by decide, nI_ltI (by omega) (by omega)] at e
          rw [if_pos e, if_pos ⟨⟨q, q2, q3⟩, e⟩] at h
          exact And.intro rfl (Or.inr ⟨[23, 24, 25, 26], [.ref 0, .int p, .int a, .int u], wSe z sa sb sc, ⟨rfl, rfl, rfl⟩, ⟨Nat.le_of_ble_eq_true rfl, rfl⟩, rfl, t_note e p a u h⟩)
        · rw [show (6 : Int32) = nI 6 by decide, nI_ltI (by omega) (by omega)] at e
          rw [if_neg e, if_neg (fun z => e z.2)] at h
          exact h
      · exact And.intro (fun _ => bad (fun z => q3 z.2.2)) (fun e => absurd rfl e)
    · exact And.intro (fun _ => bad (fun z => q2 z.2.1)) (fun e => absurd rfl e)
  · exact And.intro (fun _ => bad (fun z => q z.1)) (fun e => absurd rfl e)
/-! rate -/
set_option maxRecDepth 100000 in
theorem u_r0 (hn : n ≤ 7) (p : Nat) (h : K (some (.int (sWant x.2.2.2.1 n p))) (wC t b c2 c3 c4 c5 c6 n lg ht x y sz kn k0 k1 z sa sb sc c7 c8 c9 (tr + 1) tl)) : zFV 7 2 (zGoes mX7_rateOfStep 1 2) [.ref 0, .int (nI p)] (wC t b c2 c3 c4 c5 c6 n lg ht x y sz kn k0 k1 z sa sb sc c7 c8 c9 tr tl) K := And.intro rfl (Or.inl ⟨rfl, rfl, fun Z hZ => hZ.1 [] 40 _ _ _ _ (uL_wants hn p h)⟩)
set_option maxRecDepth 100000 in
theorem u_r1 (hn : n ≤ 7) (p : Nat) (hp : p < n) (hw : ∀ k, k < n → vp_in (x.1 k) 7) (h : K (some (.int (sWant x.2.2.2.1 n p + lg (x.1 p).toNatClampNeg))) (wC t b c2 c3 c4 c5 c6 n lg ht x y sz kn k0 k1 z sa sb sc c7 c8 c9 (tr + 10 + 1) tl)) : zFV 7 2 (zGoes mX7_rateOfShort 1 2) [.ref 0, .int (nI p)] (wC t b c2 c3 c4 c5 c6 n lg ht x y sz kn k0 k1 z sa sb sc c7 c8 c9 tr tl) K := And.intro rfl (Or.inl ⟨rfl, rfl, fun Z hZ => hZ.1 [] 40 _ _ _ _ (u_r0 hn p (uL_legAt p (by omega) (hw p hp) h))⟩)
set_option maxRecDepth 100000 in
theorem u_r2 (hn : n ≤ 7) (p : Nat) (hp : p < n) (h : K (some (.int (sWant x.2.2.2.1 n p - x.2.1 p))) (wC t b c2 c3 c4 c5 c6 n lg ht x y sz kn k0 k1 z sa sb sc c7 c8 c9 (tr + 100 + 1) tl)) : zFV 7 2 (zGoes mX7_rateOfSeen 1 2) [.ref 0, .int (nI p)] (wC t b c2 c3 c4 c5 c6 n lg ht x y sz kn k0 k1 z sa sb sc c7 c8 c9 tr tl) K := And.intro rfl (Or.inl ⟨rfl, rfl, fun Z hZ => hZ.1 [] 40 _ _ _ _ (u_r0 hn p (And.intro (vi0 (by omega) (by omega)) (by
  have e : x.2.1 p = x.2.1 (nI p).toNatClampNeg := by rw [nI_c0 (by omega)]
  rw [e] at h
  exact h)))⟩)
set_option maxRecDepth 100000 in
theorem u_r3 (hn : n ≤ 7) (p : Nat) (hp : p < n) (hw : ∀ k, k < n → vp_in (x.1 k) 7) (h : K (some (.int ((sWant x.2.2.2.1 n p + lg (x.1 p).toNatClampNeg) * 2))) (wC t b c2 c3 c4 c5 c6 n lg ht x y sz kn k0 k1 z sa sb sc c7 c8 c9 (tr + 1000 + 10 + 1) tl)) : zFV 7 2 (zGoes mX7_rateOfMarked 1 2) [.ref 0, .int (nI p)] (wC t b c2 c3 c4 c5 c6 n lg ht x y sz kn k0 k1 z sa sb sc c7 c8 c9 tr tl) K := And.intro rfl (Or.inl ⟨rfl, rfl, fun Z hZ => hZ.1 [] 40 _ _ _ _ (u_r1 hn p hp hw h)⟩)
set_option maxRecDepth 100000 in
theorem u_r4 (hn : n ≤ 7) (p : Nat) (hp : p < n) (h : K (some (.int (sWant x.2.2.2.1 n p - x.2.1 p + sBulge x.2.1 (n - 1)))) (wC t b c2 c3 c4 c5 c6 n lg ht x y sz kn k0 k1 z sa sb sc c7 c8 c9 (tr + 10000 + 100 + 1) tl)) : zFV 7 2 (zGoes mX7_rateOfBulging 1 2) [.ref 0, .int (nI p)] (wC t b c2 c3 c4 c5 c6 n lg ht x y sz kn k0 k1 z sa sb sc c7 c8 c9 tr tl) K := And.intro rfl (Or.inl ⟨rfl, rfl, fun Z hZ => hZ.1 [] 40 _ _ _ _ (u_r2 hn p hp (uL_bulge hn h))⟩)
set_option maxRecDepth 100000 in
theorem u_r5 (hn : n ≤ 7) (p : Nat) (hp : p < n) (h : K (some (.int (sWant x.2.2.2.1 n p + x.2.2.1 p * 9))) (wC t b c2 c3 c4 c5 c6 n lg ht x y sz kn k0 k1 z sa sb sc c7 c8 c9 (tr + 100000 + 1) tl)) : zFV 7 2 (zGoes mX7_rateOfHopped 1 2) [.ref 0, .int (nI p)] (wC t b c2 c3 c4 c5 c6 n lg ht x y sz kn k0 k1 z sa sb sc c7 c8 c9 tr tl) K := And.intro rfl (Or.inl ⟨rfl, rfl, fun Z hZ => hZ.1 [] 40 _ _ _ _ (u_r0 hn p (And.intro (vi0 (by omega) (by omega)) (by
  have e : x.2.2.1 p = x.2.2.1 (nI p).toNatClampNeg := by rw [nI_c0 (by omega)]
  rw [e] at h
  exact h)))⟩)
def sRate (n : Nat) (lg : Nat → Int32) (x : zLn) (kd p : Int32) : Int32 := if sIn n p then if kd = 0 then sWant x.2.2.2.1 n p.toNatClampNeg else if kd = 1 then sWant x.2.2.2.1 n p.toNatClampNeg + lg (x.1 p.toNatClampNeg).toNatClampNeg else if kd = 2 then sWant x.2.2.2.1 n p.toNatClampNeg - x.2.1 p.toNatClampNeg else if kd = 3 then (sWant x.2.2.2.1 n p.toNatClampNeg + lg (x.1 p.toNatClampNeg).toNatClampNeg) * 2 else if kd = 4 then sWant x.2.2.2.1 n p.toNatClampNeg - x.2.1 p.toNatClampNeg + sBulge x.2.1 (n - 1) else if kd = 5 then sWant x.2.2.2.1 n p.toNatClampNeg + x.2.2.1 p.toNatClampNeg * 9 else -1000000 else -1000000
def sRateT (n : Nat) (kd p : Int32) (tr : Int64) : Int64 := if sIn n p then if kd = 0 then tr + 1 else if kd = 1 then tr + 11 else if kd = 2 then tr + 101 else if kd = 3 then tr + 1011 else if kd = 4 then tr + 10101 else if kd = 5 then tr + 100001 else tr else tr
set_option maxRecDepth 100000 in
theorem c_rate (hn : n ≤ 7) (hw : ∀ k, k < n → vp_in (x.1 k) 7) (kd p : Int32) (h : post (some (.int (sRate n lg x kd p))) (wC t b c2 c3 c4 c5 c6 n lg ht x y sz kn k0 k1 z sa sb sc c7 c8 c9 (sRateT n kd p tr) tl)) : zGoes mX7_rate 1 3 [.ref 0, .int kd, .int p] (wC t b c2 c3 c4 c5 c6 n lg ht x y sz kn k0 k1 z sa sb sc c7 c8 c9 tr tl) post := by
  intro Z hZ
  refine hZ.1 [] 60 _ _ _ _ (u_isPlace p (fun q => ?_) (fun q => ?_))
  · unfold sRate sRateT at h
    rw [if_pos q, if_pos q] at h
    obtain ⟨k, hk, rfl⟩ := (sIn_iff hn p).mp q
    rw [nI_c0 (by omega)] at h
    refine And.intro (fun e => absurd e (by decide)) (fun _ => And.intro (fun e => ?_) (And.intro (fun e => ?_) (And.intro (fun e => ?_) (And.intro (fun e => ?_) (And.intro (fun e => ?_) (And.intro (fun e => ?_) (And.intro (fun e => ?_) trivial)))))))
    · simp only [tO e (y := 0) (by decide) (by decide), tO e (y := 1) (by decide) (by decide), tO e (y := 2) (by decide) (by decide), tO e (y := 3) (by decide) (by decide), tO e (y := 4) (by decide) (by decide), tO e (y := 5) (by decide) (by decide), if_false] at h
      exact h
    · have e : kd = 0 := tI e rfl
      subst e; exact u_r0 hn k h
    · have e : kd = 1 := tI e rfl
      subst e
      refine u_r1 hn k hk hw ?_
      rw [show tr + 10 + 1 = tr + 11 by rw [Int64.add_assoc]; rfl]
      exact h
    · have e : kd = 2 := tI e rfl
      subst e
      refine u_r2 hn k hk ?_
      rw [show tr + 100 + 1 = tr + 101 by rw [Int64.add_assoc]; rfl]
      exact h
    · have e : kd = 3 := tI e rfl
      subst e
      refine u_r3 hn k hk hw ?_
      rw [show tr + 1000 + 10 + 1 = tr + 1011 by rw [Int64.add_assoc, Int64.add_assoc]; rfl]
      exact h
    · have e : kd = 4 := tI e rfl
      subst e
      refine u_r4 hn k hk ?_
      rw [show tr + 10000 + 100 + 1 = tr + 10101 by rw [Int64.add_assoc, Int64.add_assoc]; rfl]
      exact h
    · have e : kd = 5 := tI e rfl
      subst e
      refine u_r5 hn k hk ?_
      rw [show tr + 100000 + 1 = tr + 100001 by rw [Int64.add_assoc]; rfl]
      exact h
  · unfold sRate sRateT at h
    rw [if_neg q, if_neg q] at h
    exact And.intro (fun _ => h) (fun e => absurd rfl e)
/-! whose -/
def sTells (n : Nat) (lg : Nat → Int32) (sa sb sc : Nat → Int32) (z : Nat) : Nat → Nat → zLn → Bool
  | 0, _, _ => true
  | r + 1, k, y => sFit sa sb sc y.2.1 (nI k) z && sTells n lg sa sb sc z r (k + 1) (sStep n lg (-1) y)
theorem zmax_le {a b M : Int32} (h1 : a ≤ M) (h2 : b ≤ M) : zmax a b ≤ M := by unfold zmax; split <;> assumption
theorem sLast_in {sb : Nat → Int32} : ∀ {z : Nat}, (∀ j, j < z → ∃ k, k ≤ 60 ∧ sb j = nI k) → ∃ r, r ≤ 61 ∧ sLast sb z = nI r - 1
  | 0, _ => ⟨0, by omega, (by show (-1 : Int32) = nI 0 - 1; decide)⟩
  | z + 1, h => by
    obtain ⟨r, h1, h2⟩ := sLast_in (z := z) (fun j hj => h j (by omega))
    obtain ⟨k, h3, h4⟩ := h z (by omega)
    unfold sLast
    rw [h2, h4]
    unfold zmax
    by_cases c : nI r - 1 < nI k
    · rw [if_pos c]
      exact ⟨k + 1, by omega, by rw [nI_pred]⟩
    · rw [if_neg c]
      exact ⟨r, h1, rfl⟩
set_option maxRecDepth 100000 in
theorem u_tells (hn : n ≤ 7) (hw : ∀ k, k < n → vp_in (x.1 k) 7) (hz : z ≤ 6) (ha : ∀ j, j < z → vp_in (sa j) 7) (p : Nat) (hp : p < 7) (u : Int32) (r : Nat) (hr : r ≤ 61) (hl : sLast sb z = nI r - 1) (h : ∀ y', K (some (.int (zb (sTells n lg sa sb sc z r 0 (sLose p u x))))) (wC t b c2 c3 c4 c5 c6 n lg ht x y' sz kn k0 k1 z sa sb sc c7 c8 c9 tr tl)) : zFV 7 3 (zGoes mX7_tellsAllSeen 3 5) [.ref 0, .int (nI p), .int u] (wC t b c2 c3 c4 c5 c6 n lg ht x y sz kn k0 k1 z sa sb sc c7 c8 c9 tr tl) K := by
  refine And.intro rfl (Or.inl ⟨rfl, rfl, ?_⟩)
  intro Z hZ
  have loop : ∀ (d k : Nat) (y : zLn), k + d = r → (∀ j, j < n → vp_in (y.1 j) 7) → (∀ y', K (some (.int (zb (sTells n lg sa sb sc z d k y)))) (wC t b c2 c3 c4 c5 c6 n lg ht x y' sz kn k0 k1 z sa sb sc c7 c8 c9 tr tl)) → Z 31 [some (.ref 0), some (.int (nI p)), some (.int u), some (.int (nI r - 1)), some (.int (nI k))] [] (wC t b c2 c3 c4 c5 c6 n lg ht x y sz kn k0 k1 z sa sb sc c7 c8 c9 tr tl) := by
    intro d
    induction d with
    | zero =>
      intro k y hk hwy h
      refine hZ.1 [31] 60 _ _ _ _ (And.intro (fun c => And.intro (Or.inr rfl) (h y)) (fun c => ?_))
      exact absurd ((nI_m1 (by omega) (by omega)).mpr (by omega)) c
    | succ d ih =>
      intro k y hk hwy h
      refine hZ.1 [31] 60 _ _ _ _ (And.intro (fun c => ?_) (fun c => And.intro rfl (Or.inr ⟨[23, 24, 25, 26, 14, 15, 16, 17, 7], [.ref 0, .ref 4, .int (nI k)], wSL z sa sb sc y.1 y.2.1 y.2.2.1 y.2.2.2.1 y.2.2.2.2.1 y.2.2.2.2.2.1 y.2.2.2.2.2.2, ⟨rfl, rfl, rfl⟩, ⟨Nat.le_of_ble_eq_true rfl, rfl⟩, rfl, t_fit hz ha (nI k) (And.intro (fun c2 => ?_) (fun c2 => ?_))⟩)))
      · exact absurd ((nI_m1 (by omega) (by omega)).mp c) (by omega)
      · unfold sTells at h
        rw [zb0 c2, Bool.false_and] at h
        exact And.intro (Or.inl rfl) (h y)
      · unfold sTells at h
        rw [zb1 c2, Bool.true_and] at h
        refine uA_step hn hwy (-1) ?_
        have := ih (k + 1) (sStep n lg (-1) y) (by omega) hwy h
        rw [← nI_1] at this
        exact this
  refine hZ.1 [31] 60 _ _ _ _ (uA_copy (uA_lose p hp u (And.intro rfl (Or.inr ⟨[23, 24, 25, 26], [.ref 0], wSe z sa sb sc, ⟨rfl, rfl, rfl⟩, ⟨Nat.le_of_ble_eq_true rfl, rfl⟩, rfl, t_lastPace hz ?_⟩))))
  rw [hl]
  exact loop r 0 (sLose p u x) (by omega) hw h

abbrev zT3 : Type := Int32 × Int32 × Int32
def sWs (T : Nat → Nat → Bool) (s : zT3) (p u : Nat) : zT3 := if T p u then (s.1 + 1, (if s.2.1 = -1009 then 100 * nI p + nI u else s.2.1), s.2.2 ||| (1 : Int32) <<< (nI p &&& 31)) else s
def sWi (T : Nat → Nat → Bool) (p : Nat) : Nat → Nat → zT3 → zT3
  | 0, _, s => s
  | d + 1, u, s => sWi T p d (u + 1) (sWs T s p u)
def sWo (T : Nat → Nat → Bool) : Nat → Nat → zT3 → zT3
  | 0, _, s => s
  | d + 1, p, s => sWo T d (p + 1) (sWi T p 40 1 s)
def sWho (n : Nat) (lg : Nat → Int32) (x : zLn) (sa sb sc : Nat → Int32) (z r : Nat) : zT3 := sWo (fun p u => sTells n lg sa sb sc z r 0 (sLose p (nI u) x)) n 0 (0, -1009, 0)
def sWhose (s : zT3) (a : Int32) : Int32 := if 0 ≤ a ∧ a ≤ 2 then if a = 0 then s.1 else if a = 1 then s.2.1 else s.2.2 else -1001
set_option maxRecDepth 100000 in
theorem c_whose (hn : n ≤ 7) (hw : ∀ k, k < n → vp_in (x.1 k) 7) (hz : z ≤ 6) (ha : ∀ j, j < z → vp_in (sa j) 7) (r : Nat) (hr : r ≤ 61) (hl : sLast sb z = nI r - 1) (a : Int32) (h : ∀ y', post (some (.int (sWhose (sWho n lg x sa sb sc z r) a))) (wC t b c2 c3 c4 c5 c6 n lg ht x y' sz kn k0 k1 z sa sb sc c7 c8 c9 tr tl)) : zGoes mX7_whose 1 7 [.ref 0, .int a] (wC t b c2 c3 c4 c5 c6 n lg ht x y sz kn k0 k1 z sa sb sc c7 c8 c9 tr tl) post := by
  intro Z hZ
  refine hZ.1 [25] 60 _ _ _ _ (u_within a 0 2 (fun q => ?_) (fun q => ?_))
  · have outer : ∀ (d p : Nat) (s : zT3) (o6 : Option Value) (y : zLn), p + d = n → (∀ y', post (some (.int (sWhose (sWo (fun p u => sTells n lg sa sb sc z r 0 (sLose p (nI u) x)) d p s) a))) (wC t b c2 c3 c4 c5 c6 n lg ht x y' sz kn k0 k1 z sa sb sc c7 c8 c9 tr tl)) → Z 25 [some (.ref 0), some (.int a), some (.int s.1), some (.int s.2.1), some (.int s.2.2), some (.int (nI p)), o6] [] (wC t b c2 c3 c4 c5 c6 n lg ht x y sz kn k0 k1 z sa sb sc c7 c8 c9 tr tl) := by
      intro d
      induction d with
      | zero =>
        intro p s o6 y hp h
        have e : p = n := by omega
        subst e
        have h := h y
        unfold sWhose at h
        rw [if_pos q] at h
        refine hZ.1 [25] 60 _ _ _ _ (And.intro (fun c => And.intro (fun g2 => ?_) (fun g2 => And.intro (fun g3 => ?_) (fun g3 => ?_))) (fun c => ?_))
        · rw [if_pos g2] at h
          exact h
        · rw [if_neg g2, if_pos g3] at h
          exact h
        · rw [if_neg g2, if_neg g3] at h
          exact h
        · exact absurd (le_of (Nat.le_refl _) (by omega)) c
      | succ d ih =>
        intro p s o6 y hp h
        have inner : ∀ (d2 u : Nat) (s : zT3) (y : zLn), u + d2 = 41 → (∀ y', post (some (.int (sWhose (sWo (fun p u => sTells n lg sa sb sc z r 0 (sLose p (nI u) x)) d (p + 1) (sWi (fun p u => sTells n lg sa sb sc z r 0 (sLose p (nI u) x)) p d2 u s)) a))) (wC t b c2 c3 c4 c5 c6 n lg ht x y' sz kn k0 k1 z sa sb sc c7 c8 c9 tr tl)) → Z 40 [some (.ref 0), some (.int a), some (.int s.1), some (.int s.2.1), some (.int s.2.2), some (.int (nI p)), some (.int (nI u))] [] (wC t b c2 c3 c4 c5 c6 n lg ht x y sz kn k0 k1 z sa sb sc c7 c8 c9 tr tl) := by
          intro d2
          induction d2 with
          | zero =>
            intro u s y hu h
            have := ih (p + 1) s (some (.int (nI u))) y (by omega) h
            rw [← nI_1] at this
            refine hZ.1 [25, 40] 60 _ _ _ _ (And.intro (fun c => this) (fun c => ?_))
            exact absurd (by rw [show (40 : Int32) = nI 40 by decide]; exact nI_lt (by omega) (by omega)) c
          | succ d2 ih2 =>
            intro u s y hu h
            have h : ∀ y', post (some (.int (sWhose (sWo (fun p u => sTells n lg sa sb sc z r 0 (sLose p (nI u) x)) d (p + 1) (sWi (fun p u => sTells n lg sa sb sc z r 0 (sLose p (nI u) x)) p d2 (u + 1) (sWs (fun p u => sTells n lg sa sb sc z r 0 (sLose p (nI u) x)) s p u))) a))) (wC t b c2 c3 c4 c5 c6 n lg ht x y' sz kn k0 k1 z sa sb sc c7 c8 c9 tr tl) := h
            refine hZ.1 [25, 40, 80] 60 _ _ _ _ (And.intro (fun c => ?_) (fun c => u_tells hn hw hz ha p (by omega) (nI u) r hr hl (fun y2 => ?_)))
            · rw [show (40 : Int32) = nI 40 by decide] at c
              exact absurd c (nI_nlt (by omega) (by omega))
            · refine And.intro (fun g2 => ?_) (fun g2 => ?_)
              · have e := zb0 g2
                have := ih2 (u + 1) s y2 (by omega) (fun y' => by
                  have := h y'
                  rw [show sWs (fun p u => sTells n lg sa sb sc z r 0 (sLose p (nI u) x)) s p u = s from if_neg (by show ¬ sTells n lg sa sb sc z r 0 (sLose p (nI u) x) = true; rw [e]; decide)] at this
                  exact this)
                rw [← nI_1] at this
                exact this
              · have e := zb1 g2
                have := ih2 (u + 1) (s.1 + 1, (if s.2.1 = -1009 then 100 * nI p + nI u else s.2.1), s.2.2 ||| (1 : Int32) <<< (nI p &&& 31)) y2 (by omega) (fun y' => by
                  have := h y'
                  rw [show sWs (fun p u => sTells n lg sa sb sc z r 0 (sLose p (nI u) x)) s p u = (s.1 + 1, (if s.2.1 = -1009 then 100 * nI p + nI u else s.2.1), s.2.2 ||| (1 : Int32) <<< (nI p &&& 31)) from if_pos e] at this
                  exact this)
                rw [← nI_1] at this
                have j80 : Z 80 [some (.ref 0), some (.int a), some (.int (s.1 + 1)), some (.int s.2.1), some (.int s.2.2), some (.int (nI p)), some (.int (nI u))] [.int (if s.2.1 = -1009 then 100 * nI p + nI u else s.2.1)] (wC t b c2 c3 c4 c5 c6 n lg ht x y2 sz kn k0 k1 z sa sb sc c7 c8 c9 tr tl) := hZ.1 [40] 60 _ _ _ _ this
                refine And.intro (fun g3 => ?_) (fun g3 => ?_)
                · rw [if_pos g3] at j80
                  exact j80
                · rw [if_neg g3] at j80
                  exact j80
        refine hZ.1 [25, 40] 60 _ _ _ _ (And.intro (fun c => ?_) (fun c => inner 40 1 s y (by omega) h))
        exact absurd c (nle_of (by omega) (by omega))
    exact And.intro (fun e => absurd e (by decide)) (fun _ => outer n 0 (0, -1009, 0) none y (by omega) h)
  · have h := h y
    unfold sWhose at h
    rw [if_neg q] at h
    exact And.intro (fun _ => h) (fun e => absurd rfl e)
/-! mix -/
def sMs (n : Nat) (lg : Nat → Int32) (x : zLn) (s : Int32 × Nat) (e l : Nat) : Int32 × Nat := if sTill n lg s.2 0 (sMind (nI e) (nI l) x) = -1009 then s else (11 * nI e + nI l, (sTill n lg s.2 0 (sMind (nI e) (nI l) x)).toNatClampNeg)
def sMi (n : Nat) (lg : Nat → Int32) (x : zLn) (e : Nat) : Nat → Nat → Int32 × Nat → Int32 × Nat
  | 0, _, s => s
  | d + 1, l, s => sMi n lg x e d (l + 1) (sMs n lg x s e l)
def sMo (n : Nat) (lg : Nat → Int32) (x : zLn) : Nat → Nat → Int32 × Nat → Int32 × Nat
  | 0, _, s => s
  | d + 1, e, s => sMo n lg x d (e + 1) (sMi n lg x e 11 0 s)
def sMix (s : Int32 × Nat) (a : Int32) : Int32 := if 0 ≤ a ∧ a ≤ 1 then if a = 0 ∨ s.1 = -1009 then s.1 else nI s.2 else -1001
theorem sTill_nat (n : Nat) (lg : Nat → Int32) : ∀ (r k : Nat) (y : zLn), sTill n lg r k y = -1009 ∨ ∃ j, j < k + r ∧ sTill n lg r k y = nI j
  | 0, k, y => Or.inl rfl
  | r + 1, k, y => by
    unfold sTill
    split
    · exact Or.inr ⟨k, by omega, rfl⟩
    · split
      · rcases sTill_nat n lg r (k + 1) (sStep n lg (-1) y) with h | ⟨j, h1, h2⟩
        · exact Or.inl h
        · exact Or.inr ⟨j, by omega, h2⟩
      · exact Or.inl rfl
theorem sMs_le (n : Nat) (lg : Nat → Int32) (x : zLn) (s : Int32 × Nat) (e l : Nat) (h : s.2 ≤ 301) : (sMs n lg x s e l).2 ≤ 301 := by
  unfold sMs
  split
  · exact h
  · rename_i hne
    rcases sTill_nat n lg s.2 0 (sMind (nI e) (nI l) x) with q | ⟨j, h1, h2⟩
    · exact absurd q hne
    · rw [h2, nI_c0 (by omega)]
      show j ≤ 301
      omega
set_option maxRecDepth 100000 in
theorem c_mix (hn : n ≤ 7) (hw : ∀ k, k < n → vp_in (x.1 k) 7) (a : Int32) (h : ∀ y', post (some (.int (sMix (sMo n lg x 11 0 (-1009, 301)) a))) (wC t b c2 c3 c4 c5 c6 n lg ht x y' sz kn k0 k1 z sa sb sc c7 c8 c9 tr tl)) : zGoes mX7_mix 1 7 [.ref 0, .int a] (wC t b c2 c3 c4 c5 c6 n lg ht x y sz kn k0 k1 z sa sb sc c7 c8 c9 tr tl) post := by
  intro Z hZ
  refine hZ.1 [24] 60 _ _ _ _ (u_within a 0 1 (fun q => ?_) (fun q => ?_))
  · have outer : ∀ (d e : Nat) (s : Int32 × Nat) (o5 o6 : Option Value) (y : zLn), e + d = 11 → s.2 ≤ 301 → (∀ y', post (some (.int (sMix (sMo n lg x d e s) a))) (wC t b c2 c3 c4 c5 c6 n lg ht x y' sz kn k0 k1 z sa sb sc c7 c8 c9 tr tl)) → Z 24 [some (.ref 0), some (.int a), some (.int s.1), some (.int (nI s.2)), some (.int (nI e)), o5, o6] [] (wC t b c2 c3 c4 c5 c6 n lg ht x y sz kn k0 k1 z sa sb sc c7 c8 c9 tr tl) := by
      intro d
      induction d with
      | zero =>
        intro e s o5 o6 y he hs h
        have e2 : e = 11 := by omega
        subst e2
        have h : post (some (.int (sMix s a))) (wC t b c2 c3 c4 c5 c6 n lg ht x y sz kn k0 k1 z sa sb sc c7 c8 c9 tr tl) := h y
        unfold sMix at h
        rw [if_pos q] at h
        refine hZ.1 [24] 60 _ _ _ _ (And.intro (fun c => And.intro (fun g2 => ?_) (fun g2 => And.intro (fun g3 => ?_) (fun g3 => ?_))) (fun c => absurd (by decide) c))
        · rw [if_pos (Or.inl g2)] at h
          exact h
        · rw [if_pos (Or.inr g3)] at h
          exact h
        · rw [if_neg (fun w => w.elim g2 g3)] at h
          exact h
      | succ d ih =>
        intro e s o5 o6 y he hs h
        have inner : ∀ (d2 l : Nat) (s : Int32 × Nat) (o6 : Option Value) (y : zLn), l + d2 = 11 → s.2 ≤ 301 → (∀ y', post (some (.int (sMix (sMo n lg x d (e + 1) (sMi n lg x e d2 l s)) a))) (wC t b c2 c3 c4 c5 c6 n lg ht x y' sz kn k0 k1 z sa sb sc c7 c8 c9 tr tl)) → Z 34 [some (.ref 0), some (.int a), some (.int s.1), some (.int (nI s.2)), some (.int (nI e)), some (.int (nI l)), o6] [] (wC t b c2 c3 c4 c5 c6 n lg ht x y sz kn k0 k1 z sa sb sc c7 c8 c9 tr tl) := by
          intro d2
          induction d2 with
          | zero =>
            intro l s o6 y hl hs h
            have e2 : l = 11 := by omega
            subst e2
            have := ih (e + 1) s (some (.int (nI 11))) o6 y (by omega) hs h
            rw [← nI_1] at this
            exact hZ.1 [24, 34] 60 _ _ _ _ (And.intro (fun c => this) (fun c => absurd (by decide) c))
          | succ d2 ih2 =>
            intro l s o6 y hl hs h
            have h : ∀ y', post (some (.int (sMix (sMo n lg x d (e + 1) (sMi n lg x e d2 (l + 1) (sMs n lg x s e l))) a))) (wC t b c2 c3 c4 c5 c6 n lg ht x y' sz kn k0 k1 z sa sb sc c7 c8 c9 tr tl) := h
            refine hZ.1 [24, 34, 73] 60 _ _ _ _ (And.intro (fun c => ?_) (fun c => u_till hn hw (nI e) (nI l) s.2 (by omega) _ rfl (fun y2 => ?_)))
            · rw [show (10 : Int32) = nI 10 by decide] at c
              exact absurd c (nI_nlt (by omega) (by omega))
            · refine And.intro (fun g2 => ?_) (fun g2 => ?_)
              · have := ih2 (l + 1) s (some (.int (sTill n lg s.2 0 (sMind (nI e) (nI l) x)))) y2 (by omega) hs (fun y' => by
                  have := h y'
                  rw [show sMs n lg x s e l = s from if_pos g2] at this
                  exact this)
                rw [← nI_1] at this
                exact hZ.1 [34] 60 _ _ _ _ this
              · rcases sTill_nat n lg s.2 0 (sMind (nI e) (nI l) x) with w | ⟨j, h1, h2⟩
                · exact absurd w g2
                · have := ih2 (l + 1) (11 * nI e + nI l, j) (some (.int (sTill n lg s.2 0 (sMind (nI e) (nI l) x)))) y2 (by omega) (by show j ≤ 301; omega) (fun y' => by
                    have := h y'
                    rw [show sMs n lg x s e l = (11 * nI e + nI l, j) by unfold sMs; rw [if_neg g2, h2, nI_c0 (by omega)]] at this
                    exact this)
                  rw [← nI_1] at this
                  have h3 : Z 73 [some (.ref 0), some (.int a), some (.int (11 * nI e + nI l)), some (.int (nI j)), some (.int (nI e)), some (.int (nI l)), some (.int (sTill n lg s.2 0 (sMind (nI e) (nI l) x)))] [] (wC t b c2 c3 c4 c5 c6 n lg ht x y2 sz kn k0 k1 z sa sb sc c7 c8 c9 tr tl) := hZ.1 [34] 60 _ _ _ _ this
                  rw [← h2] at h3
                  exact Or.inl ⟨rfl, rfl, fun Z2 hZ2 => hZ2.1 [] 20 _ _ _ _ h3⟩
        refine hZ.1 [24, 34] 60 _ _ _ _ (And.intro (fun c => ?_) (fun c => inner 11 0 s o6 y (by omega) hs h))
        rw [show (10 : Int32) = nI 10 by decide] at c
        exact absurd c (nI_nlt (by omega) (by omega))
    exact And.intro (fun e => absurd e (by decide)) (fun _ => outer 11 0 (-1009, 301) none none y (by omega) (by show 301 ≤ 301; omega) h)
  · have h := h y
    unfold sMix at h
    rw [if_neg q] at h
    exact And.intro (fun _ => h) (fun e => absurd rfl e)
end RWS
end
section

def kidC : List (Option Nat) := [some 30, some 34, some 38, some 42, some 46, some 50, some 54, some 58, some 62, some 66]
def krotC : List (Option Nat) := [some 34, some 38, some 42, some 46, some 50, some 54, some 58, some 62, some 66, some 30]
/-- the lines of the past, behind the class's other cells -/
def wPL (P : Nat → zLn) (tl : zW) : zW := .inr (.inr (1, [.ref 7, .ref 31, .ref 32, .ref 33, .int (P 0).2.2.2.1, .int (P 0).2.2.2.2.1, .int (P 0).2.2.2.2.2.1, .int (P 0).2.2.2.2.2.2])) :: .inl (0, 7, (P 0).1) :: .inl (0, 7, (P 0).2.1) :: .inl (0, 7, (P 0).2.2.1) :: .inr (.inr (1, [.ref 7, .ref 35, .ref 36, .ref 37, .int (P 1).2.2.2.1, .int (P 1).2.2.2.2.1, .int (P 1).2.2.2.2.2.1, .int (P 1).2.2.2.2.2.2])) :: .inl (0, 7, (P 1).1) :: .inl (0, 7, (P 1).2.1) :: .inl (0, 7, (P 1).2.2.1) :: .inr (.inr (1, [.ref 7, .ref 39, .ref 40, .ref 41, .int (P 2).2.2.2.1, .int (P 2).2.2.2.2.1, .int (P 2).2.2.2.2.2.1, .int (P 2).2.2.2.2.2.2])) :: .inl (0, 7, (P 2).1) :: .inl (0, 7, (P 2).2.1) :: .inl (0, 7, (P 2).2.2.1) :: .inr (.inr (1, [.ref 7, .ref 43, .ref 44, .ref 45, .int (P 3).2.2.2.1, .int (P 3).2.2.2.2.1, .int (P 3).2.2.2.2.2.1, .int (P 3).2.2.2.2.2.2])) :: .inl (0, 7, (P 3).1) :: .inl (0, 7, (P 3).2.1) :: .inl (0, 7, (P 3).2.2.1) :: .inr (.inr (1, [.ref 7, .ref 47, .ref 48, .ref 49, .int (P 4).2.2.2.1, .int (P 4).2.2.2.2.1, .int (P 4).2.2.2.2.2.1, .int (P 4).2.2.2.2.2.2])) :: .inl (0, 7, (P 4).1) :: .inl (0, 7, (P 4).2.1) :: .inl (0, 7, (P 4).2.2.1) :: .inr (.inr (1, [.ref 7, .ref 51, .ref 52, .ref 53, .int (P 5).2.2.2.1, .int (P 5).2.2.2.2.1, .int (P 5).2.2.2.2.2.1, .int (P 5).2.2.2.2.2.2])) :: .inl (0, 7, (P 5).1) :: .inl (0, 7, (P 5).2.1) :: .inl (0, 7, (P 5).2.2.1) :: .inr (.inr (1, [.ref 7, .ref 55, .ref 56, .ref 57, .int (P 6).2.2.2.1, .int (P 6).2.2.2.2.1, .int (P 6).2.2.2.2.2.1, .int (P 6).2.2.2.2.2.2])) :: .inl (0, 7, (P 6).1) :: .inl (0, 7, (P 6).2.1) :: .inl (0, 7, (P 6).2.2.1) :: .inr (.inr (1, [.ref 7, .ref 59, .ref 60, .ref 61, .int (P 7).2.2.2.1, .int (P 7).2.2.2.2.1, .int (P 7).2.2.2.2.2.1, .int (P 7).2.2.2.2.2.2])) :: .inl (0, 7, (P 7).1) :: .inl (0, 7, (P 7).2.1) :: .inl (0, 7, (P 7).2.2.1) :: .inr (.inr (1, [.ref 7, .ref 63, .ref 64, .ref 65, .int (P 8).2.2.2.1, .int (P 8).2.2.2.2.1, .int (P 8).2.2.2.2.2.1, .int (P 8).2.2.2.2.2.2])) :: .inl (0, 7, (P 8).1) :: .inl (0, 7, (P 8).2.1) :: .inl (0, 7, (P 8).2.2.1) :: .inr (.inr (1, [.ref 7, .ref 67, .ref 68, .ref 69, .int (P 9).2.2.2.1, .int (P 9).2.2.2.2.1, .int (P 9).2.2.2.2.2.1, .int (P 9).2.2.2.2.2.2])) :: .inl (0, 7, (P 9).1) :: .inl (0, 7, (P 9).2.1) :: .inl (0, 7, (P 9).2.2.1) :: tl
/-- the two images' lines and pasts -/
def wIM (X0 : zLn) (s0 : Int32) (P0 : Nat → zLn) (X1 : zLn) (s1 : Int32) (P1 : Nat → zLn) (tl : zW) : zW := .inr (.inr (1, [.ref 7, .ref 71, .ref 72, .ref 73, .int X0.2.2.2.1, .int X0.2.2.2.2.1, .int X0.2.2.2.2.2.1, .int X0.2.2.2.2.2.2])) :: .inl (0, 7, X0.1) :: .inl (0, 7, X0.2.1) :: .inl (0, 7, X0.2.2.1) :: .inr (.inr (4, [.ref 75, .int s0])) :: .inr (.inl (4, [some 76, some 80, some 84, some 88, some 92, some 96, some 100, some 104, some 108, some 112])) :: .inr (.inr (1, [.ref 7, .ref 77, .ref 78, .ref 79, .int (P0 0).2.2.2.1, .int (P0 0).2.2.2.2.1, .int (P0 0).2.2.2.2.2.1, .int (P0 0).2.2.2.2.2.2])) :: .inl (0, 7, (P0 0).1) :: .inl (0, 7, (P0 0).2.1) :: .inl (0, 7, (P0 0).2.2.1) :: .inr (.inr (1, [.ref 7, .ref 81, .ref 82, .ref 83, .int (P0 1).2.2.2.1, .int (P0 1).2.2.2.2.1, .int (P0 1).2.2.2.2.2.1, .int (P0 1).2.2.2.2.2.2])) :: .inl (0, 7, (P0 1).1) :: .inl (0, 7, (P0 1).2.1) :: .inl (0, 7, (P0 1).2.2.1) :: .inr (.inr (1, [.ref 7, .ref 85, .ref 86, .ref 87, .int (P0 2).2.2.2.1, .int (P0 2).2.2.2.2.1, .int (P0 2).2.2.2.2.2.1, .int (P0 2).2.2.2.2.2.2])) :: .inl (0, 7, (P0 2).1) :: .inl (0, 7, (P0 2).2.1) :: .inl (0, 7, (P0 2).2.2.1) :: .inr (.inr (1, [.ref 7, .ref 89, .ref 90, .ref 91, .int (P0 3).2.2.2.1, .int (P0 3).2.2.2.2.1, .int (P0 3).2.2.2.2.2.1, .int (P0 3).2.2.2.2.2.2])) :: .inl (0, 7, (P0 3).1) :: .inl (0, 7, (P0 3).2.1) :: .inl (0, 7, (P0 3).2.2.1) :: .inr (.inr (1, [.ref 7, .ref 93, .ref 94, .ref 95, .int (P0 4).2.2.2.1, .int (P0 4).2.2.2.2.1, .int (P0 4).2.2.2.2.2.1, .int (P0 4).2.2.2.2.2.2])) :: .inl (0, 7, (P0 4).1) :: .inl (0, 7, (P0 4).2.1) :: .inl (0, 7, (P0 4).2.2.1) :: .inr (.inr (1, [.ref 7, .ref 97, .ref 98, .ref 99, .int (P0 5).2.2.2.1, .int (P0 5).2.2.2.2.1, .int (P0 5).2.2.2.2.2.1, .int (P0 5).2.2.2.2.2.2])) :: .inl (0, 7, (P0 5).1) :: .inl (0, 7, (P0 5).2.1) :: .inl (0, 7, (P0 5).2.2.1) :: .inr (.inr (1, [.ref 7, .ref 101, .ref 102, .ref 103, .int (P0 6).2.2.2.1, .int (P0 6).2.2.2.2.1, .int (P0 6).2.2.2.2.2.1, .int (P0 6).2.2.2.2.2.2])) :: .inl (0, 7, (P0 6).1) :: .inl (0, 7, (P0 6).2.1) :: .inl (0, 7, (P0 6).2.2.1) :: .inr (.inr (1, [.ref 7, .ref 105, .ref 106, .ref 107, .int (P0 7).2.2.2.1, .int (P0 7).2.2.2.2.1, .int (P0 7).2.2.2.2.2.1, .int (P0 7).2.2.2.2.2.2])) :: .inl (0, 7, (P0 7).1) :: .inl (0, 7, (P0 7).2.1) :: .inl (0, 7, (P0 7).2.2.1) :: .inr (.inr (1, [.ref 7, .ref 109, .ref 110, .ref 111, .int (P0 8).2.2.2.1, .int (P0 8).2.2.2.2.1, .int (P0 8).2.2.2.2.2.1, .int (P0 8).2.2.2.2.2.2])) :: .inl (0, 7, (P0 8).1) :: .inl (0, 7, (P0 8).2.1) :: .inl (0, 7, (P0 8).2.2.1) :: .inr (.inr (1, [.ref 7, .ref 113, .ref 114, .ref 115, .int (P0 9).2.2.2.1, .int (P0 9).2.2.2.2.1, .int (P0 9).2.2.2.2.2.1, .int (P0 9).2.2.2.2.2.2])) :: .inl (0, 7, (P0 9).1) :: .inl (0, 7, (P0 9).2.1) :: .inl (0, 7, (P0 9).2.2.1) :: .inr (.inr (1, [.ref 7, .ref 117, .ref 118, .ref 119, .int X1.2.2.2.1, .int X1.2.2.2.2.1, .int X1.2.2.2.2.2.1, .int X1.2.2.2.2.2.2])) :: .inl (0, 7, X1.1) :: .inl (0, 7, X1.2.1) :: .inl (0, 7, X1.2.2.1) :: .inr (.inr (4, [.ref 121, .int s1])) :: .inr (.inl (4, [some 122, some 126, some 130, some 134, some 138, some 142, some 146, some 150, some 154, some 158])) :: .inr (.inr (1, [.ref 7, .ref 123, .ref 124, .ref 125, .int (P1 0).2.2.2.1, .int (P1 0).2.2.2.2.1, .int (P1 0).2.2.2.2.2.1, .int (P1 0).2.2.2.2.2.2])) :: .inl (0, 7, (P1 0).1) :: .inl (0, 7, (P1 0).2.1) :: .inl (0, 7, (P1 0).2.2.1) :: .inr (.inr (1, [.ref 7, .ref 127, .ref 128, .ref 129, .int (P1 1).2.2.2.1, .int (P1 1).2.2.2.2.1, .int (P1 1).2.2.2.2.2.1, .int (P1 1).2.2.2.2.2.2])) :: .inl (0, 7, (P1 1).1) :: .inl (0, 7, (P1 1).2.1) :: .inl (0, 7, (P1 1).2.2.1) :: .inr (.inr (1, [.ref 7, .ref 131, .ref 132, .ref 133, .int (P1 2).2.2.2.1, .int (P1 2).2.2.2.2.1, .int (P1 2).2.2.2.2.2.1, .int (P1 2).2.2.2.2.2.2])) :: .inl (0, 7, (P1 2).1) :: .inl (0, 7, (P1 2).2.1) :: .inl (0, 7, (P1 2).2.2.1) :: .inr (.inr (1, [.ref 7, .ref 135, .ref 136, .ref 137, .int (P1 3).2.2.2.1, .int (P1 3).2.2.2.2.1, .int (P1 3).2.2.2.2.2.1, .int (P1 3).2.2.2.2.2.2])) :: .inl (0, 7, (P1 3).1) :: .inl (0, 7, (P1 3).2.1) :: .inl (0, 7, (P1 3).2.2.1) :: .inr (.inr (1, [.ref 7, .ref 139, .ref 140, .ref 141, .int (P1 4).2.2.2.1, .int (P1 4).2.2.2.2.1, .int (P1 4).2.2.2.2.2.1, .int (P1 4).2.2.2.2.2.2])) :: .inl (0, 7, (P1 4).1) :: .inl (0, 7, (P1 4).2.1) :: .inl (0, 7, (P1 4).2.2.1) :: .inr (.inr (1, [.ref 7, .ref 143, .ref 144, .ref 145, .int (P1 5).2.2.2.1, .int (P1 5).2.2.2.2.1, .int (P1 5).2.2.2.2.2.1, .int (P1 5).2.2.2.2.2.2])) :: .inl (0, 7, (P1 5).1) :: .inl (0, 7, (P1 5).2.1) :: .inl (0, 7, (P1 5).2.2.1) :: .inr (.inr (1, [.ref 7, .ref 147, .ref 148, .ref 149, .int (P1 6).2.2.2.1, .int (P1 6).2.2.2.2.1, .int (P1 6).2.2.2.2.2.1, .int (P1 6).2.2.2.2.2.2])) :: .inl (0, 7, (P1 6).1) :: .inl (0, 7, (P1 6).2.1) :: .inl (0, 7, (P1 6).2.2.1) :: .inr (.inr (1, [.ref 7, .ref 151, .ref 152, .ref 153, .int (P1 7).2.2.2.1, .int (P1 7).2.2.2.2.1, .int (P1 7).2.2.2.2.2.1, .int (P1 7).2.2.2.2.2.2])) :: .inl (0, 7, (P1 7).1) :: .inl (0, 7, (P1 7).2.1) :: .inl (0, 7, (P1 7).2.2.1) :: .inr (.inr (1, [.ref 7, .ref 155, .ref 156, .ref 157, .int (P1 8).2.2.2.1, .int (P1 8).2.2.2.2.1, .int (P1 8).2.2.2.2.2.1, .int (P1 8).2.2.2.2.2.2])) :: .inl (0, 7, (P1 8).1) :: .inl (0, 7, (P1 8).2.1) :: .inl (0, 7, (P1 8).2.2.1) :: .inr (.inr (1, [.ref 7, .ref 159, .ref 160, .ref 161, .int (P1 9).2.2.2.1, .int (P1 9).2.2.2.2.1, .int (P1 9).2.2.2.2.2.1, .int (P1 9).2.2.2.2.2.2])) :: .inl (0, 7, (P1 9).1) :: .inl (0, 7, (P1 9).2.1) :: .inl (0, 7, (P1 9).2.2.1) :: tl
def sPz (s : Nat) : Int32 := if s < 10 then nI s + 1 else 10
def sPk (s : Nat) : List (Option Nat) := if s < 10 then kidC else krotC
def sPP (s : Nat) (P : Nat → zLn) (x : zLn) : Nat → zLn := if s < 10 then va_up P s x else va_up P 0 x
section RWS
variable {t : Nat → Int32} {b : Nat} {c2 c3 c4 c5 c6 : zCell} {n : Nat} {lg ht : Nat → Int32} {x y : zLn} {sz : Int32} {kn : List (Option Nat)} {k0 k1 : Int32} {z : Nat} {sa sb sc : Nat → Int32} {c7 c8 c9 : zCell} {tr : Int64} {tl : zW}
variable {K : zP} {post : zP}

variable {P : Nat → zLn} {s : Nat}
set_option maxRecDepth 100000 in
set_option maxHeartbeats 2000000 in
theorem t_loseOldest (h : post none (wC t b c2 c3 c4 c5 c6 n lg ht x y 9 krotC k0 k1 z sa sb sc c7 c8 c9 tr (wPL P tl))) : zGoes mX4_loseOldest 0 3 [.ref 18] (wC t b c2 c3 c4 c5 c6 n lg ht x y sz kidC k0 k1 z sa sb sc c7 c8 c9 tr (wPL P tl)) post := by
  intro Z hZ
  have e9 : Z 9 [some (.ref 18), some (.ref 30), some (.int 9)] [] (wC t b c2 c3 c4 c5 c6 n lg ht x y sz [some 34, some 38, some 42, some 46, some 50, some 54, some 58, some 62, some 66, some 66] k0 k1 z sa sb sc c7 c8 c9 tr (wPL P tl)) := hZ.1 [9] 40 _ _ _ _ (And.intro (fun _ => And.intro (vpd (by decide)) h) (fun c => absurd (by decide) c))
  have e8 : Z 9 [some (.ref 18), some (.ref 30), some (.int 8)] [] (wC t b c2 c3 c4 c5 c6 n lg ht x y sz [some 34, some 38, some 42, some 46, some 50, some 54, some 58, some 62, some 62, some 66] k0 k1 z sa sb sc c7 c8 c9 tr (wPL P tl)) := hZ.1 [9] 40 _ _ _ _ (And.intro (fun c => absurd c (by decide)) (fun _ => And.intro (vpd (by decide)) (Exists.intro 66 (And.intro rfl (And.intro (vpd (by decide)) e9)))))
  have e7 : Z 9 [some (.ref 18), some (.ref 30), some (.int 7)] [] (wC t b c2 c3 c4 c5 c6 n lg ht x y sz [some 34, some 38, some 42, some 46, some 50, some 54, some 58, some 58, some 62, some 66] k0 k1 z sa sb sc c7 c8 c9 tr (wPL P tl)) := hZ.1 [9] 40 _ _ _ _ (And.intro (fun c => absurd c (by decide)) (fun _ => And.intro (vpd (by decide)) (Exists.intro 62 (And.intro rfl (And.intro (vpd (by decide)) e8)))))
  have e6 : Z 9 [some (.ref 18), some (.ref 30), some (.int 6)] [] (wC t b c2 c3 c4 c5 c6 n lg ht x y sz [some 34, some 38, some 42, some 46, some 50, some 54, some 54, some 58, some 62, some 66] k0 k1 z sa sb sc c7 c8 c9 tr (wPL P tl)) := hZ.1 [9] 40 _ _ _ _ (And.intro (fun c => absurd c (by decide)) (fun _ => And.intro (vpd (by decide)) (Exists.intro 58 (And.intro rfl (And.intro (vpd (by decide)) e7)))))
  have e5 : Z 9 [some (.ref 18), some (.ref 30), some (.int 5)] [] (wC t b c2 c3 c4 c5 c6 n lg ht x y sz [some 34, some 38, some 42, some 46, some 50, some 50, some 54, some 58, some 62, some 66] k0 k1 z sa sb sc c7 c8 c9 tr (wPL P tl)) := hZ.1 [9] 40 _ _ _ _ (And.intro (fun c => absurd c (by decide)) (fun _ => And.intro (vpd (by decide)) (Exists.intro 54 (And.intro rfl (And.intro (vpd (by decide)) e6)))))
  have e4 : Z 9 [some (.ref 18), some (.ref 30), some (.int 4)] [] (wC t b c2 c3 c4 c5 c6 n lg ht x y sz [some 34, some 38, some 42, some 46, some 46, some 50, some 54, some 58, some 62, some 66] k0 k1 z sa sb sc c7 c8 c9 tr (wPL P tl)) := hZ.1 [9] 40 _ _ _ _ (And.intro (fun c => absurd c (by decide)) (fun _ => And.intro (vpd (by decide)) (Exists.intro 50 (And.intro rfl (And.intro (vpd (by decide)) e5)))))
  have e3 : Z 9 [some (.ref 18), some (.ref 30), some (.int 3)] [] (wC t b c2 c3 c4 c5 c6 n lg ht x y sz [some 34, some 38, some 42, some 42, some 46, some 50, some 54, some 58, some 62, some 66] k0 k1 z sa sb sc c7 c8 c9 tr (wPL P tl)) := hZ.1 [9] 40 _ _ _ _ (And.intro (fun c => absurd c (by decide)) (fun _ => And.intro (vpd (by decide)) (Exists.intro 46 (And.intro rfl (And.intro (vpd (by decide)) e4)))))
  have e2 : Z 9 [some (.ref 18), some (.ref 30), some (.int 2)] [] (wC t b c2 c3 c4 c5 c6 n lg ht x y sz [some 34, some 38, some 38, some 42, some 46, some 50, some 54, some 58, some 62, some 66] k0 k1 z sa sb sc c7 c8 c9 tr (wPL P tl)) := hZ.1 [9] 40 _ _ _ _ (And.intro (fun c => absurd c (by decide)) (fun _ => And.intro (vpd (by decide)) (Exists.intro 42 (And.intro rfl (And.intro (vpd (by decide)) e3)))))
  have e1 : Z 9 [some (.ref 18), some (.ref 30), some (.int 1)] [] (wC t b c2 c3 c4 c5 c6 n lg ht x y sz [some 34, some 34, some 38, some 42, some 46, some 50, some 54, some 58, some 62, some 66] k0 k1 z sa sb sc c7 c8 c9 tr (wPL P tl)) := hZ.1 [9] 40 _ _ _ _ (And.intro (fun c => absurd c (by decide)) (fun _ => And.intro (vpd (by decide)) (Exists.intro 38 (And.intro rfl (And.intro (vpd (by decide)) e2)))))
  have e0 : Z 9 [some (.ref 18), some (.ref 30), some (.int 0)] [] (wC t b c2 c3 c4 c5 c6 n lg ht x y sz [some 30, some 34, some 38, some 42, some 46, some 50, some 54, some 58, some 62, some 66] k0 k1 z sa sb sc c7 c8 c9 tr (wPL P tl)) := hZ.1 [9] 40 _ _ _ _ (And.intro (fun c => absurd c (by decide)) (fun _ => And.intro (vpd (by decide)) (Exists.intro 34 (And.intro rfl (And.intro (vpd (by decide)) e1)))))
  exact hZ.1 [9] 40 _ _ _ _ (And.intro (vpd (by decide)) (Exists.intro 30 (And.intro rfl e0)))
set_option maxRecDepth 100000 in
set_option maxHeartbeats 4000000 in
theorem t_remember : ∀ (s : Nat), s < 10 → post none (wC t b c2 c3 c4 c5 c6 n lg ht x y (nI s + 1) kidC k0 k1 z sa sb sc c7 c8 c9 tr (wPL (va_up P s x) tl)) → zGoes mX4_remember 0 2 [.ref 18, .ref 10] (wC t b c2 c3 c4 c5 c6 n lg ht x y (nI s) kidC k0 k1 z sa sb sc c7 c8 c9 tr (wPL P tl)) post
  | 0, _, h => fun Z hZ => hZ.1 [] 60 _ _ _ _ (And.intro (fun _ => And.intro (vpd (by decide)) (Exists.intro 30 (And.intro rfl (And.intro rfl (Or.inr ⟨[30, 31, 32, 33, 10, 11, 12, 13, 7], [.ref 0, .ref 4], wL2 (P 0).1 (P 0).2.1 (P 0).2.2.1 (P 0).2.2.2.1 (P 0).2.2.2.2.1 (P 0).2.2.2.2.2.1 (P 0).2.2.2.2.2.2 x.1 x.2.1 x.2.2.1 x.2.2.2.1 x.2.2.2.2.1 x.2.2.2.2.2.1 x.2.2.2.2.2.2, ⟨rfl, rfl, rfl⟩, ⟨Nat.le_of_ble_eq_true rfl, rfl⟩, rfl, t_copyFrom h⟩))))) (fun c => absurd (by decide) c))
  | 1, _, h => fun Z hZ => hZ.1 [] 60 _ _ _ _ (And.intro (fun _ => And.intro (vpd (by decide)) (Exists.intro 34 (And.intro rfl (And.intro rfl (Or.inr ⟨[34, 35, 36, 37, 10, 11, 12, 13, 7], [.ref 0, .ref 4], wL2 (P 1).1 (P 1).2.1 (P 1).2.2.1 (P 1).2.2.2.1 (P 1).2.2.2.2.1 (P 1).2.2.2.2.2.1 (P 1).2.2.2.2.2.2 x.1 x.2.1 x.2.2.1 x.2.2.2.1 x.2.2.2.2.1 x.2.2.2.2.2.1 x.2.2.2.2.2.2, ⟨rfl, rfl, rfl⟩, ⟨Nat.le_of_ble_eq_true rfl, rfl⟩, rfl, t_copyFrom h⟩))))) (fun c => absurd (by decide) c))
  | 2, _, h => fun Z hZ => hZ.1 [] 60 _ _ _ _ (And.intro (fun _ => And.intro (vpd (by decide)) (Exists.intro 38 (And.intro rfl (And.intro rfl (Or.inr ⟨[38, 39, 40, 41, 10, 11, 12, 13, 7], [.ref 0, .ref 4], wL2 (P 2).1 (P 2).2.1 (P 2).2.2.1 (P 2).2.2.2.1 (P 2).2.2.2.2.1 (P 2).2.2.2.2.2.1 (P 2).2.2.2.2.2.2 x.1 x.2.1 x.2.2.1 x.2.2.2.1 x.2.2.2.2.1 x.2.2.2.2.2.1 x.2.2.2.2.2.2, ⟨rfl, rfl, rfl⟩, ⟨Nat.le_of_ble_eq_true rfl, rfl⟩, rfl, t_copyFrom h⟩))))) (fun c => absurd (by decide) c))
  | 3, _, h => fun Z hZ => hZ.1 [] 60 _ _ _ _ (And.intro (fun _ => And.intro (vpd (by decide)) (Exists.intro 42 (And.intro rfl (And.intro rfl (Or.inr ⟨[42, 43, 44, 45, 10, 11, 12, 13, 7], [.ref 0, .ref 4], wL2 (P 3).1 (P 3).2.1 (P 3).2.2.1 (P 3).2.2.2.1 (P 3).2.2.2.2.1 (P 3).2.2.2.2.2.1 (P 3).2.2.2.2.2.2 x.1 x.2.1 x.2.2.1 x.2.2.2.1 x.2.2.2.2.1 x.2.2.2.2.2.1 x.2.2.2.2.2.2, ⟨rfl, rfl, rfl⟩, ⟨Nat.le_of_ble_eq_true rfl, rfl⟩, rfl, t_copyFrom h⟩))))) (fun c => absurd (by decide) c))
  | 4, _, h => fun Z hZ => hZ.1 [] 60 _ _ _ _ (And.intro (fun _ => And.intro (vpd (by decide)) (Exists.intro 46 (And.intro rfl (And.intro rfl (Or.inr ⟨[46, 47, 48, 49, 10, 11, 12, 13, 7], [.ref 0, .ref 4], wL2 (P 4).1 (P 4).2.1 (P 4).2.2.1 (P 4).2.2.2.1 (P 4).2.2.2.2.1 (P 4).2.2.2.2.2.1 (P 4).2.2.2.2.2.2 x.1 x.2.1 x.2.2.1 x.2.2.2.1 x.2.2.2.2.1 x.2.2.2.2.2.1 x.2.2.2.2.2.2, ⟨rfl, rfl, rfl⟩, ⟨Nat.le_of_ble_eq_true rfl, rfl⟩, rfl, t_copyFrom h⟩))))) (fun c => absurd (by decide) c))
  | 5, _, h => fun Z hZ => hZ.1 [] 60 _ _ _ _ (And.intro (fun _ => And.intro (vpd (by decide)) (Exists.intro 50 (And.intro rfl (And.intro rfl (Or.inr ⟨[50, 51, 52, 53, 10, 11, 12, 13, 7], [.ref 0, .ref 4], wL2 (P 5).1 (P 5).2.1 (P 5).2.2.1 (P 5).2.2.2.1 (P 5).2.2.2.2.1 (P 5).2.2.2.2.2.1 (P 5).2.2.2.2.2.2 x.1 x.2.1 x.2.2.1 x.2.2.2.1 x.2.2.2.2.1 x.2.2.2.2.2.1 x.2.2.2.2.2.2, ⟨rfl, rfl, rfl⟩, ⟨Nat.le_of_ble_eq_true rfl, rfl⟩, rfl, t_copyFrom h⟩))))) (fun c => absurd (by decide) c))
  | 6, _, h => fun Z hZ => hZ.1 [] 60 _ _ _ _ (And.intro (fun _ => And.intro (vpd (by decide)) (Exists.intro 54 (And.intro rfl (And.intro rfl (Or.inr ⟨[54, 55, 56, 57, 10, 11, 12, 13, 7], [.ref 0, .ref 4], wL2 (P 6).1 (P 6).2.1 (P 6).2.2.1 (P 6).2.2.2.1 (P 6).2.2.2.2.1 (P 6).2.2.2.2.2.1 (P 6).2.2.2.2.2.2 x.1 x.2.1 x.2.2.1 x.2.2.2.1 x.2.2.2.2.1 x.2.2.2.2.2.1 x.2.2.2.2.2.2, ⟨rfl, rfl, rfl⟩, ⟨Nat.le_of_ble_eq_true rfl, rfl⟩, rfl, t_copyFrom h⟩))))) (fun c => absurd (by decide) c))
  | 7, _, h => fun Z hZ => hZ.1 [] 60 _ _ _ _ (And.intro (fun _ => And.intro (vpd (by decide)) (Exists.intro 58 (And.intro rfl (And.intro rfl (Or.inr ⟨[58, 59, 60, 61, 10, 11, 12, 13, 7], [.ref 0, .ref 4], wL2 (P 7).1 (P 7).2.1 (P 7).2.2.1 (P 7).2.2.2.1 (P 7).2.2.2.2.1 (P 7).2.2.2.2.2.1 (P 7).2.2.2.2.2.2 x.1 x.2.1 x.2.2.1 x.2.2.2.1 x.2.2.2.2.1 x.2.2.2.2.2.1 x.2.2.2.2.2.2, ⟨rfl, rfl, rfl⟩, ⟨Nat.le_of_ble_eq_true rfl, rfl⟩, rfl, t_copyFrom h⟩))))) (fun c => absurd (by decide) c))
  | 8, _, h => fun Z hZ => hZ.1 [] 60 _ _ _ _ (And.intro (fun _ => And.intro (vpd (by decide)) (Exists.intro 62 (And.intro rfl (And.intro rfl (Or.inr ⟨[62, 63, 64, 65, 10, 11, 12, 13, 7], [.ref 0, .ref 4], wL2 (P 8).1 (P 8).2.1 (P 8).2.2.1 (P 8).2.2.2.1 (P 8).2.2.2.2.1 (P 8).2.2.2.2.2.1 (P 8).2.2.2.2.2.2 x.1 x.2.1 x.2.2.1 x.2.2.2.1 x.2.2.2.2.1 x.2.2.2.2.2.1 x.2.2.2.2.2.2, ⟨rfl, rfl, rfl⟩, ⟨Nat.le_of_ble_eq_true rfl, rfl⟩, rfl, t_copyFrom h⟩))))) (fun c => absurd (by decide) c))
  | 9, _, h => fun Z hZ => hZ.1 [] 60 _ _ _ _ (And.intro (fun _ => And.intro (vpd (by decide)) (Exists.intro 66 (And.intro rfl (And.intro rfl (Or.inr ⟨[66, 67, 68, 69, 10, 11, 12, 13, 7], [.ref 0, .ref 4], wL2 (P 9).1 (P 9).2.1 (P 9).2.2.1 (P 9).2.2.2.1 (P 9).2.2.2.2.1 (P 9).2.2.2.2.2.1 (P 9).2.2.2.2.2.2 x.1 x.2.1 x.2.2.1 x.2.2.2.1 x.2.2.2.2.1 x.2.2.2.2.2.1 x.2.2.2.2.2.2, ⟨rfl, rfl, rfl⟩, ⟨Nat.le_of_ble_eq_true rfl, rfl⟩, rfl, t_copyFrom h⟩))))) (fun c => absurd (by decide) c))
  | k + 10, hk, _ => absurd hk (by omega)
set_option maxRecDepth 100000 in
set_option maxHeartbeats 4000000 in
theorem t_rememberFull (h : post none (wC t b c2 c3 c4 c5 c6 n lg ht x y 10 krotC k0 k1 z sa sb sc c7 c8 c9 tr (wPL (va_up P 0 x) tl))) : zGoes mX4_remember 0 2 [.ref 18, .ref 10] (wC t b c2 c3 c4 c5 c6 n lg ht x y 10 kidC k0 k1 z sa sb sc c7 c8 c9 tr (wPL P tl)) post := fun Z hZ => hZ.1 [] 60 _ _ _ _ (And.intro (fun c => absurd c (by decide)) (fun _ => And.intro rfl (Or.inl ⟨rfl, rfl, t_loseOldest (And.intro (vpd (by decide)) (Exists.intro 30 (And.intro rfl (And.intro rfl (Or.inr ⟨[30, 31, 32, 33, 10, 11, 12, 13, 7], [.ref 0, .ref 4], wL2 (P 0).1 (P 0).2.1 (P 0).2.2.1 (P 0).2.2.2.1 (P 0).2.2.2.2.1 (P 0).2.2.2.2.2.1 (P 0).2.2.2.2.2.2 x.1 x.2.1 x.2.2.1 x.2.2.2.1 x.2.2.2.2.1 x.2.2.2.2.2.1 x.2.2.2.2.2.2, ⟨rfl, rfl, rfl⟩, ⟨Nat.le_of_ble_eq_true rfl, rfl⟩, rfl, t_copyFrom h⟩)))))⟩)))
set_option maxRecDepth 100000 in
set_option maxHeartbeats 4000000 in
theorem t_takeBack : ∀ (s : Nat), s < 10 → post none (wC t b c2 c3 c4 c5 c6 n lg ht (P s) y (nI (s + 1) - 1) kidC k0 k1 z sa sb sc c7 c8 c9 tr (wPL P tl)) → zGoes mX4_takeBack 0 2 [.ref 18, .ref 10] (wC t b c2 c3 c4 c5 c6 n lg ht x y (nI (s + 1)) kidC k0 k1 z sa sb sc c7 c8 c9 tr (wPL P tl)) post
  | 0, _, h => fun Z hZ => hZ.1 [] 60 _ _ _ _ (And.intro (fun c => absurd c (by decide)) (fun _ => And.intro (vpd (by decide)) (Exists.intro 30 (And.intro rfl (And.intro rfl (Or.inr ⟨[10, 11, 12, 13, 30, 31, 32, 33, 7], [.ref 0, .ref 4], wL2 x.1 x.2.1 x.2.2.1 x.2.2.2.1 x.2.2.2.2.1 x.2.2.2.2.2.1 x.2.2.2.2.2.2 (P 0).1 (P 0).2.1 (P 0).2.2.1 (P 0).2.2.2.1 (P 0).2.2.2.2.1 (P 0).2.2.2.2.2.1 (P 0).2.2.2.2.2.2, ⟨rfl, rfl, rfl⟩, ⟨Nat.le_of_ble_eq_true rfl, rfl⟩, rfl, t_copyFrom h⟩))))))
  | 1, _, h => fun Z hZ => hZ.1 [] 60 _ _ _ _ (And.intro (fun c => absurd c (by decide)) (fun _ => And.intro (vpd (by decide)) (Exists.intro 34 (And.intro rfl (And.intro rfl (Or.inr ⟨[10, 11, 12, 13, 34, 35, 36, 37, 7], [.ref 0, .ref 4], wL2 x.1 x.2.1 x.2.2.1 x.2.2.2.1 x.2.2.2.2.1 x.2.2.2.2.2.1 x.2.2.2.2.2.2 (P 1).1 (P 1).2.1 (P 1).2.2.1 (P 1).2.2.2.1 (P 1).2.2.2.2.1 (P 1).2.2.2.2.2.1 (P 1).2.2.2.2.2.2, ⟨rfl, rfl, rfl⟩, ⟨Nat.le_of_ble_eq_true rfl, rfl⟩, rfl, t_copyFrom h⟩))))))
  | 2, _, h => fun Z hZ => hZ.1 [] 60 _ _ _ _ (And.intro (fun c => absurd c (by decide)) (fun _ => And.intro (vpd (by decide)) (Exists.intro 38 (And.intro rfl (And.intro rfl (Or.inr ⟨[10, 11, 12, 13, 38, 39, 40, 41, 7], [.ref 0, .ref 4], wL2 x.1 x.2.1 x.2.2.1 x.2.2.2.1 x.2.2.2.2.1 x.2.2.2.2.2.1 x.2.2.2.2.2.2 (P 2).1 (P 2).2.1 (P 2).2.2.1 (P 2).2.2.2.1 (P 2).2.2.2.2.1 (P 2).2.2.2.2.2.1 (P 2).2.2.2.2.2.2, ⟨rfl, rfl, rfl⟩, ⟨Nat.le_of_ble_eq_true rfl, rfl⟩, rfl, t_copyFrom h⟩))))))
  | 3, _, h => fun Z hZ => hZ.1 [] 60 _ _ _ _ (And.intro (fun c => absurd c (by decide)) (fun _ => And.intro (vpd (by decide)) (Exists.intro 42 (And.intro rfl (And.intro rfl (Or.inr ⟨[10, 11, 12, 13, 42, 43, 44, 45, 7], [.ref 0, .ref 4], wL2 x.1 x.2.1 x.2.2.1 x.2.2.2.1 x.2.2.2.2.1 x.2.2.2.2.2.1 x.2.2.2.2.2.2 (P 3).1 (P 3).2.1 (P 3).2.2.1 (P 3).2.2.2.1 (P 3).2.2.2.2.1 (P 3).2.2.2.2.2.1 (P 3).2.2.2.2.2.2, ⟨rfl, rfl, rfl⟩, ⟨Nat.le_of_ble_eq_true rfl, rfl⟩, rfl, t_copyFrom h⟩))))))
  | 4, _, h => fun Z hZ => hZ.1 [] 60 _ _ _ _ (And.intro (fun c => absurd c (by decide)) (fun _ => And.intro (vpd (by decide)) (Exists.intro 46 (And.intro rfl (And.intro rfl (Or.inr ⟨[10, 11, 12, 13, 46, 47, 48, 49, 7], [.ref 0, .ref 4], wL2 x.1 x.2.1 x.2.2.1 x.2.2.2.1 x.2.2.2.2.1 x.2.2.2.2.2.1 x.2.2.2.2.2.2 (P 4).1 (P 4).2.1 (P 4).2.2.1 (P 4).2.2.2.1 (P 4).2.2.2.2.1 (P 4).2.2.2.2.2.1 (P 4).2.2.2.2.2.2, ⟨rfl, rfl, rfl⟩, ⟨Nat.le_of_ble_eq_true rfl, rfl⟩, rfl, t_copyFrom h⟩))))))
  | 5, _, h => fun Z hZ => hZ.1 [] 60 _ _ _ _ (And.intro (fun c => absurd c (by decide)) (fun _ => And.intro (vpd (by decide)) (Exists.intro 50 (And.intro rfl (And.intro rfl (Or.inr ⟨[10, 11, 12, 13, 50, 51, 52, 53, 7], [.ref 0, .ref 4], wL2 x.1 x.2.1 x.2.2.1 x.2.2.2.1 x.2.2.2.2.1 x.2.2.2.2.2.1 x.2.2.2.2.2.2 (P 5).1 (P 5).2.1 (P 5).2.2.1 (P 5).2.2.2.1 (P 5).2.2.2.2.1 (P 5).2.2.2.2.2.1 (P 5).2.2.2.2.2.2, ⟨rfl, rfl, rfl⟩, ⟨Nat.le_of_ble_eq_true rfl, rfl⟩, rfl, t_copyFrom h⟩))))))
  | 6, _, h => fun Z hZ => hZ.1 [] 60 _ _ _ _ (And.intro (fun c => absurd c (by decide)) (fun _ => And.intro (vpd (by decide)) (Exists.intro 54 (And.intro rfl (And.intro rfl (Or.inr ⟨[10, 11, 12, 13, 54, 55, 56, 57, 7], [.ref 0, .ref 4], wL2 x.1 x.2.1 x.2.2.1 x.2.2.2.1 x.2.2.2.2.1 x.2.2.2.2.2.1 x.2.2.2.2.2.2 (P 6).1 (P 6).2.1 (P 6).2.2.1 (P 6).2.2.2.1 (P 6).2.2.2.2.1 (P 6).2.2.2.2.2.1 (P 6).2.2.2.2.2.2, ⟨rfl, rfl, rfl⟩, ⟨Nat.le_of_ble_eq_true rfl, rfl⟩, rfl, t_copyFrom h⟩))))))
  | 7, _, h => fun Z hZ => hZ.1 [] 60 _ _ _ _ (And.intro (fun c => absurd c (by decide)) (fun _ => And.intro (vpd (by decide)) (Exists.intro 58 (And.intro rfl (And.intro rfl (Or.inr ⟨[10, 11, 12, 13, 58, 59, 60, 61, 7], [.ref 0, .ref 4], wL2 x.1 x.2.1 x.2.2.1 x.2.2.2.1 x.2.2.2.2.1 x.2.2.2.2.2.1 x.2.2.2.2.2.2 (P 7).1 (P 7).2.1 (P 7).2.2.1 (P 7).2.2.2.1 (P 7).2.2.2.2.1 (P 7).2.2.2.2.2.1 (P 7).2.2.2.2.2.2, ⟨rfl, rfl, rfl⟩, ⟨Nat.le_of_ble_eq_true rfl, rfl⟩, rfl, t_copyFrom h⟩))))))
  | 8, _, h => fun Z hZ => hZ.1 [] 60 _ _ _ _ (And.intro (fun c => absurd c (by decide)) (fun _ => And.intro (vpd (by decide)) (Exists.intro 62 (And.intro rfl (And.intro rfl (Or.inr ⟨[10, 11, 12, 13, 62, 63, 64, 65, 7], [.ref 0, .ref 4], wL2 x.1 x.2.1 x.2.2.1 x.2.2.2.1 x.2.2.2.2.1 x.2.2.2.2.2.1 x.2.2.2.2.2.2 (P 8).1 (P 8).2.1 (P 8).2.2.1 (P 8).2.2.2.1 (P 8).2.2.2.2.1 (P 8).2.2.2.2.2.1 (P 8).2.2.2.2.2.2, ⟨rfl, rfl, rfl⟩, ⟨Nat.le_of_ble_eq_true rfl, rfl⟩, rfl, t_copyFrom h⟩))))))
  | 9, _, h => fun Z hZ => hZ.1 [] 60 _ _ _ _ (And.intro (fun c => absurd c (by decide)) (fun _ => And.intro (vpd (by decide)) (Exists.intro 66 (And.intro rfl (And.intro rfl (Or.inr ⟨[10, 11, 12, 13, 66, 67, 68, 69, 7], [.ref 0, .ref 4], wL2 x.1 x.2.1 x.2.2.1 x.2.2.2.1 x.2.2.2.2.1 x.2.2.2.2.2.1 x.2.2.2.2.2.2 (P 9).1 (P 9).2.1 (P 9).2.2.1 (P 9).2.2.2.1 (P 9).2.2.2.2.1 (P 9).2.2.2.2.2.1 (P 9).2.2.2.2.2.2, ⟨rfl, rfl, rfl⟩, ⟨Nat.le_of_ble_eq_true rfl, rfl⟩, rfl, t_copyFrom h⟩))))))
  | k + 10, hk, _ => absurd hk (by omega)
set_option maxRecDepth 100000 in
theorem u_remember (hs : s ≤ 10) (h : K none (wC t b c2 c3 c4 c5 c6 n lg ht x y (sPz s) (sPk s) k0 k1 z sa sb sc c7 c8 c9 tr (wPL (sPP s P x) tl))) : zFV 4 2 (zGoes mX4_remember 0 2) [.ref 18, .ref 10] (wC t b c2 c3 c4 c5 c6 n lg ht x y (nI s) kidC k0 k1 z sa sb sc c7 c8 c9 tr (wPL P tl)) K := by
  rcases Nat.lt_or_ge s 10 with q | q
  · rw [show sPz s = nI s + 1 from if_pos q, show sPk s = kidC from if_pos q, show sPP s P x = va_up P s x from if_pos q] at h
    exact And.intro rfl (Or.inl ⟨rfl, rfl, t_remember s q h⟩)
  · have e : s = 10 := by omega
    subst e
    exact And.intro rfl (Or.inl ⟨rfl, rfl, t_rememberFull h⟩)
def sTick (x : zLn) : zLn := (x.1, x.2.1, x.2.2.1, x.2.2.2.1, x.2.2.2.2.1, x.2.2.2.2.2.1, x.2.2.2.2.2.2 + 1)
set_option maxRecDepth 100000 in
set_option maxHeartbeats 4000000 in
theorem c_wheels (hn : n ≤ 7) (hw : ∀ k, k < n → vp_in (x.1 k) 7) (hs : s ≤ 10) (h1 : x.2.2.2.2.2.2 < 9999 → post (some (.int (sBulge (sStep n lg (-1) x).2.1 (n - 1)))) (wC t b c2 c3 c4 c5 c6 n lg ht (sTick (sStep n lg (-1) x)) y (sPz s) (sPk s) k0 k1 z sa sb sc c7 c8 c9 tr (wPL (sPP s P x) tl))) (h0 : ¬ x.2.2.2.2.2.2 < 9999 → post (some (.int (-1002))) (wC t b c2 c3 c4 c5 c6 n lg ht x y (nI s) kidC k0 k1 z sa sb sc c7 c8 c9 tr (wPL P tl))) : zGoes mX7_wheels 1 1 [.ref 0] (wC t b c2 c3 c4 c5 c6 n lg ht x y (nI s) kidC k0 k1 z sa sb sc c7 c8 c9 tr (wPL P tl)) post := by
  intro Z hZ
  refine hZ.1 [] 60 _ _ _ _ (And.intro (fun c => ?_) (fun c => ?_))
  · exact u_remember hs (uL_step hn hw (-1) (uL_bulge hn (h1 c)))
  · exact h0 c
set_option maxRecDepth 100000 in
set_option maxHeartbeats 4000000 in
theorem c_slips (hn : n ≤ 7) (hs : s ≤ 10) (p u : Int32) (h1 : ∀ k, k < n → p = nI k → 1 ≤ u ∧ u ≤ 99 → post (some (.int ((sLose k u x).2.1 k))) (wC t b c2 c3 c4 c5 c6 n lg ht (sLose k u x) y (sPz s) (sPk s) k0 k1 z sa sb sc c7 c8 c9 tr (wPL (sPP s P x) tl))) (h0 : ¬ (sIn n p ∧ (1 ≤ u ∧ u ≤ 99)) → post (some (.int (-1001))) (wC t b c2 c3 c4 c5 c6 n lg ht x y (nI s) kidC k0 k1 z sa sb sc c7 c8 c9 tr (wPL P tl))) : zGoes mX7_slips 1 3 [.ref 0, .int p, .int u] (wC t b c2 c3 c4 c5 c6 n lg ht x y (nI s) kidC k0 k1 z sa sb sc c7 c8 c9 tr (wPL P tl)) post := by
  intro Z hZ
  have bad : ¬ (sIn n p ∧ (1 ≤ u ∧ u ≤ 99)) → Z 18 [some (.ref 0), some (.int p), some (.int u)] [] (wC t b c2 c3 c4 c5 c6 n lg ht x y (nI s) kidC k0 k1 z sa sb sc c7 c8 c9 tr (wPL P tl)) := fun hb => hZ.1 [] 20 _ _ _ _ (h0 hb)
  refine hZ.1 [18] 60 _ _ _ _ (u_isPlace p (fun q => ?_) (fun q => ?_))
  · refine And.intro (fun e => absurd e (by decide)) (fun _ => u_within u 1 99 (fun q2 => ?_) (fun q2 => ?_))
    · obtain ⟨k, hk, rfl⟩ := (sIn_iff hn p).mp q
      have h := h1 k hk rfl q2
      refine And.intro (fun e => absurd e (by decide)) (fun _ => u_remember hs (uL_lose k (by omega) u (And.intro (vi0 (by omega) (by omega)) ?_)))
      have e : (sLose k u x).2.1 k = (sLose k u x).2.1 (nI k).toNatClampNeg := by rw [nI_c0 (by omega)]
      rw [e] at h
      exact h
    · exact And.intro (fun _ => bad (fun z => q2 z.2)) (fun e => absurd rfl e)
  · exact And.intro (fun _ => bad (fun z => q z.1)) (fun e => absurd rfl e)
def sHop (k : Nat) (x : zLn) : zLn := (x.1, x.2.1, upd x.2.2.1 k (1 - x.2.2.1 k), x.2.2.2.1, x.2.2.2.2.1, x.2.2.2.2.2.1, x.2.2.2.2.2.2)
set_option maxRecDepth 100000 in
set_option maxHeartbeats 4000000 in
theorem c_hops (hn : n ≤ 7) (hs : s ≤ 10) (p : Int32) (h1 : ∀ k, k < n → p = nI k → post (some (.int (1 - x.2.2.1 k))) (wC t b c2 c3 c4 c5 c6 n lg ht (sHop k x) y (sPz s) (sPk s) k0 k1 z sa sb sc c7 c8 c9 tr (wPL (sPP s P x) tl))) (h0 : ¬ sIn n p → post (some (.int (-1001))) (wC t b c2 c3 c4 c5 c6 n lg ht x y (nI s) kidC k0 k1 z sa sb sc c7 c8 c9 tr (wPL P tl))) : zGoes mX7_hops 1 2 [.ref 0, .int p] (wC t b c2 c3 c4 c5 c6 n lg ht x y (nI s) kidC k0 k1 z sa sb sc c7 c8 c9 tr (wPL P tl)) post := by
  intro Z hZ
  refine hZ.1 [] 60 _ _ _ _ (u_isPlace p (fun q => ?_) (fun q => ?_))
  · obtain ⟨k, hk, rfl⟩ := (sIn_iff hn p).mp q
    have h := h1 k hk rfl
    have ec : (nI k).toNatClampNeg = k := nI_c0 (by omega)
    refine And.intro (fun e => absurd e (by decide)) (fun _ => u_remember hs (And.intro (vi0 (by omega) (by omega)) (And.intro (vi0 (by omega) (by omega)) (And.intro (vi0 (by omega) (by omega)) ?_))))
    show post (some (.int ((upd x.2.2.1 (nI k).toNatClampNeg (1 - x.2.2.1 (nI k).toNatClampNeg)) (nI k).toNatClampNeg))) (wC t b c2 c3 c4 c5 c6 n lg ht (x.1, x.2.1, upd x.2.2.1 (nI k).toNatClampNeg (1 - x.2.2.1 (nI k).toNatClampNeg), x.2.2.2.1, x.2.2.2.2.1, x.2.2.2.2.2.1, x.2.2.2.2.2.2) y (sPz s) (sPk s) k0 k1 z sa sb sc c7 c8 c9 tr (wPL (sPP s P x) tl))
    rw [ec, pk_us]
    exact h
  · exact And.intro (fun _ => h0 q) (fun e => absurd rfl e)
def sSwap (k j : Nat) (x : zLn) : zLn := (upd (upd x.1 k (x.1 j)) j (x.1 k), x.2.1, x.2.2.1, x.2.2.2.1, x.2.2.2.2.1, x.2.2.2.2.2.1, x.2.2.2.2.2.2)
set_option maxRecDepth 100000 in
set_option maxHeartbeats 4000000 in
theorem c_swaps (hn : n ≤ 7) (hs : s ≤ 10) (p u : Int32) (h1 : ∀ k j, k < n → j < n → k ≠ j → p = nI k → u = nI j → post (some (.int (x.1 j))) (wC t b c2 c3 c4 c5 c6 n lg ht (sSwap k j x) y (sPz s) (sPk s) k0 k1 z sa sb sc c7 c8 c9 tr (wPL (sPP s P x) tl))) (h0 : ¬ (sIn n p ∧ sIn n u ∧ ¬ p = u) → post (some (.int (-1001))) (wC t b c2 c3 c4 c5 c6 n lg ht x y (nI s) kidC k0 k1 z sa sb sc c7 c8 c9 tr (wPL P tl))) : zGoes mX7_swaps 1 4 [.ref 0, .int p, .int u] (wC t b c2 c3 c4 c5 c6 n lg ht x y (nI s) kidC k0 k1 z sa sb sc c7 c8 c9 tr (wPL P tl)) post := by
  intro Z hZ
  have bad : ¬ (sIn n p ∧ sIn n u ∧ ¬ p = u) → Z 21 [some (.ref 0), some (.int p), some (.int u), none] [] (wC t b c2 c3 c4 c5 c6 n lg ht x y (nI s) kidC k0 k1 z sa sb sc c7 c8 c9 tr (wPL P tl)) := fun hb => hZ.1 [] 20 _ _ _ _ (h0 hb)
  refine hZ.1 [21] 60 _ _ _ _ (u_isPlace p (fun q => ?_) (fun q => ?_))
  · refine And.intro (fun e => absurd e (by decide)) (fun _ => u_isPlace u (fun q2 => ?_) (fun q2 => ?_))
    · refine And.intro (fun e => absurd e (by decide)) (fun _ => And.intro (fun e => ?_) (fun e => ?_))
      · exact bad (fun w => w.2.2 e)
      · obtain ⟨k, hk, rfl⟩ := (sIn_iff hn p).mp q
        obtain ⟨j, hj, rfl⟩ := (sIn_iff hn u).mp q2
        have hkj : k ≠ j := fun w => e (by rw [w])
        have h := h1 k j hk hj hkj rfl rfl
        have ec : (nI k).toNatClampNeg = k := nI_c0 (by omega)
        have ej : (nI j).toNatClampNeg = j := nI_c0 (by omega)
        refine u_remember hs (And.intro (vi0 (by omega) (by omega)) (And.intro (vi0 (by omega) (by omega)) (And.intro (vi0 (by omega) (by omega)) (And.intro (vi0 (by omega) (by omega)) (And.intro (vi0 (by omega) (by omega)) ?_)))))
        show post (some (.int ((upd (upd x.1 (nI k).toNatClampNeg (x.1 (nI j).toNatClampNeg)) (nI j).toNatClampNeg (x.1 (nI k).toNatClampNeg)) (nI k).toNatClampNeg))) (wC t b c2 c3 c4 c5 c6 n lg ht (upd (upd x.1 (nI k).toNatClampNeg (x.1 (nI j).toNatClampNeg)) (nI j).toNatClampNeg (x.1 (nI k).toNatClampNeg), x.2.1, x.2.2.1, x.2.2.2.1, x.2.2.2.2.1, x.2.2.2.2.2.1, x.2.2.2.2.2.2) y (sPz s) (sPk s) k0 k1 z sa sb sc c7 c8 c9 tr (wPL (sPP s P x) tl))
        rw [ec, ej, pk_un hkj, pk_us]
        exact h
    · exact And.intro (fun _ => bad (fun w => q2 w.2.1)) (fun e => absurd rfl e)
  · exact And.intro (fun _ => bad (fun w => q w.1)) (fun e => absurd rfl e)
set_option maxRecDepth 100000 in
set_option maxHeartbeats 4000000 in
theorem c_minds (hs : s ≤ 10) (p u : Int32) (h1 : (0 ≤ p ∧ p ≤ 10) ∧ (0 ≤ u ∧ u ≤ 10) → post (some (.int (11 * x.2.2.2.2.1 + x.2.2.2.2.2.1))) (wC t b c2 c3 c4 c5 c6 n lg ht (sMind p u x) y (sPz s) (sPk s) k0 k1 z sa sb sc c7 c8 c9 tr (wPL (sPP s P x) tl))) (h0 : ¬ ((0 ≤ p ∧ p ≤ 10) ∧ (0 ≤ u ∧ u ≤ 10)) → post (some (.int (-1001))) (wC t b c2 c3 c4 c5 c6 n lg ht x y (nI s) kidC k0 k1 z sa sb sc c7 c8 c9 tr (wPL P tl))) : zGoes mX7_minds 1 4 [.ref 0, .int p, .int u] (wC t b c2 c3 c4 c5 c6 n lg ht x y (nI s) kidC k0 k1 z sa sb sc c7 c8 c9 tr (wPL P tl)) post := by
  intro Z hZ
  have bad : ¬ ((0 ≤ p ∧ p ≤ 10) ∧ (0 ≤ u ∧ u ≤ 10)) → Z 20 [some (.ref 0), some (.int p), some (.int u), none] [] (wC t b c2 c3 c4 c5 c6 n lg ht x y (nI s) kidC k0 k1 z sa sb sc c7 c8 c9 tr (wPL P tl)) := fun hb => hZ.1 [] 20 _ _ _ _ (h0 hb)
  refine hZ.1 [20] 60 _ _ _ _ (u_within p 0 10 (fun q => ?_) (fun q => ?_))
  · refine And.intro (fun e => absurd e (by decide)) (fun _ => u_within u 0 10 (fun q2 => ?_) (fun q2 => ?_))
    · exact And.intro (fun e => absurd e (by decide)) (fun _ => u_remember hs (Or.inl ⟨rfl, rfl, fun Z2 hZ2 => hZ2.1 [] 20 _ _ _ _ (h1 ⟨q, q2⟩)⟩))
    · exact And.intro (fun _ => bad (fun w => q2 w.2)) (fun e => absurd rfl e)
  · exact And.intro (fun _ => bad (fun w => q w.1)) (fun e => absurd rfl e)
def sSpeed (u : Int32) (x : zLn) : zLn := (x.1, x.2.1, x.2.2.1, u, x.2.2.2.2.1, x.2.2.2.2.2.1, x.2.2.2.2.2.2)
set_option maxRecDepth 100000 in
set_option maxHeartbeats 4000000 in
theorem c_speeds (hs : s ≤ 10) (u : Int32) (h1 : 1 ≤ u ∧ u ≤ 60 → post (some (.int x.2.2.2.1)) (wC t b c2 c3 c4 c5 c6 n lg ht (sSpeed u x) y (sPz s) (sPk s) k0 k1 z sa sb sc c7 c8 c9 tr (wPL (sPP s P x) tl))) (h0 : ¬ (1 ≤ u ∧ u ≤ 60) → post (some (.int (-1001))) (wC t b c2 c3 c4 c5 c6 n lg ht x y (nI s) kidC k0 k1 z sa sb sc c7 c8 c9 tr (wPL P tl))) : zGoes mX7_speeds 1 3 [.ref 0, .int u] (wC t b c2 c3 c4 c5 c6 n lg ht x y (nI s) kidC k0 k1 z sa sb sc c7 c8 c9 tr (wPL P tl)) post := by
  intro Z hZ
  refine hZ.1 [] 60 _ _ _ _ (u_within u 1 60 (fun q => ?_) (fun q => ?_))
  · exact And.intro (fun e => absurd e (by decide)) (fun _ => u_remember hs (h1 q))
  · exact And.intro (fun _ => h0 q) (fun e => absurd rfl e)
set_option maxRecDepth 100000 in
set_option maxHeartbeats 4000000 in
theorem c_undo0 (h : post (some (.int (-1002))) (wC t b c2 c3 c4 c5 c6 n lg ht x y 0 kidC k0 k1 z sa sb sc c7 c8 c9 tr (wPL P tl))) : zGoes mX7_undo 1 1 [.ref 0] (wC t b c2 c3 c4 c5 c6 n lg ht x y 0 kidC k0 k1 z sa sb sc c7 c8 c9 tr (wPL P tl)) post := fun Z hZ => hZ.1 [] 60 _ _ _ _ (And.intro (fun _ => h) (fun e => absurd rfl e))
set_option maxRecDepth 100000 in
set_option maxHeartbeats 4000000 in
theorem c_undo (hs : s < 10) (h : post (some (.int (nI s))) (wC t b c2 c3 c4 c5 c6 n lg ht (P s) y (nI s) kidC k0 k1 z sa sb sc c7 c8 c9 tr (wPL P tl))) : zGoes mX7_undo 1 1 [.ref 0] (wC t b c2 c3 c4 c5 c6 n lg ht x y (nI (s + 1)) kidC k0 k1 z sa sb sc c7 c8 c9 tr (wPL P tl)) post := by
  intro Z hZ
  rw [← nI_pred s] at h
  exact hZ.1 [] 60 _ _ _ _ (And.intro (fun e => absurd e (nI_ne0 (by omega) (by omega))) (fun _ => And.intro rfl (Or.inl ⟨rfl, rfl, t_takeBack s hs h⟩)))
end RWS
end
