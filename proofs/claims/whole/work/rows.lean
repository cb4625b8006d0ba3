section
-- ===== PART A: goes FIRST, ahead of the names: the tables' words, and 'selects' of the private methods out of them =====
/-- a private method of a class that the tables say can be made, by its rows of tables_1 -/
def lw_okq (q : MethodName × Nat) : Prop := (q.1.cls ≠ "java/lang/invoke/MethodHandle" ∧ q.1.cls ≠ "java/lang/invoke/VarHandle") ∧ Cond.instantiable q.1.cls q.2 ∈ tables_1 ∧ Cond.privateMethod q.1 ∈ tables_1 ∧ Cond.instanceMethod q.1 ∈ tables_1
theorem lw_p0 : lw_okq (⟨"RankWheels$Telling", "beginWith", "([II)V"⟩, 13) := ⟨⟨by decide +kernel, by decide +kernel⟩, List.mem_of_getElem? (i := 21) (by decide +kernel), List.mem_of_getElem? (i := 285) (by decide +kernel), List.mem_of_getElem? (i := 286) (by decide +kernel)⟩
theorem lw_p1 : lw_okq (⟨"RankWheels$Telling", "readToken", "()V"⟩, 13) := ⟨⟨by decide +kernel, by decide +kernel⟩, List.mem_of_getElem? (i := 21) (by decide +kernel), List.mem_of_getElem? (i := 292) (by decide +kernel), List.mem_of_getElem? (i := 293) (by decide +kernel)⟩
theorem lw_p2 : lw_okq (⟨"RankWheels$Telling", "readLetters", "()V"⟩, 13) := ⟨⟨by decide +kernel, by decide +kernel⟩, List.mem_of_getElem? (i := 21) (by decide +kernel), List.mem_of_getElem? (i := 300) (by decide +kernel), List.mem_of_getElem? (i := 301) (by decide +kernel)⟩
theorem lw_p3 : lw_okq (⟨"RankWheels$Telling", "readDigits", "()V"⟩, 13) := ⟨⟨by decide +kernel, by decide +kernel⟩, List.mem_of_getElem? (i := 21) (by decide +kernel), List.mem_of_getElem? (i := 307) (by decide +kernel), List.mem_of_getElem? (i := 308) (by decide +kernel)⟩
theorem lw_p4 : lw_okq (⟨"RankWheels$Telling", "tokenStands", "()Z"⟩, 13) := ⟨⟨by decide +kernel, by decide +kernel⟩, List.mem_of_getElem? (i := 21) (by decide +kernel), List.mem_of_getElem? (i := 311) (by decide +kernel), List.mem_of_getElem? (i := 312) (by decide +kernel)⟩
theorem lw_p5 : lw_okq (⟨"RankWheels$Telling", "beginsItem", "()Z"⟩, 13) := ⟨⟨by decide +kernel, by decide +kernel⟩, List.mem_of_getElem? (i := 21) (by decide +kernel), List.mem_of_getElem? (i := 315) (by decide +kernel), List.mem_of_getElem? (i := 316) (by decide +kernel)⟩
theorem lw_p6 : lw_okq (⟨"RankWheels$Telling", "numberWithin", "(II)I"⟩, 13) := ⟨⟨by decide +kernel, by decide +kernel⟩, List.mem_of_getElem? (i := 21) (by decide +kernel), List.mem_of_getElem? (i := 319) (by decide +kernel), List.mem_of_getElem? (i := 320) (by decide +kernel)⟩
theorem lw_p7 : lw_okq (⟨"RankWheels$Telling", "endsMan", "(I)Z"⟩, 13) := ⟨⟨by decide +kernel, by decide +kernel⟩, List.mem_of_getElem? (i := 21) (by decide +kernel), List.mem_of_getElem? (i := 323) (by decide +kernel), List.mem_of_getElem? (i := 324) (by decide +kernel)⟩
theorem lw_p8 : lw_okq (⟨"RankWheels$Telling", "endsItem", "()Z"⟩, 13) := ⟨⟨by decide +kernel, by decide +kernel⟩, List.mem_of_getElem? (i := 21) (by decide +kernel), List.mem_of_getElem? (i := 331) (by decide +kernel), List.mem_of_getElem? (i := 332) (by decide +kernel)⟩
theorem lw_p9 : lw_okq (⟨"RankWheels", "isPlace", "(I)Z"⟩, 11) := ⟨⟨by decide +kernel, by decide +kernel⟩, List.mem_of_getElem? (i := 13) (by decide +kernel), List.mem_of_getElem? (i := 358) (by decide +kernel), List.mem_of_getElem? (i := 359) (by decide +kernel)⟩
theorem lw_p10 : lw_okq (⟨"RankWheels$Past", "loseOldest", "()V"⟩, 2) := ⟨⟨by decide +kernel, by decide +kernel⟩, List.mem_of_getElem? (i := 140) (by decide +kernel), List.mem_of_getElem? (i := 377) (by decide +kernel), List.mem_of_getElem? (i := 378) (by decide +kernel)⟩
theorem lw_p11 : lw_okq (⟨"RankWheels$Line", "moveAll", "(I)Z"⟩, 8) := ⟨⟨by decide +kernel, by decide +kernel⟩, List.mem_of_getElem? (i := 101) (by decide +kernel), List.mem_of_getElem? (i := 390) (by decide +kernel), List.mem_of_getElem? (i := 391) (by decide +kernel)⟩
theorem lw_p12 : lw_okq (⟨"RankWheels$Line", "stepOf", "(IIII)I"⟩, 8) := ⟨⟨by decide +kernel, by decide +kernel⟩, List.mem_of_getElem? (i := 101) (by decide +kernel), List.mem_of_getElem? (i := 395) (by decide +kernel), List.mem_of_getElem? (i := 396) (by decide +kernel)⟩
theorem lw_p13 : lw_okq (⟨"RankWheels$Line", "changeFeet", "()V"⟩, 8) := ⟨⟨by decide +kernel, by decide +kernel⟩, List.mem_of_getElem? (i := 101) (by decide +kernel), List.mem_of_getElem? (i := 407) (by decide +kernel), List.mem_of_getElem? (i := 408) (by decide +kernel)⟩
theorem lw_p14 : lw_okq (⟨"RankWheels$Line", "gapAt", "(I)I"⟩, 8) := ⟨⟨by decide +kernel, by decide +kernel⟩, List.mem_of_getElem? (i := 101) (by decide +kernel), List.mem_of_getElem? (i := 415) (by decide +kernel), List.mem_of_getElem? (i := 416) (by decide +kernel)⟩
theorem lw_p15 : lw_okq (⟨"RankWheels", "pacesTillDressed", "(III)I"⟩, 11) := ⟨⟨by decide +kernel, by decide +kernel⟩, List.mem_of_getElem? (i := 13) (by decide +kernel), List.mem_of_getElem? (i := 478) (by decide +kernel), List.mem_of_getElem? (i := 479) (by decide +kernel)⟩
def lw_privs_1 : List (MethodName × Nat) := [(⟨"RankWheels$Telling", "beginWith", "([II)V"⟩, 13), (⟨"RankWheels$Telling", "readToken", "()V"⟩, 13), (⟨"RankWheels$Telling", "readLetters", "()V"⟩, 13), (⟨"RankWheels$Telling", "readDigits", "()V"⟩, 13), (⟨"RankWheels$Telling", "tokenStands", "()Z"⟩, 13), (⟨"RankWheels$Telling", "beginsItem", "()Z"⟩, 13), (⟨"RankWheels$Telling", "numberWithin", "(II)I"⟩, 13), (⟨"RankWheels$Telling", "endsMan", "(I)Z"⟩, 13), (⟨"RankWheels$Telling", "endsItem", "()Z"⟩, 13), (⟨"RankWheels", "isPlace", "(I)Z"⟩, 11), (⟨"RankWheels$Past", "loseOldest", "()V"⟩, 2), (⟨"RankWheels$Line", "moveAll", "(I)Z"⟩, 8), (⟨"RankWheels$Line", "stepOf", "(IIII)I"⟩, 8), (⟨"RankWheels$Line", "changeFeet", "()V"⟩, 8), (⟨"RankWheels$Line", "gapAt", "(I)I"⟩, 8), (⟨"RankWheels", "pacesTillDressed", "(III)I"⟩, 11)]
theorem lw_r1 : ∀ q ∈ lw_privs_1, lw_okq q := List.forall_mem_cons.mpr ⟨lw_p0, List.forall_mem_cons.mpr ⟨lw_p1, List.forall_mem_cons.mpr ⟨lw_p2, List.forall_mem_cons.mpr ⟨lw_p3, List.forall_mem_cons.mpr ⟨lw_p4, List.forall_mem_cons.mpr ⟨lw_p5, List.forall_mem_cons.mpr ⟨lw_p6, List.forall_mem_cons.mpr ⟨lw_p7, List.forall_mem_cons.mpr ⟨lw_p8, List.forall_mem_cons.mpr ⟨lw_p9, List.forall_mem_cons.mpr ⟨lw_p10, List.forall_mem_cons.mpr ⟨lw_p11, List.forall_mem_cons.mpr ⟨lw_p12, List.forall_mem_cons.mpr ⟨lw_p13, List.forall_mem_cons.mpr ⟨lw_p14, List.forall_mem_cons.mpr ⟨lw_p15, fun _ h => absurd h List.not_mem_nil⟩⟩⟩⟩⟩⟩⟩⟩⟩⟩⟩⟩⟩⟩⟩⟩
theorem lw_p16 : lw_okq (⟨"RankWheels", "lookAhead", "(II)V"⟩, 11) := ⟨⟨by decide +kernel, by decide +kernel⟩, List.mem_of_getElem? (i := 13) (by decide +kernel), List.mem_of_getElem? (i := 487) (by decide +kernel), List.mem_of_getElem? (i := 488) (by decide +kernel)⟩
theorem lw_p17 : lw_okq (⟨"RankWheels", "allCanStride", "(I)Z"⟩, 11) := ⟨⟨by decide +kernel, by decide +kernel⟩, List.mem_of_getElem? (i := 13) (by decide +kernel), List.mem_of_getElem? (i := 499) (by decide +kernel), List.mem_of_getElem? (i := 500) (by decide +kernel)⟩
theorem lw_p18 : lw_okq (⟨"RankWheels$Ordering", "isBetter", "(II)Z"⟩, 6) := ⟨⟨by decide +kernel, by decide +kernel⟩, List.mem_of_getElem? (i := 179) (by decide +kernel), List.mem_of_getElem? (i := 517) (by decide +kernel), List.mem_of_getElem? (i := 518) (by decide +kernel)⟩
theorem lw_p19 : lw_okq (⟨"RankWheels$Ordering", "becomeBest", "(II)V"⟩, 6) := ⟨⟨by decide +kernel, by decide +kernel⟩, List.mem_of_getElem? (i := 179) (by decide +kernel), List.mem_of_getElem? (i := 521) (by decide +kernel), List.mem_of_getElem? (i := 522) (by decide +kernel)⟩
theorem lw_p20 : lw_okq (⟨"RankWheels$Ordering", "aboveLegAt", "(I)I"⟩, 6) := ⟨⟨by decide +kernel, by decide +kernel⟩, List.mem_of_getElem? (i := 179) (by decide +kernel), List.mem_of_getElem? (i := 526) (by decide +kernel), List.mem_of_getElem? (i := 527) (by decide +kernel)⟩
theorem lw_p21 : lw_okq (⟨"RankWheels$Ordering", "apartInwardOf", "(I)I"⟩, 6) := ⟨⟨by decide +kernel, by decide +kernel⟩, List.mem_of_getElem? (i := 179) (by decide +kernel), List.mem_of_getElem? (i := 532) (by decide +kernel), List.mem_of_getElem? (i := 533) (by decide +kernel)⟩
theorem lw_p22 : lw_okq (⟨"RankWheels", "tellsAllSeen", "(II)Z"⟩, 11) := ⟨⟨by decide +kernel, by decide +kernel⟩, List.mem_of_getElem? (i := 13) (by decide +kernel), List.mem_of_getElem? (i := 587) (by decide +kernel), List.mem_of_getElem? (i := 588) (by decide +kernel)⟩
theorem lw_p23 : lw_okq (⟨"RankWheels", "rateOfStep", "(I)I"⟩, 11) := ⟨⟨by decide +kernel, by decide +kernel⟩, List.mem_of_getElem? (i := 13) (by decide +kernel), List.mem_of_getElem? (i := 605) (by decide +kernel), List.mem_of_getElem? (i := 606) (by decide +kernel)⟩
theorem lw_p24 : lw_okq (⟨"RankWheels", "rateOfShort", "(I)I"⟩, 11) := ⟨⟨by decide +kernel, by decide +kernel⟩, List.mem_of_getElem? (i := 13) (by decide +kernel), List.mem_of_getElem? (i := 609) (by decide +kernel), List.mem_of_getElem? (i := 610) (by decide +kernel)⟩
theorem lw_p25 : lw_okq (⟨"RankWheels", "rateOfSeen", "(I)I"⟩, 11) := ⟨⟨by decide +kernel, by decide +kernel⟩, List.mem_of_getElem? (i := 13) (by decide +kernel), List.mem_of_getElem? (i := 614) (by decide +kernel), List.mem_of_getElem? (i := 615) (by decide +kernel)⟩
theorem lw_p26 : lw_okq (⟨"RankWheels", "rateOfMarked", "(I)I"⟩, 11) := ⟨⟨by decide +kernel, by decide +kernel⟩, List.mem_of_getElem? (i := 13) (by decide +kernel), List.mem_of_getElem? (i := 619) (by decide +kernel), List.mem_of_getElem? (i := 620) (by decide +kernel)⟩
theorem lw_p27 : lw_okq (⟨"RankWheels", "rateOfBulging", "(I)I"⟩, 11) := ⟨⟨by decide +kernel, by decide +kernel⟩, List.mem_of_getElem? (i := 13) (by decide +kernel), List.mem_of_getElem? (i := 624) (by decide +kernel), List.mem_of_getElem? (i := 625) (by decide +kernel)⟩
theorem lw_p28 : lw_okq (⟨"RankWheels", "rateOfHopped", "(I)I"⟩, 11) := ⟨⟨by decide +kernel, by decide +kernel⟩, List.mem_of_getElem? (i := 13) (by decide +kernel), List.mem_of_getElem? (i := 629) (by decide +kernel), List.mem_of_getElem? (i := 630) (by decide +kernel)⟩
theorem lw_p29 : lw_okq (⟨"RankWheelsModel", "plain", "()V"⟩, 24) := ⟨⟨by decide +kernel, by decide +kernel⟩, List.mem_of_getElem? (i := 654) (by decide +kernel), List.mem_of_getElem? (i := 660) (by decide +kernel), List.mem_of_getElem? (i := 661) (by decide +kernel)⟩
theorem lw_p30 : lw_okq (⟨"RankWheelsModel", "takeDraft", "()V"⟩, 24) := ⟨⟨by decide +kernel, by decide +kernel⟩, List.mem_of_getElem? (i := 654) (by decide +kernel), List.mem_of_getElem? (i := 664) (by decide +kernel), List.mem_of_getElem? (i := 665) (by decide +kernel)⟩
theorem lw_p31 : lw_okq (⟨"RankWheelsModel", "step", "()V"⟩, 24) := ⟨⟨by decide +kernel, by decide +kernel⟩, List.mem_of_getElem? (i := 654) (by decide +kernel), List.mem_of_getElem? (i := 758) (by decide +kernel), List.mem_of_getElem? (i := 759) (by decide +kernel)⟩
def lw_privs_2 : List (MethodName × Nat) := [(⟨"RankWheels", "lookAhead", "(II)V"⟩, 11), (⟨"RankWheels", "allCanStride", "(I)Z"⟩, 11), (⟨"RankWheels$Ordering", "isBetter", "(II)Z"⟩, 6), (⟨"RankWheels$Ordering", "becomeBest", "(II)V"⟩, 6), (⟨"RankWheels$Ordering", "aboveLegAt", "(I)I"⟩, 6), (⟨"RankWheels$Ordering", "apartInwardOf", "(I)I"⟩, 6), (⟨"RankWheels", "tellsAllSeen", "(II)Z"⟩, 11), (⟨"RankWheels", "rateOfStep", "(I)I"⟩, 11), (⟨"RankWheels", "rateOfShort", "(I)I"⟩, 11), (⟨"RankWheels", "rateOfSeen", "(I)I"⟩, 11), (⟨"RankWheels", "rateOfMarked", "(I)I"⟩, 11), (⟨"RankWheels", "rateOfBulging", "(I)I"⟩, 11), (⟨"RankWheels", "rateOfHopped", "(I)I"⟩, 11), (⟨"RankWheelsModel", "plain", "()V"⟩, 24), (⟨"RankWheelsModel", "takeDraft", "()V"⟩, 24), (⟨"RankWheelsModel", "step", "()V"⟩, 24)]
theorem lw_r2 : ∀ q ∈ lw_privs_2, lw_okq q := List.forall_mem_cons.mpr ⟨lw_p16, List.forall_mem_cons.mpr ⟨lw_p17, List.forall_mem_cons.mpr ⟨lw_p18, List.forall_mem_cons.mpr ⟨lw_p19, List.forall_mem_cons.mpr ⟨lw_p20, List.forall_mem_cons.mpr ⟨lw_p21, List.forall_mem_cons.mpr ⟨lw_p22, List.forall_mem_cons.mpr ⟨lw_p23, List.forall_mem_cons.mpr ⟨lw_p24, List.forall_mem_cons.mpr ⟨lw_p25, List.forall_mem_cons.mpr ⟨lw_p26, List.forall_mem_cons.mpr ⟨lw_p27, List.forall_mem_cons.mpr ⟨lw_p28, List.forall_mem_cons.mpr ⟨lw_p29, List.forall_mem_cons.mpr ⟨lw_p30, List.forall_mem_cons.mpr ⟨lw_p31, fun _ h => absurd h List.not_mem_nil⟩⟩⟩⟩⟩⟩⟩⟩⟩⟩⟩⟩⟩⟩⟩⟩
theorem lw_p32 : lw_okq (⟨"RankWheelsModel", "here", "()I"⟩, 24) := ⟨⟨by decide +kernel, by decide +kernel⟩, List.mem_of_getElem? (i := 654) (by decide +kernel), List.mem_of_getElem? (i := 762) (by decide +kernel), List.mem_of_getElem? (i := 763) (by decide +kernel)⟩
theorem lw_p33 : lw_okq (⟨"RankWheelsModel", "mayBe", "(I)Z"⟩, 24) := ⟨⟨by decide +kernel, by decide +kernel⟩, List.mem_of_getElem? (i := 654) (by decide +kernel), List.mem_of_getElem? (i := 766) (by decide +kernel), List.mem_of_getElem? (i := 767) (by decide +kernel)⟩
theorem lw_p34 : lw_okq (⟨"RankWheelsModel", "due", "(Z)I"⟩, 24) := ⟨⟨by decide +kernel, by decide +kernel⟩, List.mem_of_getElem? (i := 654) (by decide +kernel), List.mem_of_getElem? (i := 773) (by decide +kernel), List.mem_of_getElem? (i := 774) (by decide +kernel)⟩
theorem lw_p35 : lw_okq (⟨"RankWheelsModel", "readRow", "(I)V"⟩, 24) := ⟨⟨by decide +kernel, by decide +kernel⟩, List.mem_of_getElem? (i := 654) (by decide +kernel), List.mem_of_getElem? (i := 777) (by decide +kernel), List.mem_of_getElem? (i := 778) (by decide +kernel)⟩
theorem lw_p36 : lw_okq (⟨"RankWheelsModel", "number", "(II)I"⟩, 24) := ⟨⟨by decide +kernel, by decide +kernel⟩, List.mem_of_getElem? (i := 654) (by decide +kernel), List.mem_of_getElem? (i := 781) (by decide +kernel), List.mem_of_getElem? (i := 782) (by decide +kernel)⟩
theorem lw_p37 : lw_okq (⟨"RankWheelsModel", "isPlace", "(I)Z"⟩, 24) := ⟨⟨by decide +kernel, by decide +kernel⟩, List.mem_of_getElem? (i := 654) (by decide +kernel), List.mem_of_getElem? (i := 789) (by decide +kernel), List.mem_of_getElem? (i := 790) (by decide +kernel)⟩
theorem lw_p38 : lw_okq (⟨"RankWheelsModel", "know", "()V"⟩, 24) := ⟨⟨by decide +kernel, by decide +kernel⟩, List.mem_of_getElem? (i := 654) (by decide +kernel), List.mem_of_getElem? (i := 804) (by decide +kernel), List.mem_of_getElem? (i := 805) (by decide +kernel)⟩
theorem lw_p39 : lw_okq (⟨"RankWheelsModel", "pace", "([II)V"⟩, 24) := ⟨⟨by decide +kernel, by decide +kernel⟩, List.mem_of_getElem? (i := 654) (by decide +kernel), List.mem_of_getElem? (i := 808) (by decide +kernel), List.mem_of_getElem? (i := 809) (by decide +kernel)⟩
theorem lw_p40 : lw_okq (⟨"RankWheelsModel", "hopAll", "([I)V"⟩, 24) := ⟨⟨by decide +kernel, by decide +kernel⟩, List.mem_of_getElem? (i := 654) (by decide +kernel), List.mem_of_getElem? (i := 815) (by decide +kernel), List.mem_of_getElem? (i := 816) (by decide +kernel)⟩
theorem lw_p41 : lw_okq (⟨"RankWheelsModel", "bulge", "([I)I"⟩, 24) := ⟨⟨by decide +kernel, by decide +kernel⟩, List.mem_of_getElem? (i := 654) (by decide +kernel), List.mem_of_getElem? (i := 819) (by decide +kernel), List.mem_of_getElem? (i := 820) (by decide +kernel)⟩
theorem lw_p42 : lw_okq (⟨"RankWheelsModel", "bulgeAt", "([I)I"⟩, 24) := ⟨⟨by decide +kernel, by decide +kernel⟩, List.mem_of_getElem? (i := 654) (by decide +kernel), List.mem_of_getElem? (i := 854) (by decide +kernel), List.mem_of_getElem? (i := 855) (by decide +kernel)⟩
theorem lw_p43 : lw_okq (⟨"RankWheelsModel", "dressedBy", "(II)I"⟩, 24) := ⟨⟨by decide +kernel, by decide +kernel⟩, List.mem_of_getElem? (i := 654) (by decide +kernel), List.mem_of_getElem? (i := 862) (by decide +kernel), List.mem_of_getElem? (i := 863) (by decide +kernel)⟩
theorem lw_p44 : lw_okq (⟨"RankWheelsModel", "take", "()V"⟩, 24) := ⟨⟨by decide +kernel, by decide +kernel⟩, List.mem_of_getElem? (i := 654) (by decide +kernel), List.mem_of_getElem? (i := 866) (by decide +kernel), List.mem_of_getElem? (i := 867) (by decide +kernel)⟩
theorem lw_p45 : lw_okq (⟨"RankWheelsModel", "isDressed", "()Z"⟩, 24) := ⟨⟨by decide +kernel, by decide +kernel⟩, List.mem_of_getElem? (i := 654) (by decide +kernel), List.mem_of_getElem? (i := 870) (by decide +kernel), List.mem_of_getElem? (i := 871) (by decide +kernel)⟩
theorem lw_p46 : lw_okq (⟨"RankWheelsModel", "look", "(I)V"⟩, 24) := ⟨⟨by decide +kernel, by decide +kernel⟩, List.mem_of_getElem? (i := 654) (by decide +kernel), List.mem_of_getElem? (i := 890) (by decide +kernel), List.mem_of_getElem? (i := 891) (by decide +kernel)⟩
theorem lw_p47 : lw_okq (⟨"RankWheelsModel", "isSo", "(II)Z"⟩, 24) := ⟨⟨by decide +kernel, by decide +kernel⟩, List.mem_of_getElem? (i := 654) (by decide +kernel), List.mem_of_getElem? (i := 922) (by decide +kernel), List.mem_of_getElem? (i := 923) (by decide +kernel)⟩
def lw_privs_3 : List (MethodName × Nat) := [(⟨"RankWheelsModel", "here", "()I"⟩, 24), (⟨"RankWheelsModel", "mayBe", "(I)Z"⟩, 24), (⟨"RankWheelsModel", "due", "(Z)I"⟩, 24), (⟨"RankWheelsModel", "readRow", "(I)V"⟩, 24), (⟨"RankWheelsModel", "number", "(II)I"⟩, 24), (⟨"RankWheelsModel", "isPlace", "(I)Z"⟩, 24), (⟨"RankWheelsModel", "know", "()V"⟩, 24), (⟨"RankWheelsModel", "pace", "([II)V"⟩, 24), (⟨"RankWheelsModel", "hopAll", "([I)V"⟩, 24), (⟨"RankWheelsModel", "bulge", "([I)I"⟩, 24), (⟨"RankWheelsModel", "bulgeAt", "([I)I"⟩, 24), (⟨"RankWheelsModel", "dressedBy", "(II)I"⟩, 24), (⟨"RankWheelsModel", "take", "()V"⟩, 24), (⟨"RankWheelsModel", "isDressed", "()Z"⟩, 24), (⟨"RankWheelsModel", "look", "(I)V"⟩, 24), (⟨"RankWheelsModel", "isSo", "(II)Z"⟩, 24)]
theorem lw_r3 : ∀ q ∈ lw_privs_3, lw_okq q := List.forall_mem_cons.mpr ⟨lw_p32, List.forall_mem_cons.mpr ⟨lw_p33, List.forall_mem_cons.mpr ⟨lw_p34, List.forall_mem_cons.mpr ⟨lw_p35, List.forall_mem_cons.mpr ⟨lw_p36, List.forall_mem_cons.mpr ⟨lw_p37, List.forall_mem_cons.mpr ⟨lw_p38, List.forall_mem_cons.mpr ⟨lw_p39, List.forall_mem_cons.mpr ⟨lw_p40, List.forall_mem_cons.mpr ⟨lw_p41, List.forall_mem_cons.mpr ⟨lw_p42, List.forall_mem_cons.mpr ⟨lw_p43, List.forall_mem_cons.mpr ⟨lw_p44, List.forall_mem_cons.mpr ⟨lw_p45, List.forall_mem_cons.mpr ⟨lw_p46, List.forall_mem_cons.mpr ⟨lw_p47, fun _ h => absurd h List.not_mem_nil⟩⟩⟩⟩⟩⟩⟩⟩⟩⟩⟩⟩⟩⟩⟩⟩
def lw_privs : List (MethodName × Nat) := lw_privs_1 ++ (lw_privs_2 ++ (lw_privs_3))
def lw_tbl : List Cond := k2_sels lw_privs ++ tables_1
theorem lw_privs_ok : ∀ q ∈ lw_privs, lw_okq q := by
  show ∀ q ∈ lw_privs_1 ++ (lw_privs_2 ++ (lw_privs_3)), lw_okq q
  exact List.forall_mem_append.mpr ⟨lw_r1, List.forall_mem_append.mpr ⟨lw_r2, lw_r3⟩⟩
end
section
def RX0 : String := "RankWheels$Image"
def TX0 : u_T := fun k => match k with
  | 0 => ("RankWheels$Image", "line", "LRankWheels$Line;", true)
  | 1 => ("RankWheels$Image", "past", "LRankWheels$Past;", true)
  | _ => ("RankWheels$Image", "kept", "Z", false)
def tyX0 : Nat → FieldType := fun k => match k with
  | 0 => .object "RankWheels$Line"
  | 1 => .object "RankWheels$Past"
  | _ => .boolean
abbrev wsX00 : List Cond := u_ws RX0 TX0 3
theorem nmX0 : ∀ a, a < 3 → ∀ b, b < 3 → a ≠ b → (TX0 a).2.1 ≠ (TX0 b).2.1 := by decide +kernel
theorem tyX0_ok : ∀ k, k < 3 → parseFieldDescriptor (TX0 k).2.2.1 = some (tyX0 k) := by decide +kernel
abbrev cX0_init : ByteArray := prog_2_method_1_code
def yX0_init : MethodName := ⟨RX0, "<init>", "(LRankWheels$Men;)V"⟩
def RX1 : String := "RankWheels$Line"
def TX1 : u_T := fun k => match k with
  | 0 => ("RankWheels$Line", "men", "LRankWheels$Men;", true)
  | 1 => ("RankWheels$Line", "who", "[I", true)
  | 2 => ("RankWheels$Line", "inches", "[I", true)
  | 3 => ("RankWheels$Line", "foot", "[I", true)
  | 4 => ("RankWheels$Line", "pace", "I", false)
  | 5 => ("RankWheels$Line", "eye", "I", false)
  | 6 => ("RankWheels$Line", "elbow", "I", false)
  | _ => ("RankWheels$Line", "paces", "I", false)
def tyX1 : Nat → FieldType := fun k => match k with
  | 0 => .object "RankWheels$Men"
  | 1 => .array .int
  | 2 => .array .int
  | 3 => .array .int
  | 4 => .int
  | 5 => .int
  | 6 => .int
  | _ => .int
abbrev wsX10 : List Cond := u_ws RX1 TX1 8
theorem nmX1 : ∀ a, a < 8 → ∀ b, b < 8 → a ≠ b → (TX1 a).2.1 ≠ (TX1 b).2.1 := by decide +kernel
theorem tyX1_ok : ∀ k, k < 8 → parseFieldDescriptor (TX1 k).2.2.1 = some (tyX1 k) := by decide +kernel
abbrev cX1_init : ByteArray := prog_3_method_1_code
def yX1_init : MethodName := ⟨RX1, "<init>", "(LRankWheels$Men;)V"⟩
abbrev cX1_formUp : ByteArray := prog_3_method_2_code
def yX1_formUp : MethodName := ⟨RX1, "formUp", "(III)V"⟩
abbrev cX1_copyFrom : ByteArray := prog_3_method_3_code
def yX1_copyFrom : MethodName := ⟨RX1, "copyFrom", "(LRankWheels$Line;)V"⟩
abbrev cX1_placeOf : ByteArray := prog_3_method_4_code
def yX1_placeOf : MethodName := ⟨RX1, "placeOf", "(I)I"⟩
abbrev cX1_legAt : ByteArray := prog_3_method_5_code
def yX1_legAt : MethodName := ⟨RX1, "legAt", "(I)I"⟩
abbrev cX1_wants : ByteArray := prog_3_method_6_code
def yX1_wants : MethodName := ⟨RX1, "wants", "(I)I"⟩
abbrev cX1_lose : ByteArray := prog_3_method_7_code
def yX1_lose : MethodName := ⟨RX1, "lose", "(II)V"⟩
abbrev cX1_wheelOnce : ByteArray := prog_3_method_8_code
def yX1_wheelOnce : MethodName := ⟨RX1, "wheelOnce", "(I)Z"⟩
abbrev cX1_moveAll : ByteArray := prog_3_method_9_code
def yX1_moveAll : MethodName := ⟨RX1, "moveAll", "(I)Z"⟩
abbrev cX1_stepOf : ByteArray := prog_3_method_10_code
def yX1_stepOf : MethodName := ⟨RX1, "stepOf", "(IIII)I"⟩
abbrev cX1_changeFeet : ByteArray := prog_3_method_11_code
def yX1_changeFeet : MethodName := ⟨RX1, "changeFeet", "()V"⟩
abbrev cX1_bulge : ByteArray := prog_3_method_12_code
def yX1_bulge : MethodName := ⟨RX1, "bulge", "()I"⟩
abbrev cX1_bulgePlace : ByteArray := prog_3_method_13_code
def yX1_bulgePlace : MethodName := ⟨RX1, "bulgePlace", "()I"⟩
abbrev cX1_gapAt : ByteArray := prog_3_method_14_code
def yX1_gapAt : MethodName := ⟨RX1, "gapAt", "(I)I"⟩
abbrev cX1_feet : ByteArray := prog_3_method_15_code
def yX1_feet : MethodName := ⟨RX1, "feet", "()I"⟩
abbrev cX1_feetAlike : ByteArray := prog_3_method_16_code
def yX1_feetAlike : MethodName := ⟨RX1, "feetAlike", "()Z"⟩
abbrev cX1_placesInLine : ByteArray := prog_3_method_17_code
def yX1_placesInLine : MethodName := ⟨RX1, "placesInLine", "()I"⟩
abbrev cX1_pacesBehind : ByteArray := prog_3_method_18_code
def yX1_pacesBehind : MethodName := ⟨RX1, "pacesBehind", "(I)I"⟩
def RX2 : String := "RankWheels$Men"
def TX2 : u_T := fun k => match k with
  | 0 => ("RankWheels$Men", "number", "I", false)
  | 1 => ("RankWheels$Men", "leg", "[I", true)
  | _ => ("RankWheels$Men", "height", "[I", true)
def tyX2 : Nat → FieldType := fun k => match k with
  | 0 => .int
  | 1 => .array .int
  | _ => .array .int
abbrev wsX20 : List Cond := u_ws RX2 TX2 3
theorem nmX2 : ∀ a, a < 3 → ∀ b, b < 3 → a ≠ b → (TX2 a).2.1 ≠ (TX2 b).2.1 := by decide +kernel
theorem tyX2_ok : ∀ k, k < 3 → parseFieldDescriptor (TX2 k).2.2.1 = some (tyX2 k) := by decide +kernel
abbrev cX2_init : ByteArray := prog_4_method_1_code
def yX2_init : MethodName := ⟨RX2, "<init>", "()V"⟩
abbrev cX2_join : ByteArray := prog_4_method_2_code
def yX2_join : MethodName := ⟨RX2, "join", "(II)V"⟩
abbrev cX2_copyFrom : ByteArray := prog_4_method_3_code
def yX2_copyFrom : MethodName := ⟨RX2, "copyFrom", "(LRankWheels$Men;)V"⟩
def RX3 : String := "RankWheels$Ordering"
def TX3 : u_T := fun k => match k with
  | 0 => ("RankWheels$Ordering", "men", "LRankWheels$Men;", true)
  | 1 => ("RankWheels$Ordering", "standing", "[I", true)
  | 2 => ("RankWheels$Ordering", "pace", "I", false)
  | 3 => ("RankWheels$Ordering", "best", "[I", true)
  | 4 => ("RankWheels$Ordering", "leastAbove", "I", false)
  | _ => ("RankWheels$Ordering", "leastApart", "I", false)
def tyX3 : Nat → FieldType := fun k => match k with
  | 0 => .object "RankWheels$Men"
  | 1 => .array .int
  | 2 => .int
  | 3 => .array .int
  | 4 => .int
  | _ => .int
abbrev wsX30 : List Cond := u_ws RX3 TX3 6
theorem nmX3 : ∀ a, a < 6 → ∀ b, b < 6 → a ≠ b → (TX3 a).2.1 ≠ (TX3 b).2.1 := by decide +kernel
theorem tyX3_ok : ∀ k, k < 6 → parseFieldDescriptor (TX3 k).2.2.1 = some (tyX3 k) := by decide +kernel
abbrev cX3_init : ByteArray := prog_5_method_1_code
def yX3_init : MethodName := ⟨RX3, "<init>", "(LRankWheels$Men;)V"⟩
abbrev cX3_arrange : ByteArray := prog_5_method_2_code
def yX3_arrange : MethodName := ⟨RX3, "arrange", "(I)V"⟩
abbrev cX3_fillFrom : ByteArray := prog_5_method_3_code
def yX3_fillFrom : MethodName := ⟨RX3, "fillFrom", "(LRankWheels$Ordering;IIII)V"⟩
abbrev cX3_aboveLegAt : ByteArray := prog_5_method_4_code
def yX3_aboveLegAt : MethodName := ⟨RX3, "aboveLegAt", "(I)I"⟩
abbrev cX3_apartInwardOf : ByteArray := prog_5_method_5_code
def yX3_apartInwardOf : MethodName := ⟨RX3, "apartInwardOf", "(I)I"⟩
abbrev cX3_isBetter : ByteArray := prog_5_method_6_code
def yX3_isBetter : MethodName := ⟨RX3, "isBetter", "(II)Z"⟩
abbrev cX3_becomeBest : ByteArray := prog_5_method_7_code
def yX3_becomeBest : MethodName := ⟨RX3, "becomeBest", "(II)V"⟩
def RX4 : String := "RankWheels$Past"
def TX4 : u_T := fun k => match k with
  | 0 => ("RankWheels$Past", "known", "[LRankWheels$Line;", true)
  | _ => ("RankWheels$Past", "size", "I", false)
def tyX4 : Nat → FieldType := fun k => match k with
  | 0 => .array (.object "RankWheels$Line")
  | _ => .int
abbrev wsX40 : List Cond := u_ws RX4 TX4 2
theorem nmX4 : ∀ a, a < 2 → ∀ b, b < 2 → a ≠ b → (TX4 a).2.1 ≠ (TX4 b).2.1 := by decide +kernel
theorem tyX4_ok : ∀ k, k < 2 → parseFieldDescriptor (TX4 k).2.2.1 = some (tyX4 k) := by decide +kernel
abbrev cX4_init : ByteArray := prog_6_method_1_code
def yX4_init : MethodName := ⟨RX4, "<init>", "(LRankWheels$Men;)V"⟩
abbrev cX4_remember : ByteArray := prog_6_method_2_code
def yX4_remember : MethodName := ⟨RX4, "remember", "(LRankWheels$Line;)V"⟩
abbrev cX4_loseOldest : ByteArray := prog_6_method_3_code
def yX4_loseOldest : MethodName := ⟨RX4, "loseOldest", "()V"⟩
abbrev cX4_takeBack : ByteArray := prog_6_method_4_code
def yX4_takeBack : MethodName := ⟨RX4, "takeBack", "(LRankWheels$Line;)V"⟩
abbrev cX4_copyFrom : ByteArray := prog_6_method_5_code
def yX4_copyFrom : MethodName := ⟨RX4, "copyFrom", "(LRankWheels$Past;)V"⟩
def RX5 : String := "RankWheels$Sightings"
def TX5 : u_T := fun k => match k with
  | 0 => ("RankWheels$Sightings", "size", "I", false)
  | 1 => ("RankWheels$Sightings", "place", "[I", true)
  | 2 => ("RankWheels$Sightings", "pace", "[I", true)
  | _ => ("RankWheels$Sightings", "inches", "[I", true)
def tyX5 : Nat → FieldType := fun k => match k with
  | 0 => .int
  | 1 => .array .int
  | 2 => .array .int
  | _ => .array .int
abbrev wsX50 : List Cond := u_ws RX5 TX5 4
theorem nmX5 : ∀ a, a < 4 → ∀ b, b < 4 → a ≠ b → (TX5 a).2.1 ≠ (TX5 b).2.1 := by decide +kernel
theorem tyX5_ok : ∀ k, k < 4 → parseFieldDescriptor (TX5 k).2.2.1 = some (tyX5 k) := by decide +kernel
abbrev cX5_init : ByteArray := prog_7_method_1_code
def yX5_init : MethodName := ⟨RX5, "<init>", "()V"⟩
abbrev cX5_note : ByteArray := prog_7_method_2_code
def yX5_note : MethodName := ⟨RX5, "note", "(III)V"⟩
abbrev cX5_lastPace : ByteArray := prog_7_method_3_code
def yX5_lastPace : MethodName := ⟨RX5, "lastPace", "()I"⟩
abbrev cX5_fit : ByteArray := prog_7_method_4_code
def yX5_fit : MethodName := ⟨RX5, "fit", "(LRankWheels$Line;I)Z"⟩
def RX6 : String := "RankWheels$Telling"
def TX6 : u_T := fun k => match k with
  | 0 => ("RankWheels$Telling", "men", "LRankWheels$Men;", true)
  | 1 => ("RankWheels$Telling", "pace", "I", false)
  | 2 => ("RankWheels$Telling", "eye", "I", false)
  | 3 => ("RankWheels$Telling", "elbow", "I", false)
  | 4 => ("RankWheels$Telling", "items", "I", false)
  | 5 => ("RankWheels$Telling", "start", "I", false)
  | 6 => ("RankWheels$Telling", "text", "[I", false)
  | 7 => ("RankWheels$Telling", "length", "I", false)
  | 8 => ("RankWheels$Telling", "at", "I", false)
  | 9 => ("RankWheels$Telling", "token", "I", false)
  | 10 => ("RankWheels$Telling", "value", "I", false)
  | 11 => ("RankWheels$Telling", "due", "I", false)
  | _ => ("RankWheels$Telling", "leg", "I", false)
def tyX6 : Nat → FieldType := fun k => match k with
  | 0 => .object "RankWheels$Men"
  | 1 => .int
  | 2 => .int
  | 3 => .int
  | 4 => .int
  | 5 => .int
  | 6 => .array .int
  | 7 => .int
  | 8 => .int
  | 9 => .int
  | 10 => .int
  | 11 => .int
  | _ => .int
abbrev wsX60 : List Cond := u_ws RX6 TX6 13
theorem nmX6 : ∀ a, a < 13 → ∀ b, b < 13 → a ≠ b → (TX6 a).2.1 ≠ (TX6 b).2.1 := by decide +kernel
theorem tyX6_ok : ∀ k, k < 13 → parseFieldDescriptor (TX6 k).2.2.1 = some (tyX6 k) := by decide +kernel
abbrev cX6_init : ByteArray := prog_8_method_1_code
def yX6_init : MethodName := ⟨RX6, "<init>", "()V"⟩
abbrev cX6_understands : ByteArray := prog_8_method_2_code
def yX6_understands : MethodName := ⟨RX6, "understands", "([II)Z"⟩
abbrev cX6_toldOr : ByteArray := prog_8_method_3_code
def yX6_toldOr : MethodName := ⟨RX6, "toldOr", "(II)I"⟩
abbrev cX6_beginWith : ByteArray := prog_8_method_4_code
def yX6_beginWith : MethodName := ⟨RX6, "beginWith", "([II)V"⟩
abbrev cX6_tokenStands : ByteArray := prog_8_method_5_code
def yX6_tokenStands : MethodName := ⟨RX6, "tokenStands", "()Z"⟩
abbrev cX6_beginsItem : ByteArray := prog_8_method_6_code
def yX6_beginsItem : MethodName := ⟨RX6, "beginsItem", "()Z"⟩
abbrev cX6_endsMan : ByteArray := prog_8_method_7_code
def yX6_endsMan : MethodName := ⟨RX6, "endsMan", "(I)Z"⟩
abbrev cX6_endsItem : ByteArray := prog_8_method_8_code
def yX6_endsItem : MethodName := ⟨RX6, "endsItem", "()Z"⟩
abbrev cX6_numberWithin : ByteArray := prog_8_method_9_code
def yX6_numberWithin : MethodName := ⟨RX6, "numberWithin", "(II)I"⟩
abbrev cX6_readToken : ByteArray := prog_8_method_10_code
def yX6_readToken : MethodName := ⟨RX6, "readToken", "()V"⟩
abbrev cX6_readLetters : ByteArray := prog_8_method_11_code
def yX6_readLetters : MethodName := ⟨RX6, "readLetters", "()V"⟩
abbrev cX6_readDigits : ByteArray := prog_8_method_12_code
def yX6_readDigits : MethodName := ⟨RX6, "readDigits", "()V"⟩
abbrev cX6_isLetter : ByteArray := prog_8_method_13_code
def yX6_isLetter : MethodName := ⟨RX6, "isLetter", "(I)Z"⟩
abbrev cX6_isDigit : ByteArray := prog_8_method_14_code
def yX6_isDigit : MethodName := ⟨RX6, "isDigit", "(I)Z"⟩
def RX7 : String := "RankWheels"
def TX7 : u_T := fun k => match k with
  | 0 => ("RankWheels", "text", "[I", true)
  | 1 => ("RankWheels", "bytes", "I", false)
  | 2 => ("RankWheels", "telling", "LRankWheels$Telling;", true)
  | 3 => ("RankWheels", "men", "LRankWheels$Men;", true)
  | 4 => ("RankWheels", "line", "LRankWheels$Line;", true)
  | 5 => ("RankWheels", "ahead", "LRankWheels$Line;", true)
  | 6 => ("RankWheels", "past", "LRankWheels$Past;", true)
  | 7 => ("RankWheels", "images", "[LRankWheels$Image;", true)
  | 8 => ("RankWheels", "sightings", "LRankWheels$Sightings;", true)
  | 9 => ("RankWheels", "ordering", "LRankWheels$Ordering;", true)
  | _ => ("RankWheels", "traced", "J", false)
def tyX7 : Nat → FieldType := fun k => match k with
  | 0 => .array .int
  | 1 => .int
  | 2 => .object "RankWheels$Telling"
  | 3 => .object "RankWheels$Men"
  | 4 => .object "RankWheels$Line"
  | 5 => .object "RankWheels$Line"
  | 6 => .object "RankWheels$Past"
  | 7 => .array (.object "RankWheels$Image")
  | 8 => .object "RankWheels$Sightings"
  | 9 => .object "RankWheels$Ordering"
  | _ => .long
abbrev wsX70 : List Cond := u_ws RX7 TX7 11
theorem nmX7 : ∀ a, a < 11 → ∀ b, b < 11 → a ≠ b → (TX7 a).2.1 ≠ (TX7 b).2.1 := by decide +kernel
theorem tyX7_ok : ∀ k, k < 11 → parseFieldDescriptor (TX7 k).2.2.1 = some (tyX7 k) := by decide +kernel
abbrev cX7_init : ByteArray := prog_1_method_1_code
def yX7_init : MethodName := ⟨RX7, "<init>", "()V"⟩
abbrev cX7_type : ByteArray := prog_1_method_2_code
def yX7_type : MethodName := ⟨RX7, "type", "(I)I"⟩
abbrev cX7_clear : ByteArray := prog_1_method_3_code
def yX7_clear : MethodName := ⟨RX7, "clear", "()I"⟩
abbrev cX7_rank : ByteArray := prog_1_method_4_code
def yX7_rank : MethodName := ⟨RX7, "rank", "()I"⟩
abbrev cX7_man : ByteArray := prog_1_method_5_code
def yX7_man : MethodName := ⟨RX7, "man", "(II)I"⟩
abbrev cX7_place : ByteArray := prog_1_method_6_code
def yX7_place : MethodName := ⟨RX7, "place", "(II)I"⟩
abbrev cX7_wheels : ByteArray := prog_1_method_7_code
def yX7_wheels : MethodName := ⟨RX7, "wheels", "()I"⟩
abbrev cX7_slips : ByteArray := prog_1_method_8_code
def yX7_slips : MethodName := ⟨RX7, "slips", "(II)I"⟩
abbrev cX7_hops : ByteArray := prog_1_method_9_code
def yX7_hops : MethodName := ⟨RX7, "hops", "(I)I"⟩
abbrev cX7_swaps : ByteArray := prog_1_method_10_code
def yX7_swaps : MethodName := ⟨RX7, "swaps", "(II)I"⟩
abbrev cX7_minds : ByteArray := prog_1_method_11_code
def yX7_minds : MethodName := ⟨RX7, "minds", "(II)I"⟩
abbrev cX7_speeds : ByteArray := prog_1_method_12_code
def yX7_speeds : MethodName := ⟨RX7, "speeds", "(I)I"⟩
abbrev cX7_undo : ByteArray := prog_1_method_13_code
def yX7_undo : MethodName := ⟨RX7, "undo", "()I"⟩
abbrev cX7_now : ByteArray := prog_1_method_14_code
def yX7_now : MethodName := ⟨RX7, "now", "(I)I"⟩
abbrev cX7_dressed : ByteArray := prog_1_method_15_code
def yX7_dressed : MethodName := ⟨RX7, "dressed", "()I"⟩
abbrev cX7_looks : ByteArray := prog_1_method_16_code
def yX7_looks : MethodName := ⟨RX7, "looks", "(II)I"⟩
abbrev cX7_mix : ByteArray := prog_1_method_17_code
def yX7_mix : MethodName := ⟨RX7, "mix", "(I)I"⟩
abbrev cX7_fastest : ByteArray := prog_1_method_18_code
def yX7_fastest : MethodName := ⟨RX7, "fastest", "()I"⟩
abbrev cX7_order : ByteArray := prog_1_method_19_code
def yX7_order : MethodName := ⟨RX7, "order", "(I)I"⟩
abbrev cX7_inStep : ByteArray := prog_1_method_20_code
def yX7_inStep : MethodName := ⟨RX7, "inStep", "()I"⟩
abbrev cX7_behind : ByteArray := prog_1_method_21_code
def yX7_behind : MethodName := ⟨RX7, "behind", "(I)I"⟩
abbrev cX7_post : ByteArray := prog_1_method_22_code
def yX7_post : MethodName := ⟨RX7, "post", "(II)I"⟩
abbrev cX7_odds : ByteArray := prog_1_method_23_code
def yX7_odds : MethodName := ⟨RX7, "odds", "(III)I"⟩
abbrev cX7_saw : ByteArray := prog_1_method_24_code
def yX7_saw : MethodName := ⟨RX7, "saw", "(III)I"⟩
abbrev cX7_forget : ByteArray := prog_1_method_25_code
def yX7_forget : MethodName := ⟨RX7, "forget", "()I"⟩
abbrev cX7_whose : ByteArray := prog_1_method_26_code
def yX7_whose : MethodName := ⟨RX7, "whose", "(I)I"⟩
abbrev cX7_rate : ByteArray := prog_1_method_27_code
def yX7_rate : MethodName := ⟨RX7, "rate", "(II)I"⟩
abbrev cX7_keep : ByteArray := prog_1_method_28_code
def yX7_keep : MethodName := ⟨RX7, "keep", "(I)I"⟩
abbrev cX7_back : ByteArray := prog_1_method_29_code
def yX7_back : MethodName := ⟨RX7, "back", "(I)I"⟩
abbrev cX7_count : ByteArray := prog_1_method_30_code
def yX7_count : MethodName := ⟨RX7, "count", "(I)I"⟩
abbrev cX7_trace : ByteArray := prog_1_method_31_code
def yX7_trace : MethodName := ⟨RX7, "trace", "()J"⟩
abbrev cX7_within : ByteArray := prog_1_method_32_code
def yX7_within : MethodName := ⟨RX7, "within", "(III)Z"⟩
abbrev cX7_isPlace : ByteArray := prog_1_method_33_code
def yX7_isPlace : MethodName := ⟨RX7, "isPlace", "(I)Z"⟩
abbrev cX7_bothMinds : ByteArray := prog_1_method_34_code
def yX7_bothMinds : MethodName := ⟨RX7, "bothMinds", "(II)I"⟩
abbrev cX7_wanted : ByteArray := prog_1_method_35_code
def yX7_wanted : MethodName := ⟨RX7, "wanted", "(III)I"⟩
abbrev cX7_lookAhead : ByteArray := prog_1_method_36_code
def yX7_lookAhead : MethodName := ⟨RX7, "lookAhead", "(II)V"⟩
abbrev cX7_pacesTillDressed : ByteArray := prog_1_method_37_code
def yX7_pacesTillDressed : MethodName := ⟨RX7, "pacesTillDressed", "(III)I"⟩
abbrev cX7_allCanStride : ByteArray := prog_1_method_38_code
def yX7_allCanStride : MethodName := ⟨RX7, "allCanStride", "(I)Z"⟩
abbrev cX7_waysInTenths : ByteArray := prog_1_method_39_code
def yX7_waysInTenths : MethodName := ⟨RX7, "waysInTenths", "(III)I"⟩
abbrev cX7_power : ByteArray := prog_1_method_40_code
def yX7_power : MethodName := ⟨RX7, "power", "(II)I"⟩
abbrev cX7_greatestDivisor : ByteArray := prog_1_method_41_code
def yX7_greatestDivisor : MethodName := ⟨RX7, "greatestDivisor", "(II)I"⟩
abbrev cX7_tellsAllSeen : ByteArray := prog_1_method_42_code
def yX7_tellsAllSeen : MethodName := ⟨RX7, "tellsAllSeen", "(II)Z"⟩
abbrev cX7_rateOfStep : ByteArray := prog_1_method_43_code
def yX7_rateOfStep : MethodName := ⟨RX7, "rateOfStep", "(I)I"⟩
abbrev cX7_rateOfShort : ByteArray := prog_1_method_44_code
def yX7_rateOfShort : MethodName := ⟨RX7, "rateOfShort", "(I)I"⟩
abbrev cX7_rateOfSeen : ByteArray := prog_1_method_45_code
def yX7_rateOfSeen : MethodName := ⟨RX7, "rateOfSeen", "(I)I"⟩
abbrev cX7_rateOfMarked : ByteArray := prog_1_method_46_code
def yX7_rateOfMarked : MethodName := ⟨RX7, "rateOfMarked", "(I)I"⟩
abbrev cX7_rateOfBulging : ByteArray := prog_1_method_47_code
def yX7_rateOfBulging : MethodName := ⟨RX7, "rateOfBulging", "(I)I"⟩
abbrev cX7_rateOfHopped : ByteArray := prog_1_method_48_code
def yX7_rateOfHopped : MethodName := ⟨RX7, "rateOfHopped", "(I)I"⟩
def RX8 : String := "RankWheelsModel"
def TX8 : u_T := fun k => match k with
  | 0 => ("RankWheelsModel", "trace", "J", false)
  | 1 => ("RankWheelsModel", "text", "[B", true)
  | 2 => ("RankWheelsModel", "typed", "I", false)
  | 3 => ("RankWheelsModel", "men", "[I", true)
  | 4 => ("RankWheelsModel", "leg", "[I", true)
  | 5 => ("RankWheelsModel", "height", "[I", true)
  | 6 => ("RankWheelsModel", "law", "[I", true)
  | 7 => ("RankWheelsModel", "at", "I", false)
  | 8 => ("RankWheelsModel", "start", "I", false)
  | 9 => ("RankWheelsModel", "sort", "I", false)
  | 10 => ("RankWheelsModel", "value", "I", false)
  | 11 => ("RankWheelsModel", "fault", "I", false)
  | 12 => ("RankWheelsModel", "toldLaws", "I", false)
  | 13 => ("RankWheelsModel", "now", "[I", true)
  | 14 => ("RankWheelsModel", "isKept", "[Z", true)
  | 15 => ("RankWheelsModel", "tried", "[I", true)
  | 16 => ("RankWheelsModel", "then", "[I", true)
  | 17 => ("RankWheelsModel", "bestAbove", "I", false)
  | 18 => ("RankWheelsModel", "bestApart", "I", false)
  | 19 => ("RankWheelsModel", "bestRow", "I", false)
  | 20 => ("RankWheelsModel", "seenAt", "[I", true)
  | 21 => ("RankWheelsModel", "seenBehind", "[I", true)
  | 22 => ("RankWheelsModel", "seenInches", "[I", true)
  | _ => ("RankWheelsModel", "seen", "I", false)
def tyX8 : Nat → FieldType := fun k => match k with
  | 0 => .long
  | 1 => .array .byte
  | 2 => .int
  | 3 => .array .int
  | 4 => .array .int
  | 5 => .array .int
  | 6 => .array .int
  | 7 => .int
  | 8 => .int
  | 9 => .int
  | 10 => .int
  | 11 => .int
  | 12 => .int
  | 13 => .array .int
  | 14 => .array .boolean
  | 15 => .array .int
  | 16 => .array .int
  | 17 => .int
  | 18 => .int
  | 19 => .int
  | 20 => .array .int
  | 21 => .array .int
  | 22 => .array .int
  | _ => .int
abbrev wsX80 : List Cond := u_ws RX8 TX8 24
theorem nmX8 : ∀ a, a < 24 → ∀ b, b < 24 → a ≠ b → (TX8 a).2.1 ≠ (TX8 b).2.1 := by decide +kernel
theorem tyX8_ok : ∀ k, k < 24 → parseFieldDescriptor (TX8 k).2.2.1 = some (tyX8 k) := by decide +kernel
abbrev cX8_init : ByteArray := prog_10_method_1_code
def yX8_init : MethodName := ⟨RX8, "<init>", "()V"⟩
abbrev cX8_in : ByteArray := prog_10_method_3_code
def yX8_in : MethodName := ⟨RX8, "in", "(III)Z"⟩
abbrev cX8_type : ByteArray := prog_10_method_4_code
def yX8_type : MethodName := ⟨RX8, "type", "(I)I"⟩
abbrev cX8_clear : ByteArray := prog_10_method_5_code
def yX8_clear : MethodName := ⟨RX8, "clear", "()I"⟩
abbrev cX8_here : ByteArray := prog_10_method_6_code
def yX8_here : MethodName := ⟨RX8, "here", "()I"⟩
abbrev cX8_step : ByteArray := prog_10_method_7_code
def yX8_step : MethodName := ⟨RX8, "step", "()V"⟩
abbrev cX8_due : ByteArray := prog_10_method_8_code
def yX8_due : MethodName := ⟨RX8, "due", "(Z)I"⟩
abbrev cX8_number : ByteArray := prog_10_method_9_code
def yX8_number : MethodName := ⟨RX8, "number", "(II)I"⟩
abbrev cX8_lawOf : ByteArray := prog_10_method_10_code
def yX8_lawOf : MethodName := ⟨RX8, "lawOf", "(I)I"⟩
abbrev cX8_mayBe : ByteArray := prog_10_method_11_code
def yX8_mayBe : MethodName := ⟨RX8, "mayBe", "(I)Z"⟩
abbrev cX8_readRow : ByteArray := prog_10_method_12_code
def yX8_readRow : MethodName := ⟨RX8, "readRow", "(I)V"⟩
abbrev cX8_plain : ByteArray := prog_10_method_13_code
def yX8_plain : MethodName := ⟨RX8, "plain", "()V"⟩
abbrev cX8_takeDraft : ByteArray := prog_10_method_14_code
def yX8_takeDraft : MethodName := ⟨RX8, "takeDraft", "()V"⟩
abbrev cX8_rank : ByteArray := prog_10_method_15_code
def yX8_rank : MethodName := ⟨RX8, "rank", "()I"⟩
abbrev cX8_isPlace : ByteArray := prog_10_method_16_code
def yX8_isPlace : MethodName := ⟨RX8, "isPlace", "(I)Z"⟩
abbrev cX8_wants : ByteArray := prog_10_method_17_code
def yX8_wants : MethodName := ⟨RX8, "wants", "([III)I"⟩
abbrev cX8_man : ByteArray := prog_10_method_18_code
def yX8_man : MethodName := ⟨RX8, "man", "(II)I"⟩
abbrev cX8_place : ByteArray := prog_10_method_19_code
def yX8_place : MethodName := ⟨RX8, "place", "(II)I"⟩
abbrev cX8_take : ByteArray := prog_10_method_20_code
def yX8_take : MethodName := ⟨RX8, "take", "()V"⟩
abbrev cX8_held : ByteArray := prog_10_method_21_code
def yX8_held : MethodName := ⟨RX8, "held", "(I)I"⟩
abbrev cX8_pace : ByteArray := prog_10_method_22_code
def yX8_pace : MethodName := ⟨RX8, "pace", "([II)V"⟩
abbrev cX8_hopAll : ByteArray := prog_10_method_23_code
def yX8_hopAll : MethodName := ⟨RX8, "hopAll", "([I)V"⟩
abbrev cX8_apart : ByteArray := prog_10_method_24_code
def yX8_apart : MethodName := ⟨RX8, "apart", "([II)I"⟩
abbrev cX8_bulge : ByteArray := prog_10_method_25_code
def yX8_bulge : MethodName := ⟨RX8, "bulge", "([I)I"⟩
abbrev cX8_bulgeAt : ByteArray := prog_10_method_26_code
def yX8_bulgeAt : MethodName := ⟨RX8, "bulgeAt", "([I)I"⟩
abbrev cX8_know : ByteArray := prog_10_method_27_code
def yX8_know : MethodName := ⟨RX8, "know", "()V"⟩
abbrev cX8_wheels : ByteArray := prog_10_method_28_code
def yX8_wheels : MethodName := ⟨RX8, "wheels", "()I"⟩
abbrev cX8_slips : ByteArray := prog_10_method_29_code
def yX8_slips : MethodName := ⟨RX8, "slips", "(II)I"⟩
abbrev cX8_hops : ByteArray := prog_10_method_30_code
def yX8_hops : MethodName := ⟨RX8, "hops", "(I)I"⟩
abbrev cX8_swaps : ByteArray := prog_10_method_31_code
def yX8_swaps : MethodName := ⟨RX8, "swaps", "(II)I"⟩
abbrev cX8_minds : ByteArray := prog_10_method_32_code
def yX8_minds : MethodName := ⟨RX8, "minds", "(II)I"⟩
abbrev cX8_speeds : ByteArray := prog_10_method_33_code
def yX8_speeds : MethodName := ⟨RX8, "speeds", "(I)I"⟩
abbrev cX8_undo : ByteArray := prog_10_method_34_code
def yX8_undo : MethodName := ⟨RX8, "undo", "()I"⟩
abbrev cX8_now : ByteArray := prog_10_method_35_code
def yX8_now : MethodName := ⟨RX8, "now", "(I)I"⟩
abbrev cX8_isDressed : ByteArray := prog_10_method_36_code
def yX8_isDressed : MethodName := ⟨RX8, "isDressed", "()Z"⟩
abbrev cX8_dressedBy : ByteArray := prog_10_method_37_code
def yX8_dressedBy : MethodName := ⟨RX8, "dressedBy", "(II)I"⟩
abbrev cX8_dressed : ByteArray := prog_10_method_38_code
def yX8_dressed : MethodName := ⟨RX8, "dressed", "()I"⟩
abbrev cX8_looks : ByteArray := prog_10_method_39_code
def yX8_looks : MethodName := ⟨RX8, "looks", "(II)I"⟩
abbrev cX8_mix : ByteArray := prog_10_method_40_code
def yX8_mix : MethodName := ⟨RX8, "mix", "(I)I"⟩
abbrev cX8_fastest : ByteArray := prog_10_method_41_code
def yX8_fastest : MethodName := ⟨RX8, "fastest", "()I"⟩
abbrev cX8_look : ByteArray := prog_10_method_42_code
def yX8_look : MethodName := ⟨RX8, "look", "(I)V"⟩
abbrev cX8_order : ByteArray := prog_10_method_43_code
def yX8_order : MethodName := ⟨RX8, "order", "(I)I"⟩
abbrev cX8_inStep : ByteArray := prog_10_method_44_code
def yX8_inStep : MethodName := ⟨RX8, "inStep", "()I"⟩
abbrev cX8_behind : ByteArray := prog_10_method_45_code
def yX8_behind : MethodName := ⟨RX8, "behind", "(I)I"⟩
abbrev cX8_post : ByteArray := prog_10_method_46_code
def yX8_post : MethodName := ⟨RX8, "post", "(II)I"⟩
abbrev cX8_odds : ByteArray := prog_10_method_47_code
def yX8_odds : MethodName := ⟨RX8, "odds", "(III)I"⟩
abbrev cX8_saw : ByteArray := prog_10_method_48_code
def yX8_saw : MethodName := ⟨RX8, "saw", "(III)I"⟩
abbrev cX8_forget : ByteArray := prog_10_method_49_code
def yX8_forget : MethodName := ⟨RX8, "forget", "()I"⟩
abbrev cX8_isSo : ByteArray := prog_10_method_50_code
def yX8_isSo : MethodName := ⟨RX8, "isSo", "(II)Z"⟩
abbrev cX8_whose : ByteArray := prog_10_method_51_code
def yX8_whose : MethodName := ⟨RX8, "whose", "(I)I"⟩
abbrev cX8_rate : ByteArray := prog_10_method_52_code
def yX8_rate : MethodName := ⟨RX8, "rate", "(II)I"⟩
abbrev cX8_keep : ByteArray := prog_10_method_53_code
def yX8_keep : MethodName := ⟨RX8, "keep", "(I)I"⟩
abbrev cX8_back : ByteArray := prog_10_method_54_code
def yX8_back : MethodName := ⟨RX8, "back", "(I)I"⟩
abbrev cX8_count : ByteArray := prog_10_method_55_code
def yX8_count : MethodName := ⟨RX8, "count", "(I)I"⟩
abbrev cX8_trace : ByteArray := prog_10_method_56_code
def yX8_trace : MethodName := ⟨RX8, "trace", "()J"⟩
def RL : String := "RankWheelsLaw"
abbrev cL_law : ByteArray := code
abbrev vwCl : List vw_C := [(RX0, TX0, 3), (RX1, TX1, 8), (RX2, TX2, 3), (RX3, TX3, 6), (RX4, TX4, 2), (RX5, TX5, 4), (RX6, TX6, 13), (RX7, TX7, 11), (RX8, TX8, 24)]
/-- the words that may go down to a callee, the same for all methods -/
def zTs : List Cond := lw_tbl.filter goodWord
theorem zTs_in {w : Cond} (n : Nat) (h : lw_tbl[n]? = some w) (hg : goodWord w = true) : w ∈ zTs := List.mem_filter.mpr ⟨List.mem_of_getElem? h, hg⟩
theorem zTs_good {big : List Cond} (h : ∀ w ∈ zTs, w ∈ big) : GoodIn big zTs := fun w hw => ⟨h w hw, good_of_word (List.mem_filter.mp hw).2⟩
set_option maxRecDepth 20000 in
theorem zX0 : ∀ w ∈ wsX00, w ∈ zTs := fun w h => List.mem_filter.mpr ((by decide +kernel : ∀ w ∈ wsX00, w ∈ lw_tbl ∧ goodWord w = true) w h)
set_option maxRecDepth 20000 in
theorem zX1 : ∀ w ∈ wsX10, w ∈ zTs := fun w h => List.mem_filter.mpr ((by decide +kernel : ∀ w ∈ wsX10, w ∈ lw_tbl ∧ goodWord w = true) w h)
set_option maxRecDepth 20000 in
theorem zX2 : ∀ w ∈ wsX20, w ∈ zTs := fun w h => List.mem_filter.mpr ((by decide +kernel : ∀ w ∈ wsX20, w ∈ lw_tbl ∧ goodWord w = true) w h)
set_option maxRecDepth 20000 in
theorem zX3 : ∀ w ∈ wsX30, w ∈ zTs := fun w h => List.mem_filter.mpr ((by decide +kernel : ∀ w ∈ wsX30, w ∈ lw_tbl ∧ goodWord w = true) w h)
set_option maxRecDepth 20000 in
theorem zX4 : ∀ w ∈ wsX40, w ∈ zTs := fun w h => List.mem_filter.mpr ((by decide +kernel : ∀ w ∈ wsX40, w ∈ lw_tbl ∧ goodWord w = true) w h)
set_option maxRecDepth 20000 in
theorem zX5 : ∀ w ∈ wsX50, w ∈ zTs := fun w h => List.mem_filter.mpr ((by decide +kernel : ∀ w ∈ wsX50, w ∈ lw_tbl ∧ goodWord w = true) w h)
set_option maxRecDepth 20000 in
theorem zX6 : ∀ w ∈ wsX60, w ∈ zTs := fun w h => List.mem_filter.mpr ((by decide +kernel : ∀ w ∈ wsX60, w ∈ lw_tbl ∧ goodWord w = true) w h)
set_option maxRecDepth 20000 in
theorem zX7 : ∀ w ∈ wsX70, w ∈ zTs := fun w h => List.mem_filter.mpr ((by decide +kernel : ∀ w ∈ wsX70, w ∈ lw_tbl ∧ goodWord w = true) w h)
set_option maxRecDepth 20000 in
theorem zX8 : ∀ w ∈ wsX80, w ∈ zTs := fun w h => List.mem_filter.mpr ((by decide +kernel : ∀ w ∈ wsX80, w ∈ lw_tbl ∧ goodWord w = true) w h)
end
section
/-! ===== the small machine: values, cells, worlds; a reference is a place of the world, 'ad' its address ===== -/
abbrev zCell : Type := (Nat × Nat × (Nat → Int32)) ⊕ ((Nat × List (Option Nat)) ⊕ (Nat × List Value))
abbrev zW : Type := List zCell
abbrev zI : Type := Instr × Int32 × Nat × List Nat
abbrev zP : Type := Option Value → zW → Prop
abbrev zK : Type := Nat → List (Option Value) → List Value → zW → Prop
abbrev zG : Type := List Value → zW → zP → Prop
abbrev zM : Type := List (Option zI) × List (Nat × Nat × Nat × FieldType) × List (Nat × Nat × Nat × FieldType) × List (Nat × Int32) × List (Nat × Int64) × List (Nat × Nat) × List (Nat × Nat × zG) × List (Nat × Nat × zG)
def zv (ad : Nat → Nat) (v : Value) : Value := match v with
  | .int x => .int x
  | .long x => .long x
  | .float x => .float x
  | .double x => .double x
  | .null => .null
  | .ref k => .ref (ad k)
  | .retAddr x => .retAddr x
theorem zv_cat (ad : Nat → Nat) (v : Value) : (zv ad v).category = v.category := by cases v <;> rfl
def zc (cy : Nat → ClassId) (ad : Nat → Nat) (c : zCell) : va_E := match c with
  | .inl a => .inl (cy a.1, a.2.1, .inl a.2.2)
  | .inr (.inl a) => .inl (cy a.1, a.2.length, .inr (.inr (.inr (.inr (fun i => ((a.2[i]?).getD none).map ad)))))
  | .inr (.inr o) => .inr (o.1, o.2.map (zv ad))
def zws (cy : Nat → ClassId) (ad : Nat → Nat) (ws : zW) : va_W := ws.mapIdx (fun k c => (ad k, zc cy ad c))
theorem zws_get {cy : Nat → ClassId} {ad : Nat → Nat} {ws : zW} {k : Nat} {c : zCell} (h : ws[k]? = some c) : (zws cy ad ws)[k]? = some (ad k, zc cy ad c) := by
  simp [zws, List.getElem?_mapIdx, h]
theorem zws_inv {cy : Nat → ClassId} {ad : Nat → Nat} {ws : zW} {k : Nat} {q : Nat × va_E} (h : (zws cy ad ws)[k]? = some q) : ∃ c, ws[k]? = some c ∧ q = (ad k, zc cy ad c) := by
  rw [zws, List.getElem?_mapIdx] at h
  cases hw : ws[k]? with
  | none => rw [hw] at h; cases h
  | some c => rw [hw] at h; exact ⟨c, rfl, (Option.some.inj h).symm⟩
theorem zws_set (cy : Nat → ClassId) (ad : Nat → Nat) (ws : zW) (k : Nat) (c : zCell) : zws cy ad (ws.set k c) = (zws cy ad ws).set k (ad k, zc cy ad c) := by
  apply List.ext_getElem?
  intro i
  simp only [zws, List.getElem?_mapIdx, List.getElem?_set, List.length_mapIdx]
  by_cases h : k = i
  · subst h
    by_cases h2 : k < ws.length
    · simp [h2]
    · simp [h2]
  · simp [h]
def zT (cy : Nat → ClassId) : List (ClassId × FieldType) := [(cy 0, .int), (cy 1, .byte), (cy 2, .boolean), (cy 3, .object "RankWheels$Image"), (cy 4, .object "RankWheels$Line")]
/-- the links to private members of nest mates -/
def zN : List Jvm.Cond := [.methodLinkNest RX7 15 yX6_init RX7, .methodLinkNest RX7 22 yX2_init RX7, .methodLinkNest RX7 54 yX5_init RX7, .methodLinkNest RX1 52 yX7_wanted RX7, .methodLinkNest RX3 59 yX7_wanted RX7, .methodLinkNest RX6 11 yX2_init RX7, .methodLinkNest RX6 90 yX7_within RX7]
def zKK (D : va_G) (cy : Nat → ClassId) (U : State) : Prop := va_K D vwCl (zT cy) U ∧ ∀ w ∈ zN, va_Nw w U
theorem zKK.warm {D : va_G} {cy : Nat → ClassId} {s U : State} (h : zKK D cy s) (hW : s.WarmedH U.vm) : zKK D cy U := by
  refine ⟨va_K.moved hW.alike h.1, fun w hw => ?_⟩
  have h1 := h.2 w hw
  simp only [zN, List.mem_cons, List.not_mem_nil, or_false] at hw
  rcases hw with rfl | rfl | rfl | rfl | rfl | rfl | rfl <;> exact va_Nw.warmM hW h1
theorem zKK.calling {D : va_G} {cy : Nat → ClassId} {U : State} {g : JFrame} {mk : MethodId} {a : Array Value} (h : zKK D cy U) : zKK D cy (U.calling g mk a) := by
  refine ⟨va_K.moved (u := U) (U := U.calling g mk a) (Vm.Alike.refl U.vm) h.1, fun w hw => ?_⟩
  have h1 := h.2 w hw
  simp only [zN, List.mem_cons, List.not_mem_nil, or_false] at hw
  rcases hw with rfl | rfl | rfl | rfl | rfl | rfl | rfl <;> exact va_Nw.same rfl rfl h1
/-! locals -/
def zLH (lsC : Array Slot) (nL : Nat) (ad : Nat → Nat) (ls : List (Option Value)) : Prop := lsC.size = nL ∧ lv_wf lsC ∧ ls.length = nL ∧ ∀ (i : Nat) (v : Value), ls[i]? = some (some v) → v.category = 1 → lsC[i]? = some (.val (zv ad v))
def zlist (ad : Nat → Nat) (ls : List (Option Value)) : List (Nat × Value) := (List.range ls.length).filterMap (fun j => match ls[j]? with
  | some (some w) => if w.category = 1 then some (j, zv ad w) else none
  | _ => none)
theorem zlist_mem {ad : Nat → Nat} {ls : List (Option Value)} {q : Nat × Value} : q ∈ zlist ad ls ↔ ∃ (j : Nat) (w : Value), ls[j]? = some (some w) ∧ w.category = 1 ∧ q = (j, zv ad w) := by
  constructor
  · intro h
    obtain ⟨j, -, h2⟩ := List.mem_filterMap.mp h
    split at h2
    · rename_i w hw
      split at h2
      · rename_i hc
        exact ⟨j, w, hw, hc, (Option.some.inj h2).symm⟩
      · cases h2
    · cases h2
  · rintro ⟨j, w, h1, h2, rfl⟩
    refine List.mem_filterMap.mpr ⟨j, List.mem_range.mpr (List.getElem?_eq_some_iff.mp h1).1, ?_⟩
    rw [h1]
    simp [h2]
theorem zLH.has {lsC : Array Slot} {nL : Nat} {ad : Nat → Nat} {ls : List (Option Value)} (h : zLH lsC nL ad ls) : lv_has lsC nL (zlist ad ls) := by
  refine ⟨h.1, h.2.1, fun q hq => ?_⟩
  obtain ⟨j, w, h1, h2, rfl⟩ := zlist_mem.mp hq
  exact h.2.2.2 j w h1 h2
theorem zLH.at {lsC : Array Slot} {nL : Nat} {ad : Nat → Nat} {ls : List (Option Value)} (h : zLH lsC nL ad ls) {i : Nat} {v : Value} (hv : ls[i]? = some (some v)) (hc : v.category = 1) : lsC[i]? = some (.val (zv ad v)) := h.2.2.2 i v hv hc
theorem zLH.put {ls' : Array Slot} {nL : Nat} {ad : Nat → Nat} {ls : List (Option Value)} {i : Nat} {v : Value} (hn : ls.length = nL) (hi : i < nL) (h : lv_has ls' nL ((i, zv ad v) :: (zlist ad ls).filter (fun q => !(q.1 == i) && !(q.1 + 1 == i && q.2.category == 2)))) : zLH ls' nL ad (ls.set i (some v)) := by
  refine ⟨h.1, h.2.1, by rw [List.length_set]; exact hn, fun j w hw hc => ?_⟩
  rw [List.getElem?_set] at hw
  by_cases hj : i = j
  · subst hj
    rw [if_pos rfl, if_pos (by omega)] at hw
    cases hw
    exact h.2.2 (i, zv ad v) List.mem_cons_self
  · rw [if_neg hj] at hw
    refine h.2.2 (j, zv ad w) (List.mem_cons_of_mem _ (List.mem_filter.mpr ⟨zlist_mem.mpr ⟨j, w, hw, hc, rfl⟩, ?_⟩))
    have hj2 : ¬ j = i := fun q => hj q.symm
    simp [hj2, zv_cat, hc]
def zOK (p : Program) (l : Launch) (e : Env) (R : Room) (s : State) (m : MethodId) (args : Array Value) (below : List Frame) (meth : Method) (c : Code) (nL : Nat) (D : va_G) (cy : Nat → ClassId) (ad : Nat → Nat) (A : Nat → Prop) (n0 : Nat) (cells slots : Nat) (Q : State → Prop) : zK := fun pc ls st ws =>
  ∀ (H : Heap) (locs : List Loc) (lsC : Array Slot), va_P D vwCl (zws cy ad ws) H → va_D A (zws cy ad ws) → va_S A s.heap H locs → ws.length = n0 → zLH lsC nL ad ls → W p l e R s m args below meth c H locs cells slots Q (F0 m pc lsC (st.map (zv ad)))
/-! the step -/
def zlen (i : Instr) : Nat := match i with
  | .bipush _ => 2
  | .iload _ => 2
  | .aload _ => 2
  | .istore _ => 2
  | .astore _ => 2
  | .ldc _ => 2
  | .newarray _ => 2
  | .sipush _ => 3
  | .getfield _ => 3
  | .putfield _ => 3
  | .iinc _ _ => 3
  | .ifCond _ _ => 3
  | .if_icmp _ _ => 3
  | .goto _ => 3
  | .invokevirtual _ => 3
  | .invokestatic _ => 3
  | .invokespecial _ => 3
  | .ldc2_w _ => 3
  | .new _ => 3
  | .anewarray _ => 3
  | _ => 1
def ztg (pc : Nat) (off : Int) (tg : List Nat) : Bool := match tg with
  | [t] => decide ((pc : Int) + off = (t : Int))
  | _ => false
def ztgs (pc : Nat) : List Int → List Nat → Bool
  | [], [] => true
  | o :: os, t :: ts => decide ((pc : Int) + o = (t : Int)) && ztgs pc os ts
  | _, _ => false
def zchk (cc : ByteArray) (pc : Nat) (x : zI) : Bool := match x.1 with
  | .tableswitch d lo hi offs => decide (decode cc pc = .ok (x.1, x.2.2.1 - pc)) && (ztgs pc (d :: offs.toList) x.2.2.2 && decide (lo + (offs.toList.length : Int) = hi + 1))
  | .lookupswitch d ps => decide (decode cc pc = .ok (x.1, x.2.2.1 - pc)) && (ztgs pc (d :: ps.toList.map (fun q => q.2)) x.2.2.2 && (ps.toList.zip (ps.toList.drop 1)).all (fun (a, next) => a.1 < next.1))
  | i => decide (decode cc pc = .ok (i, zlen i)) && (decide (x.2.2.1 = pc + zlen i) && (match i with
    | .iconst z => decide (Int32.ofInt z = x.2.1)
    | .bipush z => decide ((Int8.ofInt z).toInt32 = x.2.1)
    | .sipush z => decide ((Int16.ofInt z).toInt32 = x.2.1)
    | .iinc _ z => decide (Int32.ofInt z = x.2.1)
    | .goto off => ztg pc off x.2.2.2
    | .ifCond _ off => ztg pc off x.2.2.2
    | .if_icmp _ off => ztg pc off x.2.2.2
    | _ => true))
def zcmp (o : Jvm.ClassFile.Cond) (x y : Int32) : Prop := match o with
  | .eq => x = y
  | .ne => ¬ x = y
  | .lt => x < y
  | .ge => y ≤ x
  | .gt => y < x
  | .le => x ≤ y
def zbr (o : Jvm.ClassFile.Cond) (x y : Int32) (P N : Prop) : Prop := match o with
  | .eq => (x = y → P) ∧ (¬ x = y → N)
  | .ne => (x = y → N) ∧ (¬ x = y → P)
  | .lt => (x < y → P) ∧ (¬ x < y → N)
  | .ge => (y ≤ x → P) ∧ (¬ y ≤ x → N)
  | .gt => (y < x → P) ∧ (¬ y < x → N)
  | .le => (x ≤ y → P) ∧ (¬ x ≤ y → N)
def zcat (l : List Value) : Nat := (l.map fun v => v.category).sum
def zfit (ty : FieldType) (v : Value) (P : Prop) : Prop := match ty with
  | .int => match v with
    | .int _ => P
    | _ => False
  | .long => match v with
    | .long _ => P
    | _ => False
  | .boolean => match v with
    | .int x => (x = 0 ∨ x = 1) ∧ P
    | _ => False
  | .array _ => match v with
    | .ref _ => P
    | _ => False
  | .object _ => match v with
    | .ref _ => P
    | _ => False
  | _ => False
def zsw (x : Int32) (P : Nat → Prop) : Int → List Nat → Prop
  | _, [] => True
  | v, t :: ts => (x.toInt = v → P t) ∧ zsw x P (v + 1) ts
def zlk (x : Int32) (P : Nat → Prop) (dt : Nat) : List (Int × Int) → List Nat → Prop
  | [], [] => P dt
  | q :: qs, t :: ts => (x.toInt = q.1 → P t) ∧ (¬ x.toInt = q.1 → zlk x P dt qs ts)
  | _, _ => False
def zbool (b : Bool) (P : Prop) : Prop := match b with
  | true => P
  | false => False
def zld (K : zK) (isI : Bool) (n nx : Nat) (ls : List (Option Value)) (st : List Value) (ws : zW) : Prop := match ls[n]? with
  | some (some (.int x)) => zbool isI (K nx ls (.int x :: st) ws)
  | some (some (.ref x)) => zbool (!isI) (K nx ls (.ref x :: st) ws)
  | _ => False
def zst (K : zK) (isI : Bool) (n nx : Nat) (ls : List (Option Value)) (st : List Value) (ws : zW) : Prop := match st with
  | .int x :: r => zbool isI (zbool (Nat.blt n ls.length) (K nx (ls.set n (some (.int x))) r ws))
  | .ref x :: r => zbool (!isI) (zbool (Nat.blt n ls.length) (K nx (ls.set n (some (.ref x))) r ws))
  | _ => False
def z2 (K : zK) (f : Int32 → Int32 → Int32) (nx : Nat) (ls : List (Option Value)) (st : List Value) (ws : zW) : Prop := match st with
  | .int y :: .int x :: r => K nx ls (.int (f x y) :: r) ws
  | _ => False
def z2d (K : zK) (f : Int32 → Int32 → Int32) (nx : Nat) (ls : List (Option Value)) (st : List Value) (ws : zW) : Prop := match st with
  | .int y :: .int x :: r => ¬ y = 0 ∧ K nx ls (.int (f x y) :: r) ws
  | _ => False
def z1 (K : zK) (f : Int32 → Int32) (nx : Nat) (ls : List (Option Value)) (st : List Value) (ws : zW) : Prop := match st with
  | .int x :: r => K nx ls (.int (f x) :: r) ws
  | _ => False
def zgf (K : zK) (fl : Option (Nat × Nat × FieldType)) (nx : Nat) (ls : List (Option Value)) (st : List Value) (ws : zW) : Prop := match fl, st with
  | some (ci, j, _), .ref k :: r => match ws[k]? with
    | some (.inr (.inr (ci', fs))) => match fs[j]? with
      | some w => zbool (Nat.beq ci' ci) (K nx ls (w :: r) ws)
      | none => False
    | _ => False
  | _, _ => False
def zpf (K : zK) (fl : Option (Nat × Nat × FieldType)) (nx : Nat) (ls : List (Option Value)) (st : List Value) (ws : zW) : Prop := match fl, st with
  | some (ci, j, ty), w :: .ref k :: r => match ws[k]? with
    | some (.inr (.inr (ci', fs))) => zbool (Nat.beq ci' ci) (zbool (Nat.blt j fs.length) (zfit ty w (K nx ls r (ws.set k (.inr (.inr (ci', fs.set j w)))))))
    | _ => False
  | _, _ => False
def zal (K : zK) (isI : Bool) (nx : Nat) (ls : List (Option Value)) (st : List Value) (ws : zW) : Prop := match st with
  | .int i :: .ref k :: r => match ws[k]? with
    | some (.inl (t, n, f)) => zbool (if isI then Nat.beq t 0 else Nat.beq t 1 || Nat.beq t 2) (vp_in i n ∧ K nx ls (.int (f i.toNatClampNeg) :: r) ws)
    | _ => False
  | _ => False
def zas (K : zK) (isI : Bool) (nx : Nat) (ls : List (Option Value)) (st : List Value) (ws : zW) : Prop := match st with
  | .int x :: .int i :: .ref k :: r => match ws[k]? with
    | some (.inl (t, n, f)) => match isI, t with
      | true, 0 => vp_in i n ∧ K nx ls r (ws.set k (.inl (0, n, upd f i.toNatClampNeg x)))
      | false, 1 => vp_in i n ∧ K nx ls r (ws.set k (.inl (1, n, upd f i.toNatClampNeg (vp_nar .byte x))))
      | false, 2 => vp_in i n ∧ K nx ls r (ws.set k (.inl (2, n, upd f i.toNatClampNeg (vp_nar .boolean x))))
      | _, _ => False
    | _ => False
  | _ => False
def zaa (K : zK) (nx : Nat) (ls : List (Option Value)) (st : List Value) (ws : zW) : Prop := match st with
  | .int i :: .ref k :: r => match ws[k]? with
    | some (.inr (.inl (t, l))) => zbool (Nat.beq t 3 || Nat.beq t 4) (vp_in i l.length ∧ ∃ a : Nat, l[i.toNatClampNeg]? = some (some a) ∧ K nx ls (.ref a :: r) ws)
    | _ => False
  | _ => False
def zax (K : zK) (nx : Nat) (ls : List (Option Value)) (st : List Value) (ws : zW) : Prop := match st with
  | .ref a :: .int i :: .ref k :: r => match ws[k]?, ws[a]? with
    | some (.inr (.inl (t, l))), some (.inr (.inr (ci, _))) => zbool ((Nat.beq t 3 && Nat.beq ci 0) || (Nat.beq t 4 && Nat.beq ci 1)) (vp_in i l.length ∧ K nx ls r (ws.set k (.inr (.inl (t, l.set i.toNatClampNeg (some a))))))
    | _, _ => False
  | _ => False
def zan (K : zK) (nx : Nat) (ls : List (Option Value)) (st : List Value) (ws : zW) : Prop := match st with
  | .ref k :: r => match ws[k]? with
    | some (.inl (t, n, _)) => zbool (Nat.blt t 3) (K nx ls (.int (Int32.ofNat n) :: r) ws)
    | _ => False
  | _ => False
def zcl (K : zK) (nx : Nat) (ls : List (Option Value)) (rest : List Value) : zP := fun rv ws' => match rv with
  | some v => K nx ls (v :: rest) ws'
  | none => K nx ls rest ws'
def zca (K : zK) (g : Option (Nat × zG)) (nx : Nat) (ls : List (Option Value)) (st : List Value) (ws : zW) : Prop := match g with
  | some (n, G) => zbool (Nat.ble n st.length) (zbool (Nat.ble (zcat (st.drop n)) 8) (G (st.take n).reverse ws (zcl K nx ls (st.drop n))))
  | none => False
def zma (K : zK) (o : Nat) (nx : Nat) (ls : List (Option Value)) (st : List Value) (ws : zW) : Prop := match o with
  | 0 => match st with
    | .int y :: .int x :: r => zbool (Nat.ble (zcat r) 8) (K nx ls (.int (if x < y then y else x) :: r) ws)
    | _ => False
  | 1 => match st with
    | .int y :: .int x :: r => zbool (Nat.ble (zcat r) 8) (K nx ls (.int (if y < x then y else x) :: r) ws)
    | _ => False
  | 2 => match st with
    | .int x :: r => zbool (Nat.ble (zcat r) 8) (K nx ls (.int (if 0 ≤ x then x else 0 - x) :: r) ws)
    | _ => False
  | 3 => match st with
    | .int n :: .int dp :: .ref a :: .int sp :: .ref a0 :: r => match ws[a0]?, ws[a]? with
      | some (.inl (t0, n0, f)), some (.inl (t1, n1, g)) => zbool (Nat.ble (zcat r) 8 && (Nat.beq t0 0 && Nat.beq t1 0)) ((¬ sp < 0 ∧ ¬ dp < 0 ∧ ¬ n < 0 ∧ sp.toNatClampNeg + n.toNatClampNeg ≤ n0 ∧ dp.toNatClampNeg + n.toNatClampNeg ≤ n1) ∧ K nx ls r (ws.set a (.inl (0, n1, va_cpy f g sp.toNatClampNeg dp.toNatClampNeg n.toNatClampNeg))))
      | _, _ => False
    | _ => False
  | _ => False
def zis (M : zM) (K : zK) (ix : Nat) (nx : Nat) (ls : List (Option Value)) (st : List Value) (ws : zW) : Prop := match M.2.2.2.2.2.1.lookup ix with
  | some o => zma K o nx ls st ws
  | none => zca K (M.2.2.2.2.2.2.2.lookup ix) nx ls st ws
def zin (M : zM) (Rt : zP) (K : zK) (ls : List (Option Value)) (st : List Value) (ws : zW) (v : Int32) (nx : Nat) (tg : List Nat) (i : Instr) : Prop := match i with
  | .iload_n k => zld K true k.val nx ls st ws
  | .iload k => zld K true k nx ls st ws
  | .aload_n k => zld K false k.val nx ls st ws
  | .aload k => zld K false k nx ls st ws
  | .istore_n k => zst K true k.val nx ls st ws
  | .istore k => zst K true k nx ls st ws
  | .astore_n k => zst K false k.val nx ls st ws
  | .astore k => zst K false k nx ls st ws
  | .iconst _ => K nx ls (.int v :: st) ws
  | .bipush _ => K nx ls (.int v :: st) ws
  | .sipush _ => K nx ls (.int v :: st) ws
  | .ldc ix => match M.2.2.2.1.lookup ix with
    | some x => K nx ls (.int x :: st) ws
    | none => False
  | .ldc2_w ix => match M.2.2.2.2.1.lookup ix with
    | some x => K nx ls (.long x :: st) ws
    | none => False
  | .lconst n => K nx ls (.long (Int64.ofNat n.val) :: st) ws
  | .iadd => z2 K (fun x y => x + y) nx ls st ws
  | .isub => z2 K (fun x y => x - y) nx ls st ws
  | .imul => z2 K (fun x y => x * y) nx ls st ws
  | .iand => z2 K (fun x y => x &&& y) nx ls st ws
  | .ior => z2 K (fun x y => x ||| y) nx ls st ws
  | .ishl => z2 K (fun x y => x <<< (y &&& 31)) nx ls st ws
  | .ishr => z2 K (fun x y => x >>> (y &&& 31)) nx ls st ws
  | .idiv => z2d K (fun x y => x / y) nx ls st ws
  | .irem => z2d K (fun x y => x - x / y * y) nx ls st ws
  | .ineg => z1 K (fun x => -x) nx ls st ws
  | .i2b => z1 K (fun x => x.toInt8.toInt32) nx ls st ws
  | .ladd => match st with
    | .long y :: .long x :: r => K nx ls (.long (x + y) :: r) ws
    | _ => False
  | .lcmp => match st with
    | .long y :: .long x :: r => K nx ls (.int (lg_cmp x y) :: r) ws
    | _ => False
  | .dup => match st with
    | x :: r => zbool (Nat.beq x.category 1) (K nx ls (x :: x :: r) ws)
    | _ => False
  | .dup2 => match st with
    | x :: y :: r => zbool (Nat.beq x.category 1 && Nat.beq y.category 1) (K nx ls (x :: y :: x :: y :: r) ws)
    | _ => False
  | .pop => match st with
    | x :: r => zbool (Nat.beq x.category 1) (K nx ls r ws)
    | _ => False
  | .iinc k _ => match ls[k]? with
    | some (some (.int x)) => K nx (ls.set k (some (.int (x + v)))) st ws
    | _ => False
  | .goto _ => match tg with
    | [t] => K t ls st ws
    | _ => False
  | .ifCond o _ => match tg, st with
    | [t], .int x :: r => zbr o x 0 (K t ls r ws) (K nx ls r ws)
    | _, _ => False
  | .if_icmp o _ => match tg, st with
    | [t], .int y :: .int x :: r => zbr o x y (K t ls r ws) (K nx ls r ws)
    | _, _ => False
  | .tableswitch _ lo hi _ => match tg, st with
    | d :: ts, .int x :: r => ((x.toInt < lo ∨ hi < x.toInt) → K d ls r ws) ∧ zsw x (fun t => K t ls r ws) lo ts
    | _, _ => False
  | .lookupswitch _ ps => match tg, st with
    | d :: ts, .int x :: r => zlk x (fun t => K t ls r ws) d ps.toList ts
    | _, _ => False
  | .getfield ix => zgf K (M.2.1.lookup ix) nx ls st ws
  | .putfield ix => zpf K (M.2.2.1.lookup ix) nx ls st ws
  | .iaload => zal K true nx ls st ws
  | .baload => zal K false nx ls st ws
  | .iastore => zas K true nx ls st ws
  | .bastore => zas K false nx ls st ws
  | .aaload => zaa K nx ls st ws
  | .aastore => zax K nx ls st ws
  | .arraylength => zan K nx ls st ws
  | .invokevirtual ix => zca K (M.2.2.2.2.2.2.1.lookup ix) nx ls st ws
  | .invokestatic ix => zis M K ix nx ls st ws
  | .ireturn => match st with
    | [.int x] => Rt (some (.int x)) ws
    | _ => False
  | .lreturn => match st with
    | [.long x] => Rt (some (.long x)) ws
    | _ => False
  | .return_ => match st with
    | [] => Rt none ws
    | _ => False
  | _ => False
def zstep (M : zM) (Rt : zP) (K : zK) : zK := fun pc ls st ws => match M.1[pc]? with
  | some (some x) => zin M Rt K ls st ws x.2.1 x.2.2.1 x.2.2.2 x.1
  | _ => False
end
section
theorem zbool_inv {b : Bool} {P : Prop} (h : zbool b P) : b = true ∧ P := by
  unfold zbool at h
  split at h
  · exact ⟨rfl, h⟩
  · exact h.elim
theorem zld_inv {K : zK} {isI : Bool} {n nx : Nat} {ls : List (Option Value)} {st : List Value} {ws : zW} (h : zld K isI n nx ls st ws) : (∃ x, isI = true ∧ ls[n]? = some (some (.int x)) ∧ K nx ls (.int x :: st) ws) ∨ (∃ x, isI = false ∧ ls[n]? = some (some (.ref x)) ∧ K nx ls (.ref x :: st) ws) := by
  unfold zld at h
  split at h
  · rename_i x hx
    obtain ⟨a, b⟩ := zbool_inv h
    exact Or.inl ⟨x, a, hx, b⟩
  · rename_i x hx
    obtain ⟨a, b⟩ := zbool_inv h
    exact Or.inr ⟨x, by simpa using a, hx, b⟩
  · exact h.elim
theorem zst_inv {K : zK} {isI : Bool} {n nx : Nat} {ls : List (Option Value)} {st : List Value} {ws : zW} (h : zst K isI n nx ls st ws) : (∃ x r, isI = true ∧ st = .int x :: r ∧ n < ls.length ∧ K nx (ls.set n (some (.int x))) r ws) ∨ (∃ x r, isI = false ∧ st = .ref x :: r ∧ n < ls.length ∧ K nx (ls.set n (some (.ref x))) r ws) := by
  unfold zst at h
  split at h
  · obtain ⟨a, b⟩ := zbool_inv h
    obtain ⟨b, d⟩ := zbool_inv b
    exact Or.inl ⟨_, _, a, rfl, by simpa using b, d⟩
  · obtain ⟨a, b⟩ := zbool_inv h
    obtain ⟨b, d⟩ := zbool_inv b
    exact Or.inr ⟨_, _, by simpa using a, rfl, by simpa using b, d⟩
  · exact h.elim
theorem z2_inv {K : zK} {f : Int32 → Int32 → Int32} {nx : Nat} {ls : List (Option Value)} {st : List Value} {ws : zW} (h : z2 K f nx ls st ws) : ∃ x y r, st = .int y :: .int x :: r ∧ K nx ls (.int (f x y) :: r) ws := by
  unfold z2 at h
  split at h
  · exact ⟨_, _, _, rfl, h⟩
  · exact h.elim
theorem z2d_inv {K : zK} {f : Int32 → Int32 → Int32} {nx : Nat} {ls : List (Option Value)} {st : List Value} {ws : zW} (h : z2d K f nx ls st ws) : ∃ x y r, st = .int y :: .int x :: r ∧ ¬ y = 0 ∧ K nx ls (.int (f x y) :: r) ws := by
  unfold z2d at h
  split at h
  · exact ⟨_, _, _, rfl, h.1, h.2⟩
  · exact h.elim
theorem z1_inv {K : zK} {f : Int32 → Int32} {nx : Nat} {ls : List (Option Value)} {st : List Value} {ws : zW} (h : z1 K f nx ls st ws) : ∃ x r, st = .int x :: r ∧ K nx ls (.int (f x) :: r) ws := by
  unfold z1 at h
  split at h
  · exact ⟨_, _, rfl, h⟩
  · exact h.elim
theorem zgf_inv {K : zK} {fl : Option (Nat × Nat × FieldType)} {nx : Nat} {ls : List (Option Value)} {st : List Value} {ws : zW} (h : zgf K fl nx ls st ws) : ∃ ci j ty k r fs w, fl = some (ci, j, ty) ∧ st = .ref k :: r ∧ ws[k]? = some (.inr (.inr (ci, fs))) ∧ fs[j]? = some w ∧ K nx ls (w :: r) ws := by
  unfold zgf at h
  split at h
  · split at h
    · rename_i hk
      split at h
      · rename_i w hw
        obtain ⟨a, b⟩ := zbool_inv h
        have a := Nat.eq_of_beq_eq_true a
        subst a
        exact ⟨_, _, _, _, _, _, w, rfl, rfl, hk, hw, b⟩
      · exact h.elim
    · exact h.elim
  · exact h.elim
theorem zpf_inv {K : zK} {fl : Option (Nat × Nat × FieldType)} {nx : Nat} {ls : List (Option Value)} {st : List Value} {ws : zW} (h : zpf K fl nx ls st ws) : ∃ ci j ty k r fs w, fl = some (ci, j, ty) ∧ st = w :: .ref k :: r ∧ ws[k]? = some (.inr (.inr (ci, fs))) ∧ j < fs.length ∧ zfit ty w (K nx ls r (ws.set k (.inr (.inr (ci, fs.set j w))))) := by
  unfold zpf at h
  split at h
  · split at h
    · rename_i hk
      obtain ⟨a, b⟩ := zbool_inv h
      have a := Nat.eq_of_beq_eq_true a
      subst a
      obtain ⟨a, b⟩ := zbool_inv b
      exact ⟨_, _, _, _, _, _, _, rfl, rfl, hk, by simpa using a, b⟩
    · exact h.elim
  · exact h.elim
theorem zfit_inv {ty : FieldType} {v : Value} {P : Prop} (h : zfit ty v P) (ad : Nat → Nat) : narrow ty (zv ad v) = zv ad v ∧ fits ty (zv ad v) = true ∧ P := by
  cases ty <;> cases v <;> simp only [zfit] at h <;> first | exact h.elim | exact ⟨rfl, rfl, h⟩ | (obtain ⟨h1, h2⟩ := h; rcases h1 with rfl | rfl <;> exact ⟨rfl, rfl, h2⟩)
theorem zal_inv {K : zK} {isI : Bool} {nx : Nat} {ls : List (Option Value)} {st : List Value} {ws : zW} (h : zal K isI nx ls st ws) : ∃ i k r t n f, st = .int i :: .ref k :: r ∧ ws[k]? = some (.inl (t, n, f)) ∧ (if isI then t = 0 else t = 1 ∨ t = 2) ∧ vp_in i n ∧ K nx ls (.int (f i.toNatClampNeg) :: r) ws := by
  unfold zal at h
  split at h
  · split at h
    · rename_i hk
      obtain ⟨a, b, d⟩ := zbool_inv h
      refine ⟨_, _, _, _, _, _, rfl, hk, ?_, b, d⟩
      cases isI <;> simp at a ⊢ <;> exact a
    · exact h.elim
  · exact h.elim
theorem zas_inv {K : zK} {isI : Bool} {nx : Nat} {ls : List (Option Value)} {st : List Value} {ws : zW} (h : zas K isI nx ls st ws) : ∃ x i k r t n f, st = .int x :: .int i :: .ref k :: r ∧ ws[k]? = some (.inl (t, n, f)) ∧ vp_in i n ∧ ((isI = true ∧ t = 0 ∧ K nx ls r (ws.set k (.inl (0, n, upd f i.toNatClampNeg x)))) ∨ (isI = false ∧ t = 1 ∧ K nx ls r (ws.set k (.inl (1, n, upd f i.toNatClampNeg (vp_nar .byte x))))) ∨ (isI = false ∧ t = 2 ∧ K nx ls r (ws.set k (.inl (2, n, upd f i.toNatClampNeg (vp_nar .boolean x)))))) := by
  unfold zas at h
  split at h
  · split at h
    · rename_i hk
      split at h
      · exact ⟨_, _, _, _, _, _, _, rfl, hk, h.1, Or.inl ⟨rfl, rfl, h.2⟩⟩
      · exact ⟨_, _, _, _, _, _, _, rfl, hk, h.1, Or.inr (Or.inl ⟨rfl, rfl, h.2⟩)⟩
      · exact ⟨_, _, _, _, _, _, _, rfl, hk, h.1, Or.inr (Or.inr ⟨rfl, rfl, h.2⟩)⟩
      · exact h.elim
    · exact h.elim
  · exact h.elim
theorem zaa_inv {K : zK} {nx : Nat} {ls : List (Option Value)} {st : List Value} {ws : zW} (h : zaa K nx ls st ws) : ∃ i k r t l a, st = .int i :: .ref k :: r ∧ ws[k]? = some (.inr (.inl (t, l))) ∧ (t = 3 ∨ t = 4) ∧ vp_in i l.length ∧ l[i.toNatClampNeg]? = some (some a) ∧ K nx ls (.ref a :: r) ws := by
  unfold zaa at h
  split at h
  · split at h
    · rename_i hk
      obtain ⟨a, b, y, d, f⟩ := zbool_inv h
      exact ⟨_, _, _, _, _, y, rfl, hk, by simpa using a, b, d, f⟩
    · exact h.elim
  · exact h.elim
theorem zax_inv {K : zK} {nx : Nat} {ls : List (Option Value)} {st : List Value} {ws : zW} (h : zax K nx ls st ws) : ∃ a i k r t l ci fs, st = .ref a :: .int i :: .ref k :: r ∧ ws[k]? = some (.inr (.inl (t, l))) ∧ ws[a]? = some (.inr (.inr (ci, fs))) ∧ ((t = 3 ∧ ci = 0) ∨ (t = 4 ∧ ci = 1)) ∧ vp_in i l.length ∧ K nx ls r (ws.set k (.inr (.inl (t, l.set i.toNatClampNeg (some a))))) := by
  unfold zax at h
  split at h
  · split at h
    · rename_i hk ha
      obtain ⟨b, d, f⟩ := zbool_inv h
      exact ⟨_, _, _, _, _, _, _, _, rfl, hk, ha, by simpa using b, d, f⟩
    · exact h.elim
  · exact h.elim
theorem zan_inv {K : zK} {nx : Nat} {ls : List (Option Value)} {st : List Value} {ws : zW} (h : zan K nx ls st ws) : ∃ k r t n f, st = .ref k :: r ∧ ws[k]? = some (.inl (t, n, f)) ∧ t < 3 ∧ K nx ls (.int (Int32.ofNat n) :: r) ws := by
  unfold zan at h
  split at h
  · split at h
    · rename_i hk
      obtain ⟨a, b⟩ := zbool_inv h
      exact ⟨_, _, _, _, _, rfl, hk, by simpa using a, b⟩
    · exact h.elim
  · exact h.elim
theorem zca_inv {K : zK} {g : Option (Nat × zG)} {nx : Nat} {ls : List (Option Value)} {st : List Value} {ws : zW} (h : zca K g nx ls st ws) : ∃ n G, g = some (n, G) ∧ n ≤ st.length ∧ zcat (st.drop n) ≤ 8 ∧ G (st.take n).reverse ws (zcl K nx ls (st.drop n)) := by
  unfold zca at h
  split at h
  · obtain ⟨a, b⟩ := zbool_inv h
    obtain ⟨b, d⟩ := zbool_inv b
    exact ⟨_, _, rfl, Nat.le_of_ble_eq_true a, Nat.le_of_ble_eq_true b, d⟩
  · exact h.elim
theorem zcat_map (ad : Nat → Nat) (l : List Value) : ((l.map (zv ad)).map fun v => v.category).sum = zcat l := by
  unfold zcat
  rw [List.map_map]
  congr 1
  apply List.map_congr_left
  intro v _
  exact zv_cat ad v
theorem ztgs_get {pc : Nat} : ∀ {os : List Int} {ts : List Nat}, ztgs pc os ts = true → ∀ (j : Nat) (t : Nat), ts[j]? = some t → ∃ o, os[j]? = some o ∧ (pc : Int) + o = (t : Int)
  | [], [], _, j, t, h => by simp at h
  | o :: os, t0 :: ts, h, j, t, hj => by
    simp only [ztgs, Bool.and_eq_true, decide_eq_true_eq] at h
    cases j with
    | zero =>
      rw [List.getElem?_cons_zero] at hj
      cases hj
      exact ⟨o, rfl, h.1⟩
    | succ j =>
      rw [List.getElem?_cons_succ] at hj
      obtain ⟨o', h1, h2⟩ := ztgs_get h.2 j t hj
      exact ⟨o', by rw [List.getElem?_cons_succ]; exact h1, h2⟩
  | [], t0 :: ts, h, j, t, hj => by simp [ztgs] at h
  | o :: os, [], h, j, t, hj => by simp [ztgs] at h
theorem ztgs_len {pc : Nat} : ∀ {os : List Int} {ts : List Nat}, ztgs pc os ts = true → os.length = ts.length
  | [], [], _ => rfl
  | o :: os, t0 :: ts, h => by
    simp only [ztgs, Bool.and_eq_true, decide_eq_true_eq] at h
    rw [List.length_cons, List.length_cons, ztgs_len h.2]
  | [], t0 :: ts, h => by simp [ztgs] at h
  | o :: os, [], h => by simp [ztgs] at h
theorem zsw_get {x : Int32} {P : Nat → Prop} : ∀ {ts : List Nat} {v : Int}, zsw x P v ts → ∀ (j t : Nat), ts[j]? = some t → x.toInt = v + (j : Int) → P t
  | [], _, _, j, t, h, _ => by simp at h
  | t0 :: ts, v, h, j, t, hj, hx => by
    cases j with
    | zero =>
      rw [List.getElem?_cons_zero] at hj
      cases hj
      exact h.1 (by omega)
    | succ j =>
      rw [List.getElem?_cons_succ] at hj
      exact zsw_get h.2 j t hj (by omega)
theorem zlk_get {x : Int32} {P : Nat → Prop} {dt pc : Nat} {d : Int} (hd : (pc : Int) + d = (dt : Int)) : ∀ {ps : List (Int × Int)} {ts : List Nat}, zlk x P dt ps ts → ztgs pc (ps.map (fun q => q.2)) ts = true → ∃ t : Nat, (pc : Int) + Op.lookupswitch.offset ps d x.toInt = (t : Int) ∧ P t
  | [], [], h, _ => ⟨dt, hd, h⟩
  | (a, o) :: ps, t :: ts, h, hg => by
    simp only [ztgs, List.map_cons, Bool.and_eq_true, decide_eq_true_eq] at hg
    by_cases hx : x.toInt = a
    · refine ⟨t, ?_, h.1 hx⟩
      have e : Op.lookupswitch.offset ((a, o) :: ps) d x.toInt = o := by simp [Op.lookupswitch.offset, hx]
      rw [e]
      exact hg.1
    · obtain ⟨t', h1, h2⟩ := zlk_get hd (h.2 hx) hg.2
      refine ⟨t', ?_, h2⟩
      have e : Op.lookupswitch.offset ((a, o) :: ps) d x.toInt = Op.lookupswitch.offset ps d x.toInt := by
        simp [Op.lookupswitch.offset]
        intro q
        exact absurd q.symm hx
      rw [e]
      exact h1
  | [], t :: ts, h, _ => by simp [zlk] at h
  | q :: ps, [], h, _ => by simp [zlk] at h
end
section
theorem zcls : ∀ (ci : Nat) (q : vw_C), vwCl[ci]? = some q → ∃ ty0 : Nat → FieldType, (∀ k, k < q.2.2 → parseFieldDescriptor (q.2.1 k).2.2.1 = some (ty0 k)) ∧ (∀ a, a < q.2.2 → ∀ b, b < q.2.2 → a ≠ b → (q.2.1 a).2.1 ≠ (q.2.1 b).2.1) := by
  intro ci q h
  match ci, h with
  | 0, h => cases h; exact ⟨tyX0, tyX0_ok, nmX0⟩
  | 1, h => cases h; exact ⟨tyX1, tyX1_ok, nmX1⟩
  | 2, h => cases h; exact ⟨tyX2, tyX2_ok, nmX2⟩
  | 3, h => cases h; exact ⟨tyX3, tyX3_ok, nmX3⟩
  | 4, h => cases h; exact ⟨tyX4, tyX4_ok, nmX4⟩
  | 5, h => cases h; exact ⟨tyX5, tyX5_ok, nmX5⟩
  | 6, h => cases h; exact ⟨tyX6, tyX6_ok, nmX6⟩
  | 7, h => cases h; exact ⟨tyX7, tyX7_ok, nmX7⟩
  | 8, h => cases h; exact ⟨tyX8, tyX8_ok, nmX8⟩
  | n + 9, h => simp [vwCl] at h
def zfok (own : String) (Ts : List Jvm.Cond) (ix ci j : Nat) (ty : FieldType) (fin : Bool) : Prop := ∃ q : vw_C, vwCl[ci]? = some q ∧ j < q.2.2 ∧ Jvm.Cond.fieldLink own ix (q.2.1 j).1 (q.2.1 j).2.1 (q.2.1 j).2.2.1 ∈ Ts ∧ (∀ w ∈ u_ws q.1 q.2.1 q.2.2, w ∈ Ts) ∧ parseFieldDescriptor (q.2.1 j).2.2.1 = some ty ∧ (fin = true → (q.2.1 j).2.2.2 = false)
def zmok (own : String) (Ts : List Jvm.Cond) (ix o : Nat) : Prop := match o with
  | 0 => Jvm.Cond.methodLink own ix Lib.Math.max.name ∈ Ts ∧ Jvm.Cond.static Lib.Math.max.name ∈ Ts ∧ Jvm.Cond.initialized "java/lang/Math" ∈ Ts ∧ Jvm.Cond.code Lib.Math.max.name Lib.Math.max.code 2 (some .int) ∈ Ts
  | 1 => Jvm.Cond.methodLink own ix Lib.Math.min.name ∈ Ts ∧ Jvm.Cond.static Lib.Math.min.name ∈ Ts ∧ Jvm.Cond.initialized "java/lang/Math" ∈ Ts ∧ Jvm.Cond.code Lib.Math.min.name Lib.Math.min.code 2 (some .int) ∈ Ts
  | 2 => Jvm.Cond.methodLink own ix Lib.Math.abs.name ∈ Ts ∧ Jvm.Cond.static Lib.Math.abs.name ∈ Ts ∧ Jvm.Cond.initialized "java/lang/Math" ∈ Ts ∧ Jvm.Cond.code Lib.Math.abs.name Lib.Math.abs.code 1 (some .int) ∈ Ts
  | 3 => Jvm.Cond.methodLink own ix arraycopyName ∈ Ts ∧ Jvm.Cond.native arraycopyName ∈ Ts ∧ Jvm.Cond.static arraycopyName ∈ Ts ∧ Jvm.Cond.initialized "java/lang/System" ∈ Ts
  | _ => False
def zGood (M : zM) (cc : ByteArray) (own : String) (Ts : List Jvm.Cond) : Prop :=
  (∀ (pc : Nat) (x : zI), M.1[pc]? = some (some x) → zchk cc pc x = true) ∧
  (∀ (ix ci j : Nat) (ty : FieldType), M.2.1.lookup ix = some (ci, j, ty) → zfok own Ts ix ci j ty false) ∧
  (∀ (ix ci j : Nat) (ty : FieldType), M.2.2.1.lookup ix = some (ci, j, ty) → zfok own Ts ix ci j ty true) ∧
  (∀ (ix : Nat) (v : Int32), M.2.2.2.1.lookup ix = some v → Jvm.Cond.constant own ix v ∈ Ts) ∧
  (∀ (ix : Nat) (v : Int64), M.2.2.2.2.1.lookup ix = some v → Jvm.Cond.constantLong own ix v ∈ Ts) ∧
  (∀ (ix o : Nat), M.2.2.2.2.2.1.lookup ix = some o → zmok own Ts ix o)
def zri (rv : Option Value) : Instr := match rv with
  | none => .return_
  | some (.long _) => .lreturn
  | _ => .ireturn
theorem zset_q (cy : Nat → ClassId) (ad : Nat → Nat) (t : Nat) (l : List (Option Nat)) (i a : Nat) (hi : i < l.length) : zc cy ad (.inr (.inl (t, l.set i (some a)))) = .inl (cy t, l.length, .inr (.inr (.inr (.inr (va_up (fun j => ((l[j]?).getD none).map ad) i (some (ad a))))))) := by
  have e : (fun j => (((l.set i (some a))[j]?).getD none).map ad) = va_up (fun j => ((l[j]?).getD none).map ad) i (some (ad a)) := by
    funext j
    unfold va_up
    rw [List.getElem?_set]
    by_cases h : i = j
    · subst h
      simp [hi]
    · have h2 : ¬ j = i := fun q => h q.symm
      simp [h, h2]
  show Sum.inl (cy t, (l.set i (some a)).length, _) = _
  rw [List.length_set]
  congr 5
  simp only [e]
section ZS
variable {p : Program} {l : Launch} {e : Env} {R : Room} {s : State} {m : MethodId} {args : Array Value} {below : List Frame} {meth : Method} {c : Code} {cells slots : Nat} {Q : State → Prop} {cc : ByteArray} {own : String} {Ts : List Jvm.Cond} {nL : Nat} {D : va_G} {cy : Nat → ClassId} {ad : Nat → Nat} {A : Nat → Prop} {n0 : Nat}
def zCO (p : Program) (l : Launch) (e : Env) (R : Room) (s : State) (m : MethodId) (args : Array Value) (below : List Frame) (meth : Method) (c : Code) (cc : ByteArray) (nL : Nat) (D : va_G) (cy : Nat → ClassId) (ad : Nat → Nat) (A : Nat → Prop) (n0 : Nat) (cells slots : Nat) (Q : State → Prop) (ins : Instr) (n : Nat) (G : zG) : Prop := ∀ (as rest : List Value) (ws : zW) (K : zP), as.length = n → zcat rest ≤ 8 → G as ws K → ∀ (pc : Nat) (H : Heap) (locs : List Loc) (lsC : Array Slot), decode cc pc = .ok (ins, 3) → va_P D vwCl (zws cy ad ws) H → va_D A (zws cy ad ws) → va_S A s.heap H locs → ws.length = n0 → lsC.size = nL →
  (∀ (rv : Option Value) (ws' : zW) (H1 : Heap) (locs1 : List Loc), K rv ws' → va_P D vwCl (zws cy ad ws') H1 → va_D A (zws cy ad ws') → va_S A s.heap H1 locs1 → ws'.length = n0 → W p l e R s m args below meth c H1 locs1 cells slots Q (F0 m (pc + 3) lsC ((rv.toList ++ rest).map (zv ad)))) → W p l e R s m args below meth c H locs cells slots Q (F0 m pc lsC ((as.reverse ++ rest).map (zv ad)))
def zRO (p : Program) (l : Launch) (e : Env) (R : Room) (s : State) (m : MethodId) (args : Array Value) (below : List Frame) (meth : Method) (c : Code) (cc : ByteArray) (D : va_G) (cy : Nat → ClassId) (ad : Nat → Nat) (A : Nat → Prop) (n0 : Nat) (cells slots : Nat) (Q : State → Prop) (Rt : zP) : Prop := ∀ (rv : Option Value) (ws : zW) (pc : Nat) (H : Heap) (locs : List Loc) (lsC : Array Slot), Rt rv ws → decode cc pc = .ok (zri rv, 1) → (rv = none ∨ (∃ x, rv = some (.int x)) ∨ ∃ x, rv = some (.long x)) → va_P D vwCl (zws cy ad ws) H → va_D A (zws cy ad ws) → va_S A s.heap H locs → ws.length = n0 → W p l e R s m args below meth c H locs cells slots Q (F0 m pc lsC (rv.toList.map (zv ad)))
set_option maxHeartbeats 8000000 in
set_option maxRecDepth 100000 in
theorem zstep_ok {M : zM} {Rt : zP} {K : zK} (hx : p.tables.exec = Jvm.exec) (hb : c.code = cc) (hml : c.maxLocals = nL) (hown : s.vm.findClass own = some m.cls) (hts : ∀ w ∈ Ts, w.before args s = true) (hKK : zKK D cy s) (hR : 1 ≤ R.frames ∧ 150 ≤ R.locals) (hcs : cells ≤ R.cells ∧ slots ≤ R.slots)
    (hg : zGood M cc own Ts) (hcV : ∀ (ix n : Nat) (G : zG), M.2.2.2.2.2.2.1.lookup ix = some (n, G) → zCO p l e R s m args below meth c cc nL D cy ad A n0 cells slots Q (.invokevirtual ix) n G) (hcS : ∀ (ix n : Nat) (G : zG), M.2.2.2.2.2.2.2.lookup ix = some (n, G) → zCO p l e R s m args below meth c cc nL D cy ad A n0 cells slots Q (.invokestatic ix) n G) (hRt : zRO p l e R s m args below meth c cc D cy ad A n0 cells slots Q Rt)
    (hKo : ∀ (pc : Nat) (ls : List (Option Value)) (st : List Value) (ws : zW), K pc ls st ws → zOK p l e R s m args below meth c nL D cy ad A n0 cells slots Q pc ls st ws)
    (pc : Nat) (ls : List (Option Value)) (st : List Value) (ws : zW) (h : zstep M Rt K pc ls st ws) : zOK p l e R s m args below meth c nL D cy ad A n0 cells slots Q pc ls st ws := by
  have hK := hKK.1
  unfold zstep at h
  split at h
  case h_2 => exact h.elim
  rename_i x hcode
  have hck := hg.1 pc x hcode
  obtain ⟨i, v, nx, tg⟩ := x
  intro H locs lsC hP hD hS hn hl
  dsimp only at h
  have call : ∀ {ins : Instr} {g : Option (Nat × zG)}, decode cc pc = .ok (ins, 3) → (∀ (n : Nat) (G : zG), g = some (n, G) → zCO p l e R s m args below meth c cc nL D cy ad A n0 cells slots Q ins n G) → zca K g (pc + 3) ls st ws → W p l e R s m args below meth c H locs cells slots Q (F0 m pc lsC (st.map (zv ad))) := by
    intro ins g hd hcall h
    obtain ⟨n, G, hG, h1, h2, h3⟩ := zca_inv h
    have := hcall n G hG (st.take n).reverse (st.drop n) ws _ (by rw [List.length_reverse, List.length_take]; omega) h2 h3 pc H locs lsC hd hP hD hS hn hl.1 (fun rv ws' H1 locs1 hk p1 d1 s1 n1 => ?_)
    · rw [List.reverse_reverse, List.take_append_drop] at this
      exact this
    · cases rv with
      | none => exact hKo _ _ _ _ hk H1 locs1 lsC p1 d1 s1 n1 hl
      | some v => exact hKo _ _ _ _ hk H1 locs1 lsC p1 d1 s1 n1 hl
  cases i
  case iload_n k =>
    simp only [zchk, Bool.and_eq_true, decide_eq_true_eq] at hck
    obtain ⟨hd, rfl, -⟩ := hck
    rcases zld_inv h with ⟨x, -, h1, h2⟩ | ⟨x, h0, -⟩
    · exact lv_iload_n hx hb hd rfl (hl.at h1 rfl) (hKo _ _ _ _ h2 H locs lsC hP hD hS hn hl)
    · cases h0
  case iload k =>
    simp only [zchk, Bool.and_eq_true, decide_eq_true_eq] at hck
    obtain ⟨hd, rfl, -⟩ := hck
    rcases zld_inv h with ⟨x, -, h1, h2⟩ | ⟨x, h0, -⟩
    · exact lv_iload hx hb hd (hl.at h1 rfl) (hKo _ _ _ _ h2 H locs lsC hP hD hS hn hl)
    · cases h0
  case aload_n k =>
    simp only [zchk, Bool.and_eq_true, decide_eq_true_eq] at hck
    obtain ⟨hd, rfl, -⟩ := hck
    rcases zld_inv h with ⟨x, h0, -⟩ | ⟨x, -, h1, h2⟩
    · cases h0
    · exact lv_aload_n hx hb hd rfl (hl.at h1 rfl) (hKo _ _ _ _ h2 H locs lsC hP hD hS hn hl)
  case aload k =>
    simp only [zchk, Bool.and_eq_true, decide_eq_true_eq] at hck
    obtain ⟨hd, rfl, -⟩ := hck
    rcases zld_inv h with ⟨x, h0, -⟩ | ⟨x, -, h1, h2⟩
    · cases h0
    · exact lv_aload hx hb hd (hl.at h1 rfl) (hKo _ _ _ _ h2 H locs lsC hP hD hS hn hl)
  case istore_n k =>
    simp only [zchk, Bool.and_eq_true, decide_eq_true_eq] at hck
    obtain ⟨hd, rfl, -⟩ := hck
    rcases zst_inv h with ⟨x, r, -, rfl, h1, h2⟩ | ⟨x, r, h0, -⟩
    · exact lv_istore_n hx hb hd rfl hl.has (by rw [← hl.2.2.1]; exact h1) rfl (fun ls' h' => hKo _ _ _ _ h2 H locs ls' hP hD hS hn (zLH.put (v := .int x) hl.2.2.1 (by rw [← hl.2.2.1]; exact h1) h'))
    · cases h0
  case istore k =>
    simp only [zchk, Bool.and_eq_true, decide_eq_true_eq] at hck
    obtain ⟨hd, rfl, -⟩ := hck
    rcases zst_inv h with ⟨x, r, -, rfl, h1, h2⟩ | ⟨x, r, h0, -⟩
    · exact lv_istore hx hb hd hl.has (by rw [← hl.2.2.1]; exact h1) rfl (fun ls' h' => hKo _ _ _ _ h2 H locs ls' hP hD hS hn (zLH.put (v := .int x) hl.2.2.1 (by rw [← hl.2.2.1]; exact h1) h'))
    · cases h0
  case astore_n k =>
    simp only [zchk, Bool.and_eq_true, decide_eq_true_eq] at hck
    obtain ⟨hd, rfl, -⟩ := hck
    rcases zst_inv h with ⟨x, r, h0, -⟩ | ⟨x, r, -, rfl, h1, h2⟩
    · cases h0
    · exact lv_astore_n hx hb hd rfl hl.has (by rw [← hl.2.2.1]; exact h1) rfl (fun ls' h' => hKo _ _ _ _ h2 H locs ls' hP hD hS hn (zLH.put (v := .ref x) hl.2.2.1 (by rw [← hl.2.2.1]; exact h1) h'))
  case astore k =>
    simp only [zchk, Bool.and_eq_true, decide_eq_true_eq] at hck
    obtain ⟨hd, rfl, -⟩ := hck
    rcases zst_inv h with ⟨x, r, h0, -⟩ | ⟨x, r, -, rfl, h1, h2⟩
    · cases h0
    · exact lv_astore hx hb hd hl.has (by rw [← hl.2.2.1]; exact h1) rfl (fun ls' h' => hKo _ _ _ _ h2 H locs ls' hP hD hS hn (zLH.put (v := .ref x) hl.2.2.1 (by rw [← hl.2.2.1]; exact h1) h'))
  case iconst z =>
    simp only [zchk, Bool.and_eq_true, decide_eq_true_eq] at hck
    obtain ⟨hd, rfl, hv⟩ := hck
    exact lv_iconst hx hb hd hv (hKo _ _ _ _ h H locs lsC hP hD hS hn hl)
  case bipush z =>
    simp only [zchk, Bool.and_eq_true, decide_eq_true_eq] at hck
    obtain ⟨hd, rfl, hv⟩ := hck
    exact lv_bipush hx hb hd hv (hKo _ _ _ _ h H locs lsC hP hD hS hn hl)
  case sipush z =>
    simp only [zchk, Bool.and_eq_true, decide_eq_true_eq] at hck
    obtain ⟨hd, rfl, hv⟩ := hck
    exact lv_sipush hx hb hd hv (hKo _ _ _ _ h H locs lsC hP hD hS hn hl)
  case ldc ix =>
    simp only [zchk, Bool.and_eq_true, decide_eq_true_eq] at hck
    obtain ⟨hd, rfl, -⟩ := hck
    dsimp only [zin] at h
    split at h
    · rename_i x hxv
      exact lv_ldc hx hb hown (hts _ (hg.2.2.2.1 ix x hxv)) hd (hKo _ _ _ _ h H locs lsC hP hD hS hn hl)
    · exact h.elim
  case ldc2_w ix =>
    simp only [zchk, Bool.and_eq_true, decide_eq_true_eq] at hck
    obtain ⟨hd, rfl, -⟩ := hck
    dsimp only [zin] at h
    split at h
    · rename_i x hxv
      exact lv_ldc2 hx hb hown (hts _ (hg.2.2.2.2.1 ix x hxv)) hd (hKo _ _ _ _ h H locs lsC hP hD hS hn hl)
    · exact h.elim
  case lconst z =>
    simp only [zchk, Bool.and_eq_true, decide_eq_true_eq] at hck
    obtain ⟨hd, rfl, -⟩ := hck
    exact lv_lconst hx hb hd rfl (hKo _ _ _ _ h H locs lsC hP hD hS hn hl)
  case iadd =>
    simp only [zchk, Bool.and_eq_true, decide_eq_true_eq] at hck
    obtain ⟨hd, rfl, -⟩ := hck
    obtain ⟨x, y, r, rfl, h1⟩ := z2_inv h
    exact lv_iadd hx hb hd (hKo _ _ _ _ h1 H locs lsC hP hD hS hn hl)
  case isub =>
    simp only [zchk, Bool.and_eq_true, decide_eq_true_eq] at hck
    obtain ⟨hd, rfl, -⟩ := hck
    obtain ⟨x, y, r, rfl, h1⟩ := z2_inv h
    exact lv_isub hx hb hd (hKo _ _ _ _ h1 H locs lsC hP hD hS hn hl)
  case imul =>
    simp only [zchk, Bool.and_eq_true, decide_eq_true_eq] at hck
    obtain ⟨hd, rfl, -⟩ := hck
    obtain ⟨x, y, r, rfl, h1⟩ := z2_inv h
    exact lv_imul hx hb hd (hKo _ _ _ _ h1 H locs lsC hP hD hS hn hl)
  case iand =>
    simp only [zchk, Bool.and_eq_true, decide_eq_true_eq] at hck
    obtain ⟨hd, rfl, -⟩ := hck
    obtain ⟨x, y, r, rfl, h1⟩ := z2_inv h
    exact lv_iand hx hb hd (hKo _ _ _ _ h1 H locs lsC hP hD hS hn hl)
  case ior =>
    simp only [zchk, Bool.and_eq_true, decide_eq_true_eq] at hck
    obtain ⟨hd, rfl, -⟩ := hck
    obtain ⟨x, y, r, rfl, h1⟩ := z2_inv h
    exact lv_ior hx hb hd (hKo _ _ _ _ h1 H locs lsC hP hD hS hn hl)
  case ishl =>
    simp only [zchk, Bool.and_eq_true, decide_eq_true_eq] at hck
    obtain ⟨hd, rfl, -⟩ := hck
    obtain ⟨x, y, r, rfl, h1⟩ := z2_inv h
    exact lv_ishl hx hb hd (hKo _ _ _ _ h1 H locs lsC hP hD hS hn hl)
  case ishr =>
    simp only [zchk, Bool.and_eq_true, decide_eq_true_eq] at hck
    obtain ⟨hd, rfl, -⟩ := hck
    obtain ⟨x, y, r, rfl, h1⟩ := z2_inv h
    exact lv_ishr hx hb hd (hKo _ _ _ _ h1 H locs lsC hP hD hS hn hl)
  case idiv =>
    simp only [zchk, Bool.and_eq_true, decide_eq_true_eq] at hck
    obtain ⟨hd, rfl, -⟩ := hck
    obtain ⟨x, y, r, rfl, h0, h1⟩ := z2d_inv h
    exact lv_idiv hx hb hd h0 (hKo _ _ _ _ h1 H locs lsC hP hD hS hn hl)
  case irem =>
    simp only [zchk, Bool.and_eq_true, decide_eq_true_eq] at hck
    obtain ⟨hd, rfl, -⟩ := hck
    obtain ⟨x, y, r, rfl, h0, h1⟩ := z2d_inv h
    exact lv_irem hx hb hd h0 (hKo _ _ _ _ h1 H locs lsC hP hD hS hn hl)
  case ineg =>
    simp only [zchk, Bool.and_eq_true, decide_eq_true_eq] at hck
    obtain ⟨hd, rfl, -⟩ := hck
    obtain ⟨x, r, rfl, h1⟩ := z1_inv h
    exact lv_ineg hx hb hd (hKo _ _ _ _ h1 H locs lsC hP hD hS hn hl)
  case i2b =>
    simp only [zchk, Bool.and_eq_true, decide_eq_true_eq] at hck
    obtain ⟨hd, rfl, -⟩ := hck
    obtain ⟨x, r, rfl, h1⟩ := z1_inv h
    exact lv_i2b hx hb hd rfl (hKo _ _ _ _ h1 H locs lsC hP hD hS hn hl)
  case ladd =>
    simp only [zchk, Bool.and_eq_true, decide_eq_true_eq] at hck
    obtain ⟨hd, rfl, -⟩ := hck
    dsimp only [zin] at h
    split at h
    · exact lv_ladd hx hb hd (hKo _ _ _ _ h H locs lsC hP hD hS hn hl)
    · exact h.elim
  case lcmp =>
    simp only [zchk, Bool.and_eq_true, decide_eq_true_eq] at hck
    obtain ⟨hd, rfl, -⟩ := hck
    dsimp only [zin] at h
    split at h
    · exact W.lcmp hx hb hd (hKo _ _ _ _ h H locs lsC hP hD hS hn hl)
    · exact h.elim
  case dup =>
    simp only [zchk, Bool.and_eq_true, decide_eq_true_eq] at hck
    obtain ⟨hd, rfl, -⟩ := hck
    dsimp only [zin] at h
    split at h
    · obtain ⟨a, b⟩ := zbool_inv h
      exact lv_dup hx hb hd (by rw [zv_cat]; exact Nat.eq_of_beq_eq_true a) (hKo _ _ _ _ b H locs lsC hP hD hS hn hl)
    · exact h.elim
  case dup2 =>
    simp only [zchk, Bool.and_eq_true, decide_eq_true_eq] at hck
    obtain ⟨hd, rfl, -⟩ := hck
    dsimp only [zin] at h
    split at h
    · obtain ⟨a, b⟩ := zbool_inv h
      rw [Bool.and_eq_true] at a
      exact lv_dup2_11 hx hb hd (by rw [zv_cat]; exact Nat.eq_of_beq_eq_true a.1) (by rw [zv_cat]; exact Nat.eq_of_beq_eq_true a.2) (hKo _ _ _ _ b H locs lsC hP hD hS hn hl)
    · exact h.elim
  case pop =>
    simp only [zchk, Bool.and_eq_true, decide_eq_true_eq] at hck
    obtain ⟨hd, rfl, -⟩ := hck
    dsimp only [zin] at h
    split at h
    · obtain ⟨a, b⟩ := zbool_inv h
      exact lv_pop hx hb hd (by rw [zv_cat]; exact Nat.eq_of_beq_eq_true a) (hKo _ _ _ _ b H locs lsC hP hD hS hn hl)
    · exact h.elim
  case iinc k z =>
    simp only [zchk, Bool.and_eq_true, decide_eq_true_eq] at hck
    obtain ⟨hd, rfl, hv⟩ := hck
    dsimp only [zin] at h
    split at h
    · rename_i x hk
      obtain ⟨pl, hpl⟩ := List.getElem?_of_mem (zlist_mem (ad := ad).mpr ⟨k, .int x, hk, rfl, rfl⟩)
      have hlt : k < nL := by rw [← hl.2.2.1]; exact (List.getElem?_eq_some_iff.mp hk).1
      exact lv_iinc hx hb hd hl.has hpl (by rw [hv]) hlt rfl (fun ls' h' => hKo _ _ _ _ h H locs ls' hP hD hS hn (zLH.put (v := .int (x + v)) hl.2.2.1 hlt h'))
    · exact h.elim
  case goto off =>
    simp only [zchk, Bool.and_eq_true, decide_eq_true_eq] at hck
    obtain ⟨hd, rfl, hv⟩ := hck
    dsimp only [zin] at h
    split at h
    · simp only [ztg, decide_eq_true_eq] at hv
      exact lv_goto hx hb hd hv (hKo _ _ _ _ h H locs lsC hP hD hS hn hl)
    · exact h.elim
  case ifCond o off =>
    simp only [zchk, Bool.and_eq_true, decide_eq_true_eq] at hck
    obtain ⟨hd, rfl, hv⟩ := hck
    dsimp only [zin] at h
    split at h
    · simp only [ztg, decide_eq_true_eq] at hv
      cases o
      · exact lv_if_eq hx hb hd hv (fun q => hKo _ _ _ _ (h.1 q) H locs lsC hP hD hS hn hl) (fun q => hKo _ _ _ _ (h.2 q) H locs lsC hP hD hS hn hl)
      · exact lv_if_ne hx hb hd hv (fun q => hKo _ _ _ _ (h.2 q) H locs lsC hP hD hS hn hl) (fun q => hKo _ _ _ _ (h.1 q) H locs lsC hP hD hS hn hl)
      · exact lv_if_lt hx hb hd hv (fun q => hKo _ _ _ _ (h.1 q) H locs lsC hP hD hS hn hl) (fun q => hKo _ _ _ _ (h.2 q) H locs lsC hP hD hS hn hl)
      · exact lv_if_ge hx hb hd hv (fun q => hKo _ _ _ _ (h.1 q) H locs lsC hP hD hS hn hl) (fun q => hKo _ _ _ _ (h.2 q) H locs lsC hP hD hS hn hl)
      · exact lv_if_gt hx hb hd hv (fun q => hKo _ _ _ _ (h.1 q) H locs lsC hP hD hS hn hl) (fun q => hKo _ _ _ _ (h.2 q) H locs lsC hP hD hS hn hl)
      · exact lv_if_le hx hb hd hv (fun q => hKo _ _ _ _ (h.1 q) H locs lsC hP hD hS hn hl) (fun q => hKo _ _ _ _ (h.2 q) H locs lsC hP hD hS hn hl)
    · exact h.elim
  case if_icmp o off =>
    simp only [zchk, Bool.and_eq_true, decide_eq_true_eq] at hck
    obtain ⟨hd, rfl, hv⟩ := hck
    dsimp only [zin] at h
    split at h
    · simp only [ztg, decide_eq_true_eq] at hv
      cases o
      · exact lv_icmp_eq hx hb hd hv (fun q => hKo _ _ _ _ (h.1 q) H locs lsC hP hD hS hn hl) (fun q => hKo _ _ _ _ (h.2 q) H locs lsC hP hD hS hn hl)
      · exact lv_icmp_ne hx hb hd hv (fun q => hKo _ _ _ _ (h.2 q) H locs lsC hP hD hS hn hl) (fun q => hKo _ _ _ _ (h.1 q) H locs lsC hP hD hS hn hl)
      · exact lv_icmp_lt hx hb hd hv (fun q => hKo _ _ _ _ (h.1 q) H locs lsC hP hD hS hn hl) (fun q => hKo _ _ _ _ (h.2 q) H locs lsC hP hD hS hn hl)
      · exact lv_icmp_ge hx hb hd hv (fun q => hKo _ _ _ _ (h.1 q) H locs lsC hP hD hS hn hl) (fun q => hKo _ _ _ _ (h.2 q) H locs lsC hP hD hS hn hl)
      · exact lv_icmp_gt hx hb hd hv (fun q => hKo _ _ _ _ (h.1 q) H locs lsC hP hD hS hn hl) (fun q => hKo _ _ _ _ (h.2 q) H locs lsC hP hD hS hn hl)
      · exact lv_icmp_le hx hb hd hv (fun q => hKo _ _ _ _ (h.1 q) H locs lsC hP hD hS hn hl) (fun q => hKo _ _ _ _ (h.2 q) H locs lsC hP hD hS hn hl)
    · exact h.elim
  case tableswitch d lo hi offs =>
    simp only [zchk, Bool.and_eq_true, decide_eq_true_eq] at hck
    obtain ⟨hd, hv, hlh⟩ := hck
    dsimp only [zin] at h
    split at h
    · rename_i d' ts x r
      by_cases ho : x.toInt < lo ∨ hi < x.toInt
      · obtain ⟨o, h1, h2⟩ := ztgs_get hv 0 d' rfl
        cases h1
        exact lv_tableOut hx hb hd ho h2 (hKo _ _ _ _ (h.1 ho) H locs lsC hP hD hS hn hl)
      · have hlen := ztgs_len hv
        rw [List.length_cons, List.length_cons] at hlen
        obtain ⟨t, ht⟩ : ∃ t, ts[(x.toInt - lo).toNat]? = some t := by
          have : (x.toInt - lo).toNat < ts.length := by omega
          exact ⟨_, List.getElem?_eq_getElem this⟩
        obtain ⟨o, h1, h2⟩ := ztgs_get hv ((x.toInt - lo).toNat + 1) t ht
        rw [List.getElem?_cons_succ] at h1
        exact lv_tableIn hx hb hd (fun q => ho (Or.inl q)) (fun q => ho (Or.inr q)) (by rw [← Array.getElem?_toList]; exact h1) h2 (hKo _ _ _ _ (zsw_get h.2 _ t ht (by omega)) H locs lsC hP hD hS hn hl)
    · exact h.elim
  case lookupswitch d ps =>
    simp only [zchk, Bool.and_eq_true, decide_eq_true_eq] at hck
    obtain ⟨hd, hv, hps⟩ := hck
    dsimp only [zin] at h
    split at h
    · rename_i d' ts x r
      simp only [ztgs, Bool.and_eq_true, decide_eq_true_eq] at hv
      obtain ⟨t, h1, h2⟩ := zlk_get hv.1 h hv.2
      exact lv_lookup hx hb hd hps rfl h1 (hKo _ _ _ _ h2 H locs lsC hP hD hS hn hl)
    · exact h.elim
  case getfield ix =>
    simp only [zchk, Bool.and_eq_true, decide_eq_true_eq] at hck
    obtain ⟨hd, rfl, -⟩ := hck
    obtain ⟨ci, j, ty, k, r, fs, w, h1, rfl, h2, h3, h4⟩ := zgf_inv h
    obtain ⟨q, q1, q2, q3, q4, -, -⟩ := hg.2.1 ix ci j ty h1
    exact va_get hx hb hts q4 hown hK hP k (zws_get h2) q1 j q2 (hts _ q3) (fun _ h9 => h9) (v := zv ad w) (by rw [List.getElem?_map, h3]; rfl) hd (hKo _ _ _ _ h4 H locs lsC hP hD hS hn hl)
  case putfield ix =>
    simp only [zchk, Bool.and_eq_true, decide_eq_true_eq] at hck
    obtain ⟨hd, rfl, -⟩ := hck
    obtain ⟨ci, j, ty, k, r, fs, w, h1, rfl, h2, h3, h4⟩ := zpf_inv h
    obtain ⟨q, q1, q2, q3, q4, q5, q6⟩ := hg.2.2.1 ix ci j ty h1
    obtain ⟨ty0, y1, y2⟩ := zcls ci q q1
    obtain ⟨f1, f2, f3⟩ := zfit_inv h4 ad
    refine va_put hx hb hts q4 ty0 y1 y2 hown hK hP hD hS k (zws_get h2) q1 j q2 (hts _ q3) (fun _ h9 => h9) (q6 rfl) q5 f1 f2 (by rw [List.length_map]; exact h3) hd (fun H1 locs1 p1 d1 s1 => ?_)
    have ew : (zws cy ad ws).set k (ad k, .inr (ci, (fs.map (zv ad)).set j (zv ad w))) = zws cy ad (ws.set k (.inr (.inr (ci, fs.set j w)))) := by
      rw [zws_set]
      show _ = (zws cy ad ws).set k (ad k, .inr (ci, (fs.set j w).map (zv ad)))
      rw [List.map_set]
    rw [ew] at p1 d1
    exact hKo _ _ _ _ f3 H1 locs1 lsC p1 d1 s1 (by rw [List.length_set]; exact hn) hl
  case iaload =>
    simp only [zchk, Bool.and_eq_true, decide_eq_true_eq] at hck
    obtain ⟨hd, rfl, -⟩ := hck
    obtain ⟨i, k, r, t, n, f, rfl, h1, h2, h3, h4⟩ := zal_inv h
    have h2 : t = 0 := h2
    subst h2
    exact va_iald hx hb hK hP k 0 (zws_get h1) rfl h3 hd (hKo _ _ _ _ h4 H locs lsC hP hD hS hn hl)
  case baload =>
    simp only [zchk, Bool.and_eq_true, decide_eq_true_eq] at hck
    obtain ⟨hd, rfl, -⟩ := hck
    obtain ⟨i, k, r, t, n, f, rfl, h1, h2, h3, h4⟩ := zal_inv h
    have h2 : t = 1 ∨ t = 2 := by simpa using h2
    rcases h2 with rfl | rfl
    · exact va_bald hx hb hK hP k 1 (zws_get h1) rfl h3 hd (hKo _ _ _ _ h4 H locs lsC hP hD hS hn hl)
    · exact va_zald hx hb hK hP k 2 (zws_get h1) rfl h3 hd (hKo _ _ _ _ h4 H locs lsC hP hD hS hn hl)
  case iastore =>
    simp only [zchk, Bool.and_eq_true, decide_eq_true_eq] at hck
    obtain ⟨hd, rfl, -⟩ := hck
    obtain ⟨x, i, k, r, t, n, f, rfl, h1, h3, h4⟩ := zas_inv h
    rcases h4 with ⟨-, rfl, h4⟩ | ⟨h0, -⟩ | ⟨h0, -⟩
    · refine va_iast hx hb hK hP hD hS k 0 (zws_get h1) rfl h3 hd (fun H1 locs1 p1 d1 s1 => ?_)
      have ew : zws cy ad (ws.set k (.inl (0, n, upd f i.toNatClampNeg x))) = (zws cy ad ws).set k (ad k, .inl (cy 0, n, .inl (upd f i.toNatClampNeg x))) := zws_set _ _ _ _ _
      rw [← ew] at p1 d1
      exact hKo _ _ _ _ h4 H1 locs1 lsC p1 d1 s1 (by rw [List.length_set]; exact hn) hl
    · cases h0
    · cases h0
  case bastore =>
    simp only [zchk, Bool.and_eq_true, decide_eq_true_eq] at hck
    obtain ⟨hd, rfl, -⟩ := hck
    obtain ⟨x, i, k, r, t, n, f, rfl, h1, h3, h4⟩ := zas_inv h
    rcases h4 with ⟨h0, -⟩ | ⟨-, rfl, h4⟩ | ⟨-, rfl, h4⟩
    · cases h0
    · refine va_bast hx hb hK hP hD hS k 1 (zws_get h1) rfl h3 hd (fun H1 locs1 p1 d1 s1 => ?_)
      have ew : zws cy ad (ws.set k (.inl (1, n, upd f i.toNatClampNeg (vp_nar .byte x)))) = (zws cy ad ws).set k (ad k, .inl (cy 1, n, .inl (upd f i.toNatClampNeg (vp_nar .byte x)))) := zws_set _ _ _ _ _
      rw [← ew] at p1 d1
      exact hKo _ _ _ _ h4 H1 locs1 lsC p1 d1 s1 (by rw [List.length_set]; exact hn) hl
    · refine va_zast hx hb hK hP hD hS k 2 (zws_get h1) rfl h3 hd (fun H1 locs1 p1 d1 s1 => ?_)
      have ew : zws cy ad (ws.set k (.inl (2, n, upd f i.toNatClampNeg (vp_nar .boolean x)))) = (zws cy ad ws).set k (ad k, .inl (cy 2, n, .inl (upd f i.toNatClampNeg (vp_nar .boolean x)))) := zws_set _ _ _ _ _
      rw [← ew] at p1 d1
      exact hKo _ _ _ _ h4 H1 locs1 lsC p1 d1 s1 (by rw [List.length_set]; exact hn) hl
  case aaload =>
    simp only [zchk, Bool.and_eq_true, decide_eq_true_eq] at hck
    obtain ⟨hd, rfl, -⟩ := hck
    obtain ⟨i, k, r, t, lq, a, rfl, h1, h2, h3, h4, h5⟩ := zaa_inv h
    have er : va_rf (((lq[i.toNatClampNeg]?).getD none).map ad) = .ref (ad a) := by rw [h4]; rfl
    have key : W p l e R s m args below meth c H locs cells slots Q (F0 m (pc + 1) lsC (va_rf (((lq[i.toNatClampNeg]?).getD none).map ad) :: r.map (zv ad))) := by
      rw [er]
      exact hKo _ _ _ _ h5 H locs lsC hP hD hS hn hl
    rcases h2 with rfl | rfl
    · exact va_aldq hx hb hK hP k 3 (zws_get h1) rfl h3 hd key
    · exact va_aldq hx hb hK hP k 4 (zws_get h1) rfl h3 hd key
  case aastore =>
    simp only [zchk, Bool.and_eq_true, decide_eq_true_eq] at hck
    obtain ⟨hd, rfl, -⟩ := hck
    obtain ⟨a, i, k, r, t, lq, ci, fs, rfl, h1, h2, h3, h4, h5⟩ := zax_inv h
    have hlt : i.toNatClampNeg < lq.length := Nat.not_le.mp fun q => h4 (Or.inr q)
    have ew : zws cy ad (ws.set k (.inr (.inl (t, lq.set i.toNatClampNeg (some a))))) = (zws cy ad ws).set k (ad k, .inl (cy t, lq.length, .inr (.inr (.inr (.inr (va_up (fun j => ((lq[j]?).getD none).map ad) i.toNatClampNeg (some (ad a)))))))) := by
      rw [zws_set, zset_q cy ad t lq _ a hlt]
    rcases h3 with ⟨rfl, rfl⟩ | ⟨rfl, rfl⟩
    · refine va_astq hx hb hK hP hD hS k 3 a 0 (r := (RX0, TX0, 3)) (zws_get h1) rfl (zws_get h2) rfl h4 hd (fun H1 locs1 p1 d1 s1 => ?_)
      rw [← ew] at p1 d1
      exact hKo _ _ _ _ h5 H1 locs1 lsC p1 d1 s1 (by rw [List.length_set]; exact hn) hl
    · refine va_astq hx hb hK hP hD hS k 4 a 1 (r := (RX1, TX1, 8)) (zws_get h1) rfl (zws_get h2) rfl h4 hd (fun H1 locs1 p1 d1 s1 => ?_)
      rw [← ew] at p1 d1
      exact hKo _ _ _ _ h5 H1 locs1 lsC p1 d1 s1 (by rw [List.length_set]; exact hn) hl
  case arraylength =>
    simp only [zchk, Bool.and_eq_true, decide_eq_true_eq] at hck
    obtain ⟨hd, rfl, -⟩ := hck
    obtain ⟨k, r, t, n, f, rfl, h1, h2, h3⟩ := zan_inv h
    rcases (show t = 0 ∨ t = 1 ∨ t = 2 by omega) with rfl | rfl | rfl
    · exact va_alen hx hb hK hP k 0 (zws_get h1) rfl rfl hd (hKo _ _ _ _ h3 H locs lsC hP hD hS hn hl)
    · exact va_alen hx hb hK hP k 1 (zws_get h1) rfl rfl hd (hKo _ _ _ _ h3 H locs lsC hP hD hS hn hl)
    · exact va_alen hx hb hK hP k 2 (zws_get h1) rfl rfl hd (hKo _ _ _ _ h3 H locs lsC hP hD hS hn hl)
  case invokevirtual ix =>
    simp only [zchk, Bool.and_eq_true, decide_eq_true_eq] at hck
    obtain ⟨hd, rfl, -⟩ := hck
    exact call hd (hcV ix) h
  case invokestatic ix =>
    simp only [zchk, Bool.and_eq_true, decide_eq_true_eq] at hck
    obtain ⟨hd, rfl, -⟩ := hck
    dsimp only [zin] at h
    unfold zis at h
    split at h
    · rename_i o ho
      have hm := hg.2.2.2.2.2 ix o ho
      unfold zma at h
      split at h
      · split at h
        · obtain ⟨a, b⟩ := zbool_inv h
          obtain ⟨m1, m2, m3, m4⟩ := hm
          have a := Nat.le_of_ble_eq_true a
          exact va_mmax hx hb (by rw [hml]; exact hl.1.symm) hown (hts _ m1) (hts _ m2) (hts _ m3) (hts _ m4) hR.1 (by rw [zcat_map]; omega) hcs.1 hcs.2 hd (hKo _ _ _ _ b H locs lsC hP hD hS hn hl)
        · exact h.elim
      · split at h
        · obtain ⟨a, b⟩ := zbool_inv h
          obtain ⟨m1, m2, m3, m4⟩ := hm
          have a := Nat.le_of_ble_eq_true a
          exact va_mmin hx hb (by rw [hml]; exact hl.1.symm) hown (hts _ m1) (hts _ m2) (hts _ m3) (hts _ m4) hR.1 (by rw [zcat_map]; omega) hcs.1 hcs.2 hd (hKo _ _ _ _ b H locs lsC hP hD hS hn hl)
        · exact h.elim
      · split at h
        · obtain ⟨a, b⟩ := zbool_inv h
          obtain ⟨m1, m2, m3, m4⟩ := hm
          have a := Nat.le_of_ble_eq_true a
          exact va_mabs hx hb (by rw [hml]; exact hl.1.symm) hown (hts _ m1) (hts _ m2) (hts _ m3) (hts _ m4) hR.1 (by rw [zcat_map]; omega) hcs.1 hcs.2 hd (hKo _ _ _ _ b H locs lsC hP hD hS hn hl)
        · exact h.elim
      · split at h
        · split at h
          · rename_i k0 k1
            obtain ⟨a, ⟨e1, e2, e3, e4, e5⟩, b⟩ := zbool_inv h
            obtain ⟨m1, m2, m3, m4⟩ := hm
            simp only [Bool.and_eq_true] at a
            obtain ⟨a, a0, a1⟩ := a
            have a := Nat.le_of_ble_eq_true a
            have a0 := Nat.eq_of_beq_eq_true a0
            have a1 := Nat.eq_of_beq_eq_true a1
            subst a0; subst a1
            refine va_copyi hx hb (by rw [hml]; exact hl.1.symm) hown (hts _ m1) (hts _ m2) (hts _ m3) (hts _ m4) hK hP hD hS _ _ 0 0 (zws_get k0) (zws_get k1) rfl rfl rfl e1 e2 e3 e4 e5 (fun _ _ => rfl) hR.1 ?_ hd (fun H1 locs1 p1 d1 s1 => ?_)
            · rw [zcat_map]
              have : nativeFrameWords "java/lang/System" "arraycopy" 5 ≤ 100 := by decide
              omega
            · rw [show ∀ (k : Nat) (nn : Nat) (ff : Nat → Int32), (zws cy ad ws).set k (ad k, .inl (cy 0, nn, .inl ff)) = zws cy ad (ws.set k (.inl (0, nn, ff))) from fun k nn ff => (zws_set cy ad ws k (.inl (0, nn, ff))).symm] at p1 d1
              exact hKo _ _ _ _ b H1 locs1 lsC p1 d1 s1 (by rw [List.length_set]; exact hn) hl
          · exact h.elim
        · exact h.elim
      · exact h.elim
    · exact call hd (hcS ix) h
  case ireturn =>
    simp only [zchk, Bool.and_eq_true, decide_eq_true_eq] at hck
    obtain ⟨hd, rfl, -⟩ := hck
    dsimp only [zin] at h
    split at h
    · rename_i x
      exact hRt (some (.int x)) ws pc H locs lsC h hd (Or.inr (Or.inl ⟨x, rfl⟩)) hP hD hS hn
    · exact h.elim
  case lreturn =>
    simp only [zchk, Bool.and_eq_true, decide_eq_true_eq] at hck
    obtain ⟨hd, rfl, -⟩ := hck
    dsimp only [zin] at h
    split at h
    · rename_i x
      exact hRt (some (.long x)) ws pc H locs lsC h hd (Or.inr (Or.inr ⟨x, rfl⟩)) hP hD hS hn
    · exact h.elim
  case return_ =>
    simp only [zchk, Bool.and_eq_true, decide_eq_true_eq] at hck
    obtain ⟨hd, rfl, -⟩ := hck
    dsimp only [zin] at h
    split at h
    · exact hRt none ws pc H locs lsC h hd (Or.inl rfl) hP hD hS hn
    · exact h.elim
  all_goals exact h.elim
end ZS
end
section
/-! ===== a run to the next cut; a method's run to its end, as the least predicate that is closed under it ===== -/
noncomputable def zrun (M : zM) (Rt : zP) (K : zK) (cuts : List Nat) (k : Nat) : zK := Nat.rec (motive := fun _ => zK) K (fun _ ih pc ls st ws => match cuts.any (Nat.beq pc) with
  | true => K pc ls st ws
  | false => zstep M Rt ih pc ls st ws) k
theorem zrun_ok {M : zM} {Rt : zP} {OK : zK} (hs : ∀ K : zK, (∀ pc ls st ws, K pc ls st ws → OK pc ls st ws) → ∀ pc ls st ws, zstep M Rt K pc ls st ws → OK pc ls st ws) (cuts : List Nat) : ∀ (k pc : Nat) (ls : List (Option Value)) (st : List Value) (ws : zW), zrun M Rt OK cuts k pc ls st ws → OK pc ls st ws := by
  intro k
  induction k with
  | zero => intro pc ls st ws h; exact h
  | succ k ih =>
    intro pc ls st ws h
    have h : (match cuts.any (Nat.beq pc) with
      | true => OK pc ls st ws
      | false => zstep M Rt (zrun M Rt OK cuts k) pc ls st ws) := h
    split at h
    · exact h
    · exact hs _ ih pc ls st ws h
def zRt (rt : Nat) (post : zP) : zP := match rt with
  | 0 => fun rv u => match rv with
    | none => post none u
    | _ => False
  | 1 => fun rv u => match rv with
    | some (.int x) => post (some (.int x)) u
    | _ => False
  | 2 => fun rv u => match rv with
    | some (.long x) => post (some (.long x)) u
    | _ => False
  | _ => fun rv u => match rv with
    | some (.int x) => (x = 0 ∨ x = 1) ∧ post (some (.int x)) u
    | _ => False
def zEnt (as : List Value) (nL : Nat) : List (Option Value) := as.map some ++ List.replicate (nL - as.length) none
def zCl (M : zM) (rt : Nat) (post : zP) (K : zK) : Prop := ∀ (cuts : List Nat) (k pc : Nat) (ls : List (Option Value)) (st : List Value) (ws : zW), zstep M (zRt rt post) (zrun M (zRt rt post) K cuts k) pc ls st ws → K pc ls st ws
def zGoes (M : zM) (rt nL : Nat) : zG := fun as ws post => ∀ K : zK, zCl M rt post K → K 0 (zEnt as nL) [] ws
/-! ===== contracts ===== -/
def zwd (y : MethodName) (cc : ByteArray) (nL : Nat) (ret : Option FieldType) : List Jvm.Cond := Jvm.Cond.code y cc nL ret :: zTs
def zPre (D : va_G) (cy : Nat → ClassId) (ad : Nat → Nat) (sz : Nat) (as : List Value) (ws : zW) : Array Value → State → Prop := va_Pc (as.map (zv ad)) (fun U => U.heap.size = sz ∧ va_P D vwCl (zws cy ad ws) U.heap ∧ zKK D cy U ∧ va_D (fun _ => True) (zws cy ad ws))
def zQB (D : va_G) (cy : Nat → ClassId) (ad : Nat → Nat) (u : zW) (t : State) : Prop := va_P D vwCl (zws cy ad u) t.heap
def zQ (rt : Nat) (D : va_G) (cy : Nat → ClassId) (ad : Nat → Nat) (sz : Nat) (ws : zW) (post : zP) : Array Value → State → Outcome → State → Prop := match rt with
  | 0 => va_Qv (S := zW) (fun u => post none u ∧ u.length = ws.length) (zQB D cy ad) (va_A (zws cy ad ws) sz)
  | 2 => va_Ql (S := zW) (fun r u => post (some (.long r)) u ∧ u.length = ws.length) (zQB D cy ad) (va_A (zws cy ad ws) sz)
  | _ => va_Qi (S := zW) (fun r u => post (some (.int r)) u ∧ u.length = ws.length) (zQB D cy ad) (va_A (zws cy ad ws) sz)
def zMet (l : Launch) (y : MethodName) (Tw : List Jvm.Cond) (rm : Room) (rt : Nat) (as : List Value) (ws : zW) (post : zP) : Prop := ∀ (D : va_G) (cy : Nat → ClassId) (ad : Nat → Nat) (sz : Nat), Met l y Tw rm (zPre D cy ad sz as ws) (zQ rt D cy ad sz ws post) 0 0 (va_A (zws cy ad ws) sz)
theorem zPre_blind {D : va_G} {cy : Nat → ClassId} {ad : Nat → Nat} {sz : Nat} {as : List Value} {ws : zW} : FrameBlind (zPre D cy ad sz as ws) := by
  intro a U g mk h
  obtain ⟨h1, h2, h3, h4, h5⟩ := h
  exact ⟨h1, h2, h3, h4.calling, h5⟩
theorem zD_len {cy : Nat → ClassId} {ad : Nat → Nat} {A : Nat → Prop} {ws ws' : zW} (h : va_D A (zws cy ad ws)) (hn : ws'.length = ws.length) : va_D A (zws cy ad ws') := by
  have key : ∀ (k : Nat) (q : Nat × va_E), (zws cy ad ws')[k]? = some q → ∃ c, (zws cy ad ws)[k]? = some (q.1, c) := by
    intro k q hk
    obtain ⟨c, hc, rfl⟩ := zws_inv hk
    have hlt : k < ws.length := by rw [← hn]; exact (List.getElem?_eq_some_iff.mp hc).1
    exact ⟨_, zws_get (List.getElem?_eq_getElem hlt)⟩
  refine ⟨fun i j x y hi hj hxy => ?_, fun k q hk => ?_⟩
  · obtain ⟨c1, h1⟩ := key i x hi
    obtain ⟨c2, h2⟩ := key j y hj
    exact h.1 i j _ _ h1 h2 hxy
  · obtain ⟨c1, h1⟩ := key k q hk
    exact h.2 k (q.1, c1) h1
theorem lg_sl_one : ∀ (vs : List Value), (∀ v ∈ vs, v.category = 1) → lg_sl vs = vs.map Slot.val
  | [], _ => rfl
  | v :: vs, h => by
    have h1 := lg_sl_one vs (fun w hw => h w (List.mem_cons_of_mem _ hw))
    have h2 : ¬ v.category = 2 := by rw [h v List.mem_cons_self]; decide
    unfold lg_sl at h1 ⊢
    rw [List.flatMap_cons, if_neg h2, h1]
    rfl
theorem zLH_entry {as : List Value} {nL : Nat} (ad : Nat → Nat) (hc : ∀ v ∈ as, v.category = 1) (hn : as.length ≤ nL) : zLH ((lg_sl (as.map (zv ad)) ++ List.replicate (nL - (lg_sl (as.map (zv ad))).length) Slot.unset).toArray) nL ad (zEnt as nL) := by
  have e : lg_sl (as.map (zv ad)) = (as.map (zv ad)).map Slot.val := lg_sl_one _ (fun v hv => by
    obtain ⟨w, hw, rfl⟩ := List.mem_map.mp hv
    rw [zv_cat]; exact hc w hw)
  have hlen : (lg_sl (as.map (zv ad))).length = as.length := by rw [e, List.length_map, List.length_map]
  have h0 := lv_entry (as.map (zv ad)) (n := nL) (by rw [hlen]; exact hn)
  refine ⟨h0.1, h0.2.1, ?_, fun i v hi _ => ?_⟩
  · unfold zEnt
    rw [List.length_append, List.length_map, List.length_replicate]
    omega
  · unfold zEnt at hi
    rw [List.getElem?_append, List.length_map] at hi
    split at hi
    · rename_i hlt
      rw [List.getElem?_map] at hi
      rw [e, List.getElem?_toArray, List.getElem?_append_left (by rw [List.length_map, List.length_map]; exact hlt), List.getElem?_map, List.getElem?_map]
      cases ha : as[i]? with
      | none => rw [ha] at hi; cases hi
      | some w => rw [ha] at hi; cases hi; rfl
    · rw [List.getElem?_replicate] at hi
      split at hi
      · cases hi
      · cases hi
/-- what a method's tables must keep, and its calls, in any place where it runs -/
def zCalls (M : zM) (l : Launch) (cc : ByteArray) (own : String) (Ts : List Jvm.Cond) (rm : Room) (nL : Nat) : Prop := ∀ (p : Program) (e : Env) (s : State) (m : MethodId) (args : Array Value) (below : List Frame) (meth : Method) (c : Code) (D : va_G) (cy : Nat → ClassId) (ad : Nat → Nat) (A : Nat → Prop) (n0 : Nat) (Q : State → Prop), CallFix p m c cc nL s args Ts own → zKK D cy s → (∀ q, s.heap.size ≤ q → A q) →
  (∀ (ix n : Nat) (G : zG), M.2.2.2.2.2.2.1.lookup ix = some (n, G) → zCO p l e rm s m args below meth c cc nL D cy ad A n0 0 0 Q (.invokevirtual ix) n G) ∧ (∀ (ix n : Nat) (G : zG), M.2.2.2.2.2.2.2.lookup ix = some (n, G) → zCO p l e rm s m args below meth c cc nL D cy ad A n0 0 0 Q (.invokestatic ix) n G)
def zret (rt : Nat) : Option FieldType := match rt with
  | 0 => none
  | 1 => some .int
  | 2 => some .long
  | _ => some .boolean
set_option maxHeartbeats 4000000 in
theorem zGoes_met {l : Launch} {y : MethodName} {M : zM} {cc : ByteArray} {nL rt : Nat} {rm : Room} {as : List Value} {ws : zW} {post : zP} (hy : plainName y.cls = true) (hrm : 1 ≤ rm.frames ∧ 150 ≤ rm.locals) (hrt : rt < 4) (hg : zGood M cc y.cls (zwd y cc nL (zret rt))) (hcalls : zCalls M l cc y.cls (zwd y cc nL (zret rt)) rm nL) (hn : as.length ≤ nL) (hc : ∀ v ∈ as, v.category = 1) (h : zGoes M rt nL as ws post) : zMet l y (zwd y cc nL (zret rt)) rm rt as ws post := by
  intro D cy ad sz
  refine Met.ofW (cc := cc) (maxL := nL) (ret := zret rt) hy rfl ?_
  intro p e s m args below meth c s₁ B hml hv
  obtain ⟨rfl, hsz, hP, hKK, hD0⟩ := hv
  have hx := B.exec
  have hb := B.bytes
  have hr := B.returns
  have hts := atoms_spec (ws := zwd y cc nL (zret rt)) B.pre
  have hown : s.vm.findClass y.cls = some m.cls := findClass_of_methodNamed B.named
  have hlocks := B.notSynchronized
  subst hsz
  have hD := hD0.self (sz := s.heap.size)
  generalize hAe : va_A (zws cy ad ws) s.heap.size = A at hD ⊢
  have hA : ∀ q : Nat, s.heap.size ≤ q → A q := fun q h => by rw [← hAe]; exact Or.inr h
  have hS : va_S A s.heap s.heap [] := va_S.rf
  rw [lg_entry_eq]
  have hcl := hcalls p e s m (as.map (zv ad)).toArray below meth c D cy ad A ws.length (MQ below (zQ rt D cy ad s.heap.size ws post) (as.map (zv ad)).toArray s 0 0 A) ⟨hx, hb, hml, hown, hts⟩ hKK hA
  have hRt : zRO p l e rm s m (as.map (zv ad)).toArray below meth c cc D cy ad A ws.length 0 0 (MQ below (zQ rt D cy ad s.heap.size ws post) (as.map (zv ad)).toArray s 0 0 A) (zRt rt post) := by
    intro rv u pc H locs lsC hrv hd _ p1 d1 s1 n1
    match rt, hrt, rv, hrv, hd, hr with
    | 0, _, none, hrv, hd, hr =>
      refine W.vret hx hb hr (fun t ht hW => ?_) s1.2.2 hd
      exact ⟨⟨u, rfl, ⟨hrv, n1⟩, by unfold zQB; rw [ht]; exact p1⟩, by rw [hAe]; exact s1.F ht⟩
    | 1, _, some (.int x), hrv, hd, hr =>
      refine W.zret hx hb hr rfl (fun t ht hW => ?_) s1.2.2 hd
      exact ⟨⟨x, u, rfl, ⟨hrv, n1⟩, by unfold zQB; rw [ht]; exact p1⟩, by rw [hAe]; exact s1.F ht⟩
    | 2, _, some (.long x), hrv, hd, hr =>
      refine W.lret hx hb hr (fun t ht hW => ?_) s1.2.2 hd
      exact ⟨⟨x, u, rfl, ⟨hrv, n1⟩, by unfold zQB; rw [ht]; exact p1⟩, by rw [hAe]; exact s1.F ht⟩
    | 3, _, some (.int x), hrv, hd, hr =>
      refine W.zret hx hb hr (by rcases hrv.1 with rfl | rfl <;> rfl) (fun t ht hW => ?_) s1.2.2 hd
      exact ⟨⟨x, u, rfl, ⟨hrv.2, n1⟩, by unfold zQB; rw [ht]; exact p1⟩, by rw [hAe]; exact s1.F ht⟩
    | 0, _, some v, hrv, hd, hr => exact hrv.elim
    | 1, _, none, hrv, hd, hr => exact hrv.elim
    | 2, _, none, hrv, hd, hr => exact hrv.elim
    | 3, _, none, hrv, hd, hr => exact hrv.elim
    | 1, _, some (.long x), hrv, hd, hr => exact hrv.elim
    | 1, _, some (.float x), hrv, hd, hr => exact hrv.elim
    | 1, _, some (.double x), hrv, hd, hr => exact hrv.elim
    | 1, _, some .null, hrv, hd, hr => exact hrv.elim
    | 1, _, some (.ref x), hrv, hd, hr => exact hrv.elim
    | 1, _, some (.retAddr x), hrv, hd, hr => exact hrv.elim
    | 2, _, some (.int x), hrv, hd, hr => exact hrv.elim
    | 2, _, some (.float x), hrv, hd, hr => exact hrv.elim
    | 2, _, some (.double x), hrv, hd, hr => exact hrv.elim
    | 2, _, some .null, hrv, hd, hr => exact hrv.elim
    | 2, _, some (.ref x), hrv, hd, hr => exact hrv.elim
    | 2, _, some (.retAddr x), hrv, hd, hr => exact hrv.elim
    | 3, _, some (.long x), hrv, hd, hr => exact hrv.elim
    | 3, _, some (.float x), hrv, hd, hr => exact hrv.elim
    | 3, _, some (.double x), hrv, hd, hr => exact hrv.elim
    | 3, _, some .null, hrv, hd, hr => exact hrv.elim
    | 3, _, some (.ref x), hrv, hd, hr => exact hrv.elim
    | 3, _, some (.retAddr x), hrv, hd, hr => exact hrv.elim
    | k + 4, hrt, _, _, _, _ => omega
  have hs : ∀ K : zK, (∀ pc ls st ws', K pc ls st ws' → zOK p l e rm s m (as.map (zv ad)).toArray below meth c nL D cy ad A ws.length 0 0 (MQ below (zQ rt D cy ad s.heap.size ws post) (as.map (zv ad)).toArray s 0 0 A) pc ls st ws') → ∀ pc ls st ws', zstep M (zRt rt post) K pc ls st ws' → zOK p l e rm s m (as.map (zv ad)).toArray below meth c nL D cy ad A ws.length 0 0 (MQ below (zQ rt D cy ad s.heap.size ws post) (as.map (zv ad)).toArray s 0 0 A) pc ls st ws' :=
    fun K hK pc ls st ws' h1 => zstep_ok hx hb hml hown hts hKK hrm ⟨Nat.zero_le _, Nat.zero_le _⟩ hg hcl.1 hcl.2 hRt hK pc ls st ws' h1
  have hgo := h _ (fun cuts k pc ls st ws' h1 => hs _ (zrun_ok hs cuts k) pc ls st ws' h1)
  exact hgo s.heap [] _ hP hD hS rfl (zLH_entry ad hc hn)
end
section
/-! ===== a callee's own small world inside the caller's: place i of the one is place ρ[i] of the other ===== -/
def zr (ρ : List Nat) : Nat → Nat := fun i => ρ.getD i 0
def zrc (r : Nat → Nat) (c : zCell) : zCell := match c with
  | .inl a => .inl a
  | .inr (.inl a) => .inr (.inl (a.1, a.2.map (Option.map r)))
  | .inr (.inr o) => .inr (.inr (o.1, o.2.map (zv r)))
def zup (r : Nat → Nat) : List Nat → zW → zW → zW
  | k :: ks, c :: cs, ws => zup r ks cs (ws.set k (zrc r c))
  | _, _, ws => ws
theorem zv_zv (ad r : Nat → Nat) (v : Value) : zv ad (zv r v) = zv (fun i => ad (r i)) v := by cases v <;> rfl
theorem zc_ren (cy : Nat → ClassId) (ad r : Nat → Nat) (c : zCell) : zc cy ad (zrc r c) = zc cy (fun i => ad (r i)) c := by
  rcases c with a | a | o
  · rfl
  · have e : (fun i : Nat => ((((a.2.map (Option.map r))[i]?).getD none).map ad)) = (fun i : Nat => (((a.2[i]?).getD none).map (fun i => ad (r i)))) := by
      funext i
      rw [List.getElem?_map]
      cases h : a.2[i]? with
      | none => rfl
      | some x => cases x <;> rfl
    show Sum.inl (cy a.1, (a.2.map (Option.map r)).length, _) = Sum.inl (cy a.1, a.2.length, _)
    rw [List.length_map]
    congr 5
    simp only [e]
  · show Sum.inr (o.1, (o.2.map (zv r)).map (zv ad)) = Sum.inr (o.1, o.2.map (zv (fun i => ad (r i))))
    rw [List.map_map]
    congr 2
    apply List.map_congr_left
    intro v _
    exact zv_zv ad r v
theorem zup_len (r : Nat → Nat) : ∀ (ks : List Nat) (cs ws : zW), (zup r ks cs ws).length = ws.length
  | [], cs, ws => by cases cs <;> rfl
  | k :: ks, [], ws => rfl
  | k :: ks, c :: cs, ws => by
    show (zup r ks cs (ws.set k (zrc r c))).length = ws.length
    rw [zup_len r ks cs, List.length_set]
theorem zup_inv (r : Nat → Nat) : ∀ (ks : List Nat) (cs ws : zW) (k : Nat) (c : zCell), (zup r ks cs ws)[k]? = some c → (∃ (i : Nat) (c' : zCell), ks[i]? = some k ∧ cs[i]? = some c' ∧ c = zrc r c') ∨ (ws[k]? = some c ∧ ∀ i : Nat, i < cs.length → ks[i]? ≠ some k)
  | [], cs, ws, k, c, h => by
    right
    have h : ws[k]? = some c := by cases cs <;> exact h
    exact ⟨h, fun i _ => by simp⟩
  | k0 :: ks, [], ws, k, c, h => Or.inr ⟨h, fun i hi => absurd hi (Nat.not_lt_zero i)⟩
  | k0 :: ks, c0 :: cs, ws, k, c, h => by
    have h : (zup r ks cs (ws.set k0 (zrc r c0)))[k]? = some c := h
    rcases zup_inv r ks cs _ k c h with ⟨i, c', h1, h2, h3⟩ | ⟨h1, h2⟩
    · exact Or.inl ⟨i + 1, c', by rw [List.getElem?_cons_succ]; exact h1, by rw [List.getElem?_cons_succ]; exact h2, h3⟩
    · rw [List.getElem?_set] at h1
      by_cases hk : k0 = k
      · subst hk
        rw [if_pos rfl] at h1
        split at h1
        · cases h1
          exact Or.inl ⟨0, c0, rfl, rfl, rfl⟩
        · cases h1
      · rw [if_neg hk] at h1
        refine Or.inr ⟨h1, fun i hi => ?_⟩
        cases i with
        | zero => intro q; exact hk (Option.some.inj q)
        | succ i =>
          rw [List.getElem?_cons_succ]
          exact h2 i (by rw [List.length_cons] at hi; omega)
def zFr (n : Nat) (G0 : zG) : zG := fun as ws K => ∃ (ρ : List Nat) (al : List Value) (wl : zW), (as = al.map (zv (zr ρ)) ∧ al.length = n ∧ al.all (fun v => Nat.beq v.category 1) = true) ∧ (wl.length ≤ ρ.length ∧ va_nd (ρ.take wl.length) = true) ∧ wl.map (fun c => some (zrc (zr ρ) c)) = (ρ.take wl.length).map (fun k => ws[k]?) ∧ G0 al wl (fun rv wl' => K (rv.map (zv (zr ρ))) (zup (zr ρ) ρ wl' ws))
def zFV (ci n : Nat) (G0 : zG) : zG := fun as ws K => (match as with
  | .ref k :: _ => match ws[k]? with
    | some (.inr (.inr (ci', _))) => Nat.beq ci' ci
    | _ => false
  | _ => false) = true ∧ zFr n G0 as ws K
set_option maxHeartbeats 4000000 in
theorem zMet_frame {l : Launch} {y : MethodName} {Tw : List Jvm.Cond} {rm : Room} {rt : Nat} {al as : List Value} {wl ws : zW} {ρ : List Nat} {K : zP} (h : zMet l y Tw rm rt al wl (fun rv wl' => K (rv.map (zv (zr ρ))) (zup (zr ρ) ρ wl' ws))) (ha : as = al.map (zv (zr ρ))) (hl : wl.length ≤ ρ.length) (hnd : va_nd (ρ.take wl.length) = true) (hw : wl.map (fun c => some (zrc (zr ρ) c)) = (ρ.take wl.length).map (fun k => ws[k]?)) : zMet l y Tw rm rt as ws K := by
  intro D cy ad sz
  have h1 := h D cy (fun i => ad (zr ρ i)) sz
  have hget : ∀ (i : Nat) (c : zCell), wl[i]? = some c → ρ[i]? = some (zr ρ i) ∧ ws[zr ρ i]? = some (zrc (zr ρ) c) := by
    intro i c hi
    have hlt : i < wl.length := (List.getElem?_eq_some_iff.mp hi).1
    have hlt2 : i < ρ.length := by omega
    have e1 : ρ[i]? = some ρ[i] := List.getElem?_eq_getElem hlt2
    have e2 : zr ρ i = ρ[i] := by unfold zr; rw [List.getD_eq_getElem?_getD, e1]; rfl
    refine ⟨by rw [e2]; exact e1, ?_⟩
    have h2 := congrArg (fun l => l[i]?) hw
    simp only [List.getElem?_map, hi, List.getElem?_take, hlt, if_pos, e1, Option.map_some] at h2
    rw [e2]
    exact (Option.some.inj h2).symm
  have hinj : ∀ i j : Nat, i < wl.length → j < wl.length → zr ρ i = zr ρ j → i = j := by
    intro i j hi hj hij
    have gi := (hget i _ (List.getElem?_eq_getElem hi)).1
    have gj := (hget j _ (List.getElem?_eq_getElem hj)).1
    rw [hij] at gi
    have ti : (ρ.take wl.length)[i]? = some (zr ρ j) := by rw [List.getElem?_take, if_pos hi]; exact gi
    have tj : (ρ.take wl.length)[j]? = some (zr ρ j) := by rw [List.getElem?_take, if_pos hj]; exact gj
    exact va_nd_inj _ hnd i j _ ti tj
  have hAA : ∀ q, va_A (zws cy (fun i => ad (zr ρ i)) wl) sz q → va_A (zws cy ad ws) sz q := by
    intro q hq
    rcases hq with ⟨i, x, hi⟩ | hq
    · obtain ⟨c, hc, hx⟩ := zws_inv hi
      cases hx
      exact Or.inl ⟨zr ρ i, _, zws_get (hget i c hc).2⟩
    · exact Or.inr hq
  have keep : ∀ (st t : State) (u : zW), zPre D cy ad sz as ws (as.map (zv ad)).toArray st → u.length = wl.length → va_P D vwCl (zws cy (fun i => ad (zr ρ i)) u) t.heap → va_F (va_A (zws cy (fun i => ad (zr ρ i)) wl) sz) st t → va_P D vwCl (zws cy ad (zup (zr ρ) ρ u ws)) t.heap := by
    intro st t u hpre hul hB hF k q hk
    obtain ⟨-, hsz, hP, -, hD⟩ := hpre
    obtain ⟨c, hc, rfl⟩ := zws_inv hk
    rcases zup_inv _ _ _ _ k c hc with ⟨i, c', g1, g2, rfl⟩ | ⟨g1, g2⟩
    · have hb := hB i _ (zws_get g2)
      have e : zr ρ i = k := by unfold zr; rw [List.getD_eq_getElem?_getD, g1]; rfl
      rw [zc_ren]
      rw [← e]
      exact hb
    · have hat := hP k _ (zws_get g1)
      refine hat.kept (hF.2 (ad k) hat.lt (fun hq => ?_))
      rcases hq with ⟨i, x, hi⟩ | hq
      · obtain ⟨c2, hc2, hx⟩ := zws_inv hi
        have hx1 : ad k = ad (zr ρ i) := congrArg Prod.fst hx
        obtain ⟨r1, r2⟩ := hget i c2 hc2
        have := hD.1 k (zr ρ i) _ _ (zws_get g1) (zws_get r2) hx1
        exact g2 i (by rw [hul]; exact (List.getElem?_eq_some_iff.mp hc2).1) (by rw [this]; exact r1)
      · have := hat.lt
        simp only at this
        omega
  refine MetFree.mono h1 ?_ (fun _ _ _ _ _ h => h) ?_
  · intro a s hp
    obtain ⟨rfl, hsz, hP, hKK, hD⟩ := hp
    refine ⟨?_, hsz, ?_, hKK, ?_, fun _ _ _ => trivial⟩
    · rw [ha, List.map_map]
      congr 1
      apply List.map_congr_left
      intro v _
      exact zv_zv ad (zr ρ) v
    · intro i q hi
      obtain ⟨c, hc, rfl⟩ := zws_inv hi
      have := hP _ _ (zws_get (cy := cy) (ad := ad) (hget i c hc).2)
      rw [zc_ren] at this
      exact this
    · intro i j x y hi hj hxy
      obtain ⟨c, hc, rfl⟩ := zws_inv hi
      obtain ⟨d, hd, rfl⟩ := zws_inv hj
      exact hinj i j (List.getElem?_eq_some_iff.mp hc).1 (List.getElem?_eq_some_iff.mp hd).1 (hD.1 _ _ _ _ (zws_get (cy := cy) (ad := ad) (hget i c hc).2) (zws_get (cy := cy) (ad := ad) (hget j d hd).2) hxy)
  · intro a st o t hp hq
    have hp0 := hp
    obtain ⟨rfl, -⟩ := hp0
    obtain ⟨hq, L, hL1, hL2⟩ := hq
    refine ⟨?_, L, hL1, fun q hq => hAA _ (hL2 q hq)⟩
    have hFF : ∀ {st t : State}, va_F (va_A (zws cy (fun i => ad (zr ρ i)) wl) sz) st t → va_F (va_A (zws cy ad ws) sz) st t := fun h => ⟨h.1, fun q h1 h2 => h.2 q h1 (fun z => h2 (hAA q z))⟩
    match rt, hq with
    | 0, hq =>
      obtain ⟨⟨u, e1, ⟨e2, e3⟩, e4⟩, hF⟩ := hq
      exact ⟨⟨_, e1, ⟨e2, zup_len _ _ _ _⟩, keep st t u hp e3 e4 hF⟩, hFF hF⟩
    | 1, hq =>
      obtain ⟨⟨r, u, e1, ⟨e2, e3⟩, e4⟩, hF⟩ := hq
      exact ⟨⟨r, _, e1, ⟨e2, zup_len _ _ _ _⟩, keep st t u hp e3 e4 hF⟩, hFF hF⟩
    | 2, hq =>
      obtain ⟨⟨r, u, e1, ⟨e2, e3⟩, e4⟩, hF⟩ := hq
      exact ⟨⟨r, _, e1, ⟨e2, zup_len _ _ _ _⟩, keep st t u hp e3 e4 hF⟩, hFF hF⟩
    | k + 3, hq =>
      obtain ⟨⟨r, u, e1, ⟨e2, e3⟩, e4⟩, hF⟩ := hq
      exact ⟨⟨r, _, e1, ⟨e2, zup_len _ _ _ _⟩, keep st t u hp e3 e4 hF⟩, hFF hF⟩
/-- a method's soundness, framed -/
theorem zFr_met {l : Launch} {y : MethodName} {M : zM} {cc : ByteArray} {nL rt n : Nat} {rm : Room} (hy : plainName y.cls = true) (hrm : 1 ≤ rm.frames ∧ 150 ≤ rm.locals) (hrt : rt < 4) (hg : zGood M cc y.cls (zwd y cc nL (zret rt))) (hcalls : zCalls M l cc y.cls (zwd y cc nL (zret rt)) rm nL) (hn : n ≤ nL) : ∀ (as : List Value) (ws : zW) (K : zP), zFr n (zGoes M rt nL) as ws K → zMet l y (zwd y cc nL (zret rt)) rm rt as ws K := by
  rintro as ws K ⟨ρ, al, wl, ⟨h1, h2, h3⟩, ⟨h4, h5⟩, h6, h7⟩
  exact zMet_frame (zGoes_met hy hrm hrt hg hcalls (by omega) (fun v hv => Nat.eq_of_beq_eq_true (List.all_eq_true.mp h3 v hv)) h7) h1 h4 h5 h6
section ZC
variable {p : Program} {l : Launch} {e : Env} {R : Room} {s : State} {m : MethodId} {args : Array Value} {below : List Frame} {meth : Method} {c : Code} {cells slots : Nat} {Q : State → Prop} {cc : ByteArray} {own : String} {Ts : List Jvm.Cond} {nL : Nat} {D : va_G} {cy : Nat → ClassId} {ad : Nat → Nat} {A : Nat → Prop} {n0 : Nat}
variable {y : MethodName} {bytes : ByteArray} {maxL rt n ix : Nat} {rmc : Room} {C : String}
theorem zpre_at {H : Heap} {as : List Value} {ws : zW} (hKK : zKK D cy s) (hP : va_P D vwCl (zws cy ad ws) H) (hD : va_D A (zws cy ad ws)) : ∀ U : State, U.heap = H → s.WarmedH U.vm → zPre D cy ad H.size as ws (as.map (zv ad)).toArray U := fun U hU hW => ⟨rfl, by rw [hU], by rw [hU]; exact hP, hKK.warm hW, hD.1, fun _ _ _ => trivial⟩
theorem zAA {H : Heap} {locs : List Loc} {ws : zW} (hD : va_D A (zws cy ad ws)) (hS : va_S A s.heap H locs) (hA : ∀ q, s.heap.size ≤ q → A q) : ∀ q, va_A (zws cy ad ws) H.size q → A q := by
  intro q h
  rcases h with ⟨k, e, h⟩ | h
  · exact hD.2 k (q, e) h
  · exact hA q (Nat.le_trans hS.1 h)
theorem zco_run {H : Heap} {locs : List Loc} {ws : zW} {rest : List Value} {st0 : List Value} {a : Array Value} {pc : Nat} {lsC : Array Slot} {K : zP} (hD : va_D A (zws cy ad ws)) (hS : va_S A s.heap H locs) (hA : ∀ q, s.heap.size ≤ q → A q) (hn0 : ws.length = n0) (hrun : va_Run p l e R s m args below meth c H locs cells slots 0 0 (F0 m pc lsC st0) rest (zQ rt D cy ad H.size ws K a) (va_A (zws cy ad ws) H.size))
    (hk : ∀ (rv : Option Value) (ws' : zW) (H1 : Heap) (locs1 : List Loc), rv.toList.map (zv ad) = rv.toList → K rv ws' → va_P D vwCl (zws cy ad ws') H1 → va_D A (zws cy ad ws') → va_S A s.heap H1 locs1 → ws'.length = n0 → W p l e R s m args below meth c H1 locs1 cells slots Q (F0 m (pc + 3) lsC (rv.toList ++ rest))) : W p l e R s m args below meth c H locs cells slots Q (F0 m pc lsC st0) := by
  have hf := zAA (s := s) hD hS hA
  match rt, hrun with
  | 0, hrun => exact va_callv (a := a) hrun hS (fun q _ h => hf q h) hf (fun u t H1 locs1 ht hvm hp hB hz hkk hS1 => hk none u H1 locs1 rfl hp.1 (by rw [← ht]; exact hB) (zD_len hD hp.2) hS1 (hp.2.trans hn0))
  | 1, hrun => exact va_calli (a := a) hrun hS (fun q _ h => hf q h) hf (fun r u t H1 locs1 ht hvm hp hB hz hkk hS1 => hk (some (.int r)) u H1 locs1 rfl hp.1 (by rw [← ht]; exact hB) (zD_len hD hp.2) hS1 (hp.2.trans hn0))
  | 2, hrun => exact va_calll (a := a) hrun hS (fun q _ h => hf q h) hf (fun r u t H1 locs1 ht hvm hp hB hz hkk hS1 => hk (some (.long r)) u H1 locs1 rfl hp.1 (by rw [← ht]; exact hB) (zD_len hD hp.2) hS1 (hp.2.trans hn0))
  | k + 3, hrun => exact va_calli (a := a) hrun hS (fun q _ h => hf q h) hf (fun r u t H1 locs1 ht hvm hp hB hz hkk hS1 => hk (some (.int r)) u H1 locs1 rfl hp.1 (by rw [← ht]; exact hB) (zD_len hD hp.2) hS1 (hp.2.trans hn0))
theorem zco_V {ci : Nat} {q : vw_C} {G : zG} (S : CallFix p m c cc nL s args Ts own) (hKK : zKK D cy s) (hA : ∀ q, s.heap.size ≤ q → A q) (hcs : cells ≤ R.cells ∧ slots ≤ R.slots) (cw : CallW R s args own C ix y bytes maxL (zret rt) (zwd y bytes maxL (zret rt)) rmc 0 0 n) (hq : vwCl[ci]? = some q) (hC : q.1 = C) (hG : ∀ as ws K, G as ws K → zMet l y (zwd y bytes maxL (zret rt)) rmc rt as ws K) :
    zCO p l e R s m args below meth c cc nL D cy ad A n0 cells slots Q (.invokevirtual ix) (n + 1) (fun as ws K => (match as with
  | .ref k :: _ => match ws[k]? with
    | some (.inr (.inr (ci', _))) => Nat.beq ci' ci
    | _ => false
  | _ => false) = true ∧ G as ws K) := by
  intro as rest ws K hlen hcat hGG pc H locs lsC hd hP hD hS hn0 hsz hk
  obtain ⟨hrc, hGG⟩ := hGG
  split at hrc
  · rename_i k r
    split at hrc
    · rename_i ci' fs hws
      have hrc := Nat.eq_of_beq_eq_true hrc
      subst hrc
      have hrecv := va_recv hKK.1 hP hq (zws_get hws)
      rw [hC] at hrecv
      have hM := hG _ _ _ hGG D cy ad H.size
      refine zco_run (st0 := ((Value.ref k :: r).reverse ++ rest).map (zv ad)) (rest := rest.map (zv ad)) (K := K) hD hS hA hn0 (va_runV (As := r.map (zv ad)) (b := ad k) S hM cw ⟨zPre_blind, hrecv, zpre_at hKK hP hD⟩ rfl (by rw [List.length_map]; rw [List.length_cons] at hlen; omega) hsz ?_ ?_ hd ⟨hcs.1, hcs.2⟩) ?_
      · show ((Value.ref k :: r).reverse ++ rest).map (zv ad) = _
        rw [List.reverse_cons, List.map_append, List.map_append, List.map_reverse, List.append_assoc]
        rfl
      · show 2 * 0 + _ ≤ 8
        rw [zcat_map]
        omega
      · intro rv ws' H1 locs1 e hk1 p1 d1 s1 n1
        have := hk rv ws' H1 locs1 hk1 p1 d1 s1 n1
        rw [List.map_append, e] at this
        exact this
    · cases hrc
  · cases hrc
theorem zco_S {G : zG} (S : CallFix p m c cc nL s args Ts own) (hKK : zKK D cy s) (hA : ∀ q, s.heap.size ≤ q → A q) (hcs : cells ≤ R.cells ∧ slots ≤ R.slots) (cw : CallB R s args own ix y bytes maxL (zret rt) (zwd y bytes maxL (zret rt)) rmc 0 0 n ∧ (Cond.static y).before args s = true) (hG : ∀ as ws K, G as ws K → zMet l y (zwd y bytes maxL (zret rt)) rmc rt as ws K) :
    zCO p l e R s m args below meth c cc nL D cy ad A n0 cells slots Q (.invokestatic ix) n G := by
  intro as rest ws K hlen hcat hGG pc H locs lsC hd hP hD hS hn0 hsz hk
  have hM := hG _ _ _ hGG D cy ad H.size
  refine zco_run (st0 := (as.reverse ++ rest).map (zv ad)) (rest := rest.map (zv ad)) (K := K) hD hS hA hn0 (va_runS (As := as.map (zv ad)) S hM cw ⟨zPre_blind, zpre_at hKK hP hD⟩ rfl (by rw [List.length_map]; exact hlen) hsz ?_ ?_ hd ⟨hcs.1, hcs.2⟩) ?_
  · show (as.reverse ++ rest).map (zv ad) = _
    rw [List.map_append, List.map_reverse]
  · show 2 * 0 + _ ≤ 8
    rw [zcat_map]
    omega
  · intro rv ws' H1 locs1 e hk1 p1 d1 s1 n1
    have := hk rv ws' H1 locs1 hk1 p1 d1 s1 n1
    rw [List.map_append, e] at this
    exact this
theorem zco_N {G : zG} {host : String} (S : CallFix p m c cc nL s args Ts own) (hKK : zKK D cy s) (hA : ∀ q, s.heap.size ≤ q → A q) (hcs : cells ≤ R.cells ∧ slots ≤ R.slots) (cw : va_CN R s args own ix y host bytes maxL (zret rt) (zwd y bytes maxL (zret rt)) rmc 0 0 n ∧ (Cond.static y).before args s = true ∧ True) (hG : ∀ as ws K, G as ws K → zMet l y (zwd y bytes maxL (zret rt)) rmc rt as ws K) :
    zCO p l e R s m args below meth c cc nL D cy ad A n0 cells slots Q (.invokestatic ix) n G := by
  intro as rest ws K hlen hcat hGG pc H locs lsC hd hP hD hS hn0 hsz hk
  have hM := hG _ _ _ hGG D cy ad H.size
  refine zco_run (st0 := (as.reverse ++ rest).map (zv ad)) (rest := rest.map (zv ad)) (K := K) hD hS hA hn0 (va_runSN (As := as.map (zv ad)) S hM cw ⟨zPre_blind, zpre_at hKK hP hD⟩ rfl (by rw [List.length_map]; exact hlen) hsz ?_ ?_ hd ⟨hcs.1, hcs.2⟩) ?_
  · show (as.reverse ++ rest).map (zv ad) = _
    rw [List.map_append, List.map_reverse]
  · show 2 * 0 + _ ≤ 8
    rw [zcat_map]
    omega
  · intro rv ws' H1 locs1 e hk1 p1 d1 s1 n1
    have := hk rv ws' H1 locs1 hk1 p1 d1 s1 n1
    rw [List.map_append, e] at this
    exact this
end ZC
theorem zlookup {β : Type} {P : Nat → β → Prop} : ∀ {L : List (Nat × β)}, (∀ q ∈ L, P q.1 q.2) → ∀ (ix : Nat) (b : β), L.lookup ix = some b → P ix b
  | [], _, ix, b, h => by cases h
  | (k, v) :: L, hL, ix, b, h => by
    rw [List.lookup_cons] at h
    split at h
    · rename_i he
      cases h
      have he : ix = k := by simpa using he
      subst he
      exact hL (ix, v) List.mem_cons_self
    · exact zlookup (fun q hq => hL q (List.mem_cons_of_mem _ hq)) ix b h
def zchkL (cc : ByteArray) : Nat → List (Option zI) → Bool
  | _, [] => true
  | n, none :: r => zchkL cc (n + 1) r
  | n, some x :: r => zchk cc n x && zchkL cc (n + 1) r
theorem zchkL_at {cc : ByteArray} : ∀ {L : List (Option zI)} {n : Nat}, zchkL cc n L = true → ∀ (i : Nat) (x : zI), L[i]? = some (some x) → zchk cc (n + i) x = true
  | [], n, _, i, x, h => by simp at h
  | none :: r, n, hL, i, x, h => by
    cases i with
    | zero => cases h
    | succ i =>
      rw [List.getElem?_cons_succ] at h
      have := zchkL_at (L := r) (n := n + 1) hL i x h
      rw [show n + (i + 1) = n + 1 + i by omega]
      exact this
  | some y :: r, n, hL, i, x, h => by
    simp only [zchkL, Bool.and_eq_true] at hL
    cases i with
    | zero => cases h; exact hL.1
    | succ i =>
      rw [List.getElem?_cons_succ] at h
      have := zchkL_at (L := r) (n := n + 1) hL.2 i x h
      rw [show n + (i + 1) = n + 1 + i by omega]
      exact this
end
