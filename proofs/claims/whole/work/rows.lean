section
-- ===== PART A: goes FIRST, ahead of the names: the tables' words, and 'selects' of the private methods out of them =====
/-- a private method of a class that the tables say can be made, by its rows of tables_1 -/
def lw_okq (q : MethodName × Nat) : Prop := (q.1.cls ≠ "java/lang/invoke/MethodHandle" ∧ q.1.cls ≠ "java/lang/invoke/VarHandle") ∧ Cond.instantiable q.1.cls q.2 ∈ tables_1 ∧ Cond.privateMethod q.1 ∈ tables_1 ∧ Cond.instanceMethod q.1 ∈ tables_1
theorem lw_p0 : lw_okq (⟨"AlwaysThere$Land", "measureWays", "()V"⟩, 11) := ⟨⟨by decide +kernel, by decide +kernel⟩, List.mem_of_getElem? (i := 29) (by decide +kernel), List.mem_of_getElem? (i := 42) (by decide +kernel), List.mem_of_getElem? (i := 43) (by decide +kernel)⟩
theorem lw_p1 : lw_okq (⟨"AlwaysThere$Reader", "goOn", "()V"⟩, 8) := ⟨⟨by decide +kernel, by decide +kernel⟩, List.mem_of_getElem? (i := 23) (by decide +kernel), List.mem_of_getElem? (i := 326) (by decide +kernel), List.mem_of_getElem? (i := 327) (by decide +kernel)⟩
theorem lw_p2 : lw_okq (⟨"AlwaysThere$Reader", "isDigit", "(I)Z"⟩, 8) := ⟨⟨by decide +kernel, by decide +kernel⟩, List.mem_of_getElem? (i := 23) (by decide +kernel), List.mem_of_getElem? (i := 330) (by decide +kernel), List.mem_of_getElem? (i := 331) (by decide +kernel)⟩
theorem lw_p3 : lw_okq (⟨"AlwaysThere$Reader", "readDigits", "()V"⟩, 8) := ⟨⟨by decide +kernel, by decide +kernel⟩, List.mem_of_getElem? (i := 23) (by decide +kernel), List.mem_of_getElem? (i := 334) (by decide +kernel), List.mem_of_getElem? (i := 335) (by decide +kernel)⟩
theorem lw_p4 : lw_okq (⟨"AlwaysThere$Reader", "readItem", "(Z)Z"⟩, 8) := ⟨⟨by decide +kernel, by decide +kernel⟩, List.mem_of_getElem? (i := 23) (by decide +kernel), List.mem_of_getElem? (i := 338) (by decide +kernel), List.mem_of_getElem? (i := 339) (by decide +kernel)⟩
theorem lw_p5 : lw_okq (⟨"AlwaysThere$Reader", "canBegin", "(IZ)Z"⟩, 8) := ⟨⟨by decide +kernel, by decide +kernel⟩, List.mem_of_getElem? (i := 23) (by decide +kernel), List.mem_of_getElem? (i := 342) (by decide +kernel), List.mem_of_getElem? (i := 343) (by decide +kernel)⟩
theorem lw_p6 : lw_okq (⟨"AlwaysThere$Reader", "readBody", "(I)Z"⟩, 8) := ⟨⟨by decide +kernel, by decide +kernel⟩, List.mem_of_getElem? (i := 23) (by decide +kernel), List.mem_of_getElem? (i := 349) (by decide +kernel), List.mem_of_getElem? (i := 350) (by decide +kernel)⟩
theorem lw_p7 : lw_okq (⟨"AlwaysThere$Reader", "takeNumber", "(II)I"⟩, 8) := ⟨⟨by decide +kernel, by decide +kernel⟩, List.mem_of_getElem? (i := 23) (by decide +kernel), List.mem_of_getElem? (i := 353) (by decide +kernel), List.mem_of_getElem? (i := 354) (by decide +kernel)⟩
theorem lw_p8 : lw_okq (⟨"AlwaysThere$Reader", "readFurrow", "()Z"⟩, 8) := ⟨⟨by decide +kernel, by decide +kernel⟩, List.mem_of_getElem? (i := 23) (by decide +kernel), List.mem_of_getElem? (i := 357) (by decide +kernel), List.mem_of_getElem? (i := 358) (by decide +kernel)⟩
theorem lw_p9 : lw_okq (⟨"AlwaysThere$Reader", "takePlace", "()I"⟩, 8) := ⟨⟨by decide +kernel, by decide +kernel⟩, List.mem_of_getElem? (i := 23) (by decide +kernel), List.mem_of_getElem? (i := 361) (by decide +kernel), List.mem_of_getElem? (i := 362) (by decide +kernel)⟩
theorem lw_p10 : lw_okq (⟨"AlwaysThere$Reader", "takePlaceUnlike", "(I)I"⟩, 8) := ⟨⟨by decide +kernel, by decide +kernel⟩, List.mem_of_getElem? (i := 23) (by decide +kernel), List.mem_of_getElem? (i := 365) (by decide +kernel), List.mem_of_getElem? (i := 366) (by decide +kernel)⟩
theorem lw_p11 : lw_okq (⟨"AlwaysThere$Reader", "readSight", "()Z"⟩, 8) := ⟨⟨by decide +kernel, by decide +kernel⟩, List.mem_of_getElem? (i := 23) (by decide +kernel), List.mem_of_getElem? (i := 373) (by decide +kernel), List.mem_of_getElem? (i := 374) (by decide +kernel)⟩
theorem lw_p12 : lw_okq (⟨"AlwaysThere$Reader", "readHedgehog", "()Z"⟩, 8) := ⟨⟨by decide +kernel, by decide +kernel⟩, List.mem_of_getElem? (i := 23) (by decide +kernel), List.mem_of_getElem? (i := 381) (by decide +kernel), List.mem_of_getElem? (i := 382) (by decide +kernel)⟩
theorem lw_p13 : lw_okq (⟨"AlwaysThere$Reader", "readCourse", "()Z"⟩, 8) := ⟨⟨by decide +kernel, by decide +kernel⟩, List.mem_of_getElem? (i := 23) (by decide +kernel), List.mem_of_getElem? (i := 385) (by decide +kernel), List.mem_of_getElem? (i := 386) (by decide +kernel)⟩
theorem lw_p14 : lw_okq (⟨"AlwaysThere$Reader", "takePlaceBeyondFurrow", "(I)I"⟩, 8) := ⟨⟨by decide +kernel, by decide +kernel⟩, List.mem_of_getElem? (i := 23) (by decide +kernel), List.mem_of_getElem? (i := 389) (by decide +kernel), List.mem_of_getElem? (i := 390) (by decide +kernel)⟩
theorem lw_p15 : lw_okq (⟨"AlwaysThere", "meetingAt", "(I)I"⟩, 10) := ⟨⟨by decide +kernel, by decide +kernel⟩, List.mem_of_getElem? (i := 15) (by decide +kernel), List.mem_of_getElem? (i := 453) (by decide +kernel), List.mem_of_getElem? (i := 454) (by decide +kernel)⟩
def lw_privs_1 : List (MethodName × Nat) := [(⟨"AlwaysThere$Land", "measureWays", "()V"⟩, 11), (⟨"AlwaysThere$Reader", "goOn", "()V"⟩, 8), (⟨"AlwaysThere$Reader", "isDigit", "(I)Z"⟩, 8), (⟨"AlwaysThere$Reader", "readDigits", "()V"⟩, 8), (⟨"AlwaysThere$Reader", "readItem", "(Z)Z"⟩, 8), (⟨"AlwaysThere$Reader", "canBegin", "(IZ)Z"⟩, 8), (⟨"AlwaysThere$Reader", "readBody", "(I)Z"⟩, 8), (⟨"AlwaysThere$Reader", "takeNumber", "(II)I"⟩, 8), (⟨"AlwaysThere$Reader", "readFurrow", "()Z"⟩, 8), (⟨"AlwaysThere$Reader", "takePlace", "()I"⟩, 8), (⟨"AlwaysThere$Reader", "takePlaceUnlike", "(I)I"⟩, 8), (⟨"AlwaysThere$Reader", "readSight", "()Z"⟩, 8), (⟨"AlwaysThere$Reader", "readHedgehog", "()Z"⟩, 8), (⟨"AlwaysThere$Reader", "readCourse", "()Z"⟩, 8), (⟨"AlwaysThere$Reader", "takePlaceBeyondFurrow", "(I)I"⟩, 8), (⟨"AlwaysThere", "meetingAt", "(I)I"⟩, 10)]
theorem lw_r1 : ∀ q ∈ lw_privs_1, lw_okq q := List.forall_mem_cons.mpr ⟨lw_p0, List.forall_mem_cons.mpr ⟨lw_p1, List.forall_mem_cons.mpr ⟨lw_p2, List.forall_mem_cons.mpr ⟨lw_p3, List.forall_mem_cons.mpr ⟨lw_p4, List.forall_mem_cons.mpr ⟨lw_p5, List.forall_mem_cons.mpr ⟨lw_p6, List.forall_mem_cons.mpr ⟨lw_p7, List.forall_mem_cons.mpr ⟨lw_p8, List.forall_mem_cons.mpr ⟨lw_p9, List.forall_mem_cons.mpr ⟨lw_p10, List.forall_mem_cons.mpr ⟨lw_p11, List.forall_mem_cons.mpr ⟨lw_p12, List.forall_mem_cons.mpr ⟨lw_p13, List.forall_mem_cons.mpr ⟨lw_p14, List.forall_mem_cons.mpr ⟨lw_p15, fun _ h => absurd h List.not_mem_nil⟩⟩⟩⟩⟩⟩⟩⟩⟩⟩⟩⟩⟩⟩⟩⟩
theorem lw_p16 : lw_okq (⟨"AlwaysThere", "inViewAt", "(I)I"⟩, 10) := ⟨⟨by decide +kernel, by decide +kernel⟩, List.mem_of_getElem? (i := 15) (by decide +kernel), List.mem_of_getElem? (i := 461) (by decide +kernel), List.mem_of_getElem? (i := 462) (by decide +kernel)⟩
theorem lw_p17 : lw_okq (⟨"AlwaysThere", "couldSit", "(IIII)Z"⟩, 10) := ⟨⟨by decide +kernel, by decide +kernel⟩, List.mem_of_getElem? (i := 15) (by decide +kernel), List.mem_of_getElem? (i := 469) (by decide +kernel), List.mem_of_getElem? (i := 470) (by decide +kernel)⟩
theorem lw_p18 : lw_okq (⟨"AlwaysThere$History", "note", "(II)V"⟩, 3) := ⟨⟨by decide +kernel, by decide +kernel⟩, List.mem_of_getElem? (i := 184) (by decide +kernel), List.mem_of_getElem? (i := 485) (by decide +kernel), List.mem_of_getElem? (i := 486) (by decide +kernel)⟩
theorem lw_p19 : lw_okq (⟨"AlwaysThere", "firstEmpty", "()I"⟩, 10) := ⟨⟨by decide +kernel, by decide +kernel⟩, List.mem_of_getElem? (i := 15) (by decide +kernel), List.mem_of_getElem? (i := 522) (by decide +kernel), List.mem_of_getElem? (i := 523) (by decide +kernel)⟩
theorem lw_p20 : lw_okq (⟨"AlwaysThere", "firstDouble", "()I"⟩, 10) := ⟨⟨by decide +kernel, by decide +kernel⟩, List.mem_of_getElem? (i := 15) (by decide +kernel), List.mem_of_getElem? (i := 526) (by decide +kernel), List.mem_of_getElem? (i := 527) (by decide +kernel)⟩
theorem lw_p21 : lw_okq (⟨"AlwaysThere", "sittingInVain", "()I"⟩, 10) := ⟨⟨by decide +kernel, by decide +kernel⟩, List.mem_of_getElem? (i := 15) (by decide +kernel), List.mem_of_getElem? (i := 536) (by decide +kernel), List.mem_of_getElem? (i := 537) (by decide +kernel)⟩
theorem lw_p22 : lw_okq (⟨"AlwaysThere$Run", "tellFrom", "(III)Z"⟩, 6) := ⟨⟨by decide +kernel, by decide +kernel⟩, List.mem_of_getElem? (i := 201) (by decide +kernel), List.mem_of_getElem? (i := 552) (by decide +kernel), List.mem_of_getElem? (i := 553) (by decide +kernel)⟩
theorem lw_p23 : lw_okq (⟨"AlwaysThere$Worst", "tryAll", "(LAlwaysThere$Land;I)V"⟩, 3) := ⟨⟨by decide +kernel, by decide +kernel⟩, List.mem_of_getElem? (i := 235) (by decide +kernel), List.mem_of_getElem? (i := 574) (by decide +kernel), List.mem_of_getElem? (i := 575) (by decide +kernel)⟩
theorem lw_p24 : lw_okq (⟨"AlwaysThere$Worst", "weigh", "()V"⟩, 3) := ⟨⟨by decide +kernel, by decide +kernel⟩, List.mem_of_getElem? (i := 235) (by decide +kernel), List.mem_of_getElem? (i := 578) (by decide +kernel), List.mem_of_getElem? (i := 579) (by decide +kernel)⟩
theorem lw_p25 : lw_okq (⟨"AlwaysThere$Guess", "findSetsInTime", "(LAlwaysThere$Run;)V"⟩, 5) := ⟨⟨by decide +kernel, by decide +kernel⟩, List.mem_of_getElem? (i := 255) (by decide +kernel), List.mem_of_getElem? (i := 613) (by decide +kernel), List.mem_of_getElem? (i := 614) (by decide +kernel)⟩
theorem lw_p26 : lw_okq (⟨"AlwaysThere$Guess", "waysKeeping", "(II)I"⟩, 5) := ⟨⟨by decide +kernel, by decide +kernel⟩, List.mem_of_getElem? (i := 255) (by decide +kernel), List.mem_of_getElem? (i := 621) (by decide +kernel), List.mem_of_getElem? (i := 622) (by decide +kernel)⟩
theorem lw_p27 : lw_okq (⟨"AlwaysThere$Guess", "addHedgehog", "(I)V"⟩, 5) := ⟨⟨by decide +kernel, by decide +kernel⟩, List.mem_of_getElem? (i := 255) (by decide +kernel), List.mem_of_getElem? (i := 626) (by decide +kernel), List.mem_of_getElem? (i := 627) (by decide +kernel)⟩
theorem lw_p28 : lw_okq (⟨"AlwaysThere", "rateAs", "(III)I"⟩, 10) := ⟨⟨by decide +kernel, by decide +kernel⟩, List.mem_of_getElem? (i := 15) (by decide +kernel), List.mem_of_getElem? (i := 659) (by decide +kernel), List.mem_of_getElem? (i := 660) (by decide +kernel)⟩
theorem lw_p29 : lw_okq (⟨"AlwaysThere", "imageOf", "(I)LAlwaysThere$Now;"⟩, 10) := ⟨⟨by decide +kernel, by decide +kernel⟩, List.mem_of_getElem? (i := 15) (by decide +kernel), List.mem_of_getElem? (i := 679) (by decide +kernel), List.mem_of_getElem? (i := 680) (by decide +kernel)⟩
theorem lw_p30 : lw_okq (⟨"AlwaysThereModel", "reads", "()Z"⟩, 21) := ⟨⟨by decide +kernel, by decide +kernel⟩, List.mem_of_getElem? (i := 700) (by decide +kernel), List.mem_of_getElem? (i := 706) (by decide +kernel), List.mem_of_getElem? (i := 707) (by decide +kernel)⟩
theorem lw_p31 : lw_okq (⟨"AlwaysThereModel", "token", "()V"⟩, 21) := ⟨⟨by decide +kernel, by decide +kernel⟩, List.mem_of_getElem? (i := 700) (by decide +kernel), List.mem_of_getElem? (i := 710) (by decide +kernel), List.mem_of_getElem? (i := 711) (by decide +kernel)⟩
def lw_privs_2 : List (MethodName × Nat) := [(⟨"AlwaysThere", "inViewAt", "(I)I"⟩, 10), (⟨"AlwaysThere", "couldSit", "(IIII)Z"⟩, 10), (⟨"AlwaysThere$History", "note", "(II)V"⟩, 3), (⟨"AlwaysThere", "firstEmpty", "()I"⟩, 10), (⟨"AlwaysThere", "firstDouble", "()I"⟩, 10), (⟨"AlwaysThere", "sittingInVain", "()I"⟩, 10), (⟨"AlwaysThere$Run", "tellFrom", "(III)Z"⟩, 6), (⟨"AlwaysThere$Worst", "tryAll", "(LAlwaysThere$Land;I)V"⟩, 3), (⟨"AlwaysThere$Worst", "weigh", "()V"⟩, 3), (⟨"AlwaysThere$Guess", "findSetsInTime", "(LAlwaysThere$Run;)V"⟩, 5), (⟨"AlwaysThere$Guess", "waysKeeping", "(II)I"⟩, 5), (⟨"AlwaysThere$Guess", "addHedgehog", "(I)V"⟩, 5), (⟨"AlwaysThere", "rateAs", "(III)I"⟩, 10), (⟨"AlwaysThere", "imageOf", "(I)LAlwaysThere$Now;"⟩, 10), (⟨"AlwaysThereModel", "reads", "()Z"⟩, 21), (⟨"AlwaysThereModel", "token", "()V"⟩, 21)]
theorem lw_r2 : ∀ q ∈ lw_privs_2, lw_okq q := List.forall_mem_cons.mpr ⟨lw_p16, List.forall_mem_cons.mpr ⟨lw_p17, List.forall_mem_cons.mpr ⟨lw_p18, List.forall_mem_cons.mpr ⟨lw_p19, List.forall_mem_cons.mpr ⟨lw_p20, List.forall_mem_cons.mpr ⟨lw_p21, List.forall_mem_cons.mpr ⟨lw_p22, List.forall_mem_cons.mpr ⟨lw_p23, List.forall_mem_cons.mpr ⟨lw_p24, List.forall_mem_cons.mpr ⟨lw_p25, List.forall_mem_cons.mpr ⟨lw_p26, List.forall_mem_cons.mpr ⟨lw_p27, List.forall_mem_cons.mpr ⟨lw_p28, List.forall_mem_cons.mpr ⟨lw_p29, List.forall_mem_cons.mpr ⟨lw_p30, List.forall_mem_cons.mpr ⟨lw_p31, fun _ h => absurd h List.not_mem_nil⟩⟩⟩⟩⟩⟩⟩⟩⟩⟩⟩⟩⟩⟩⟩⟩
theorem lw_p32 : lw_okq (⟨"AlwaysThereModel", "letterAt", "(I)I"⟩, 21) := ⟨⟨by decide +kernel, by decide +kernel⟩, List.mem_of_getElem? (i := 700) (by decide +kernel), List.mem_of_getElem? (i := 714) (by decide +kernel), List.mem_of_getElem? (i := 715) (by decide +kernel)⟩
theorem lw_p33 : lw_okq (⟨"AlwaysThereModel", "readsItem", "()Z"⟩, 21) := ⟨⟨by decide +kernel, by decide +kernel⟩, List.mem_of_getElem? (i := 700) (by decide +kernel), List.mem_of_getElem? (i := 727) (by decide +kernel), List.mem_of_getElem? (i := 728) (by decide +kernel)⟩
theorem lw_p34 : lw_okq (⟨"AlwaysThereModel", "readsNumber", "(III)Z"⟩, 21) := ⟨⟨by decide +kernel, by decide +kernel⟩, List.mem_of_getElem? (i := 700) (by decide +kernel), List.mem_of_getElem? (i := 731) (by decide +kernel), List.mem_of_getElem? (i := 732) (by decide +kernel)⟩
theorem lw_p35 : lw_okq (⟨"AlwaysThereModel", "isNumber", "(II)Z"⟩, 21) := ⟨⟨by decide +kernel, by decide +kernel⟩, List.mem_of_getElem? (i := 700) (by decide +kernel), List.mem_of_getElem? (i := 735) (by decide +kernel), List.mem_of_getElem? (i := 736) (by decide +kernel)⟩
theorem lw_p36 : lw_okq (⟨"AlwaysThereModel", "readsFurrow", "()Z"⟩, 21) := ⟨⟨by decide +kernel, by decide +kernel⟩, List.mem_of_getElem? (i := 700) (by decide +kernel), List.mem_of_getElem? (i := 739) (by decide +kernel), List.mem_of_getElem? (i := 740) (by decide +kernel)⟩
theorem lw_p37 : lw_okq (⟨"AlwaysThereModel", "readsTwo", "()I"⟩, 21) := ⟨⟨by decide +kernel, by decide +kernel⟩, List.mem_of_getElem? (i := 700) (by decide +kernel), List.mem_of_getElem? (i := 743) (by decide +kernel), List.mem_of_getElem? (i := 744) (by decide +kernel)⟩
theorem lw_p38 : lw_okq (⟨"AlwaysThereModel", "readsSight", "()Z"⟩, 21) := ⟨⟨by decide +kernel, by decide +kernel⟩, List.mem_of_getElem? (i := 700) (by decide +kernel), List.mem_of_getElem? (i := 747) (by decide +kernel), List.mem_of_getElem? (i := 748) (by decide +kernel)⟩
theorem lw_p39 : lw_okq (⟨"AlwaysThereModel", "readsHog", "()Z"⟩, 21) := ⟨⟨by decide +kernel, by decide +kernel⟩, List.mem_of_getElem? (i := 700) (by decide +kernel), List.mem_of_getElem? (i := 751) (by decide +kernel), List.mem_of_getElem? (i := 752) (by decide +kernel)⟩
theorem lw_p40 : lw_okq (⟨"AlwaysThereModel", "isOnce", "(I)Z"⟩, 21) := ⟨⟨by decide +kernel, by decide +kernel⟩, List.mem_of_getElem? (i := 700) (by decide +kernel), List.mem_of_getElem? (i := 755) (by decide +kernel), List.mem_of_getElem? (i := 756) (by decide +kernel)⟩
theorem lw_p41 : lw_okq (⟨"AlwaysThereModel", "readsCourse", "()Z"⟩, 21) := ⟨⟨by decide +kernel, by decide +kernel⟩, List.mem_of_getElem? (i := 700) (by decide +kernel), List.mem_of_getElem? (i := 759) (by decide +kernel), List.mem_of_getElem? (i := 760) (by decide +kernel)⟩
theorem lw_p42 : lw_okq (⟨"AlwaysThereModel", "tells", "()V"⟩, 21) := ⟨⟨by decide +kernel, by decide +kernel⟩, List.mem_of_getElem? (i := 700) (by decide +kernel), List.mem_of_getElem? (i := 763) (by decide +kernel), List.mem_of_getElem? (i := 764) (by decide +kernel)⟩
theorem lw_p43 : lw_okq (⟨"AlwaysThereModel", "isPlace", "(I)Z"⟩, 21) := ⟨⟨by decide +kernel, by decide +kernel⟩, List.mem_of_getElem? (i := 700) (by decide +kernel), List.mem_of_getElem? (i := 847) (by decide +kernel), List.mem_of_getElem? (i := 848) (by decide +kernel)⟩
theorem lw_p44 : lw_okq (⟨"AlwaysThereModel", "wayOf", "(II)I"⟩, 21) := ⟨⟨by decide +kernel, by decide +kernel⟩, List.mem_of_getElem? (i := 700) (by decide +kernel), List.mem_of_getElem? (i := 855) (by decide +kernel), List.mem_of_getElem? (i := 856) (by decide +kernel)⟩
theorem lw_p45 : lw_okq (⟨"AlwaysThereModel", "isHog", "(I)Z"⟩, 21) := ⟨⟨by decide +kernel, by decide +kernel⟩, List.mem_of_getElem? (i := 700) (by decide +kernel), List.mem_of_getElem? (i := 867) (by decide +kernel), List.mem_of_getElem? (i := 868) (by decide +kernel)⟩
theorem lw_p46 : lw_okq (⟨"AlwaysThereModel", "isPoint", "(I)Z"⟩, 21) := ⟨⟨by decide +kernel, by decide +kernel⟩, List.mem_of_getElem? (i := 700) (by decide +kernel), List.mem_of_getElem? (i := 875) (by decide +kernel), List.mem_of_getElem? (i := 876) (by decide +kernel)⟩
theorem lw_p47 : lw_okq (⟨"AlwaysThereModel", "comes", "(I)I"⟩, 21) := ⟨⟨by decide +kernel, by decide +kernel⟩, List.mem_of_getElem? (i := 700) (by decide +kernel), List.mem_of_getElem? (i := 879) (by decide +kernel), List.mem_of_getElem? (i := 880) (by decide +kernel)⟩
def lw_privs_3 : List (MethodName × Nat) := [(⟨"AlwaysThereModel", "letterAt", "(I)I"⟩, 21), (⟨"AlwaysThereModel", "readsItem", "()Z"⟩, 21), (⟨"AlwaysThereModel", "readsNumber", "(III)Z"⟩, 21), (⟨"AlwaysThereModel", "isNumber", "(II)Z"⟩, 21), (⟨"AlwaysThereModel", "readsFurrow", "()Z"⟩, 21), (⟨"AlwaysThereModel", "readsTwo", "()I"⟩, 21), (⟨"AlwaysThereModel", "readsSight", "()Z"⟩, 21), (⟨"AlwaysThereModel", "readsHog", "()Z"⟩, 21), (⟨"AlwaysThereModel", "isOnce", "(I)Z"⟩, 21), (⟨"AlwaysThereModel", "readsCourse", "()Z"⟩, 21), (⟨"AlwaysThereModel", "tells", "()V"⟩, 21), (⟨"AlwaysThereModel", "isPlace", "(I)Z"⟩, 21), (⟨"AlwaysThereModel", "wayOf", "(II)I"⟩, 21), (⟨"AlwaysThereModel", "isHog", "(I)Z"⟩, 21), (⟨"AlwaysThereModel", "isPoint", "(I)Z"⟩, 21), (⟨"AlwaysThereModel", "comes", "(I)I"⟩, 21)]
theorem lw_r3 : ∀ q ∈ lw_privs_3, lw_okq q := List.forall_mem_cons.mpr ⟨lw_p32, List.forall_mem_cons.mpr ⟨lw_p33, List.forall_mem_cons.mpr ⟨lw_p34, List.forall_mem_cons.mpr ⟨lw_p35, List.forall_mem_cons.mpr ⟨lw_p36, List.forall_mem_cons.mpr ⟨lw_p37, List.forall_mem_cons.mpr ⟨lw_p38, List.forall_mem_cons.mpr ⟨lw_p39, List.forall_mem_cons.mpr ⟨lw_p40, List.forall_mem_cons.mpr ⟨lw_p41, List.forall_mem_cons.mpr ⟨lw_p42, List.forall_mem_cons.mpr ⟨lw_p43, List.forall_mem_cons.mpr ⟨lw_p44, List.forall_mem_cons.mpr ⟨lw_p45, List.forall_mem_cons.mpr ⟨lw_p46, List.forall_mem_cons.mpr ⟨lw_p47, fun _ h => absurd h List.not_mem_nil⟩⟩⟩⟩⟩⟩⟩⟩⟩⟩⟩⟩⟩⟩⟩⟩
theorem lw_p48 : lw_okq (⟨"AlwaysThereModel", "meets", "(I)I"⟩, 21) := ⟨⟨by decide +kernel, by decide +kernel⟩, List.mem_of_getElem? (i := 700) (by decide +kernel), List.mem_of_getElem? (i := 883) (by decide +kernel), List.mem_of_getElem? (i := 884) (by decide +kernel)⟩
theorem lw_p49 : lw_okq (⟨"AlwaysThereModel", "sitting", "(II)I"⟩, 21) := ⟨⟨by decide +kernel, by decide +kernel⟩, List.mem_of_getElem? (i := 700) (by decide +kernel), List.mem_of_getElem? (i := 887) (by decide +kernel), List.mem_of_getElem? (i := 888) (by decide +kernel)⟩
theorem lw_p50 : lw_okq (⟨"AlwaysThereModel", "sees", "(I)I"⟩, 21) := ⟨⟨by decide +kernel, by decide +kernel⟩, List.mem_of_getElem? (i := 700) (by decide +kernel), List.mem_of_getElem? (i := 891) (by decide +kernel), List.mem_of_getElem? (i := 892) (by decide +kernel)⟩
theorem lw_p51 : lw_okq (⟨"AlwaysThereModel", "areOne", "(IIIIII)Z"⟩, 21) := ⟨⟨by decide +kernel, by decide +kernel⟩, List.mem_of_getElem? (i := 700) (by decide +kernel), List.mem_of_getElem? (i := 899) (by decide +kernel), List.mem_of_getElem? (i := 900) (by decide +kernel)⟩
theorem lw_p52 : lw_okq (⟨"AlwaysThereModel", "keeps", "()V"⟩, 21) := ⟨⟨by decide +kernel, by decide +kernel⟩, List.mem_of_getElem? (i := 700) (by decide +kernel), List.mem_of_getElem? (i := 903) (by decide +kernel), List.mem_of_getElem? (i := 904) (by decide +kernel)⟩
theorem lw_p53 : lw_okq (⟨"AlwaysThereModel", "vain", "()I"⟩, 21) := ⟨⟨by decide +kernel, by decide +kernel⟩, List.mem_of_getElem? (i := 700) (by decide +kernel), List.mem_of_getElem? (i := 926) (by decide +kernel), List.mem_of_getElem? (i := 927) (by decide +kernel)⟩
theorem lw_p54 : lw_okq (⟨"AlwaysThereModel", "lays", "()V"⟩, 21) := ⟨⟨by decide +kernel, by decide +kernel⟩, List.mem_of_getElem? (i := 700) (by decide +kernel), List.mem_of_getElem? (i := 934) (by decide +kernel), List.mem_of_getElem? (i := 935) (by decide +kernel)⟩
theorem lw_p55 : lw_okq (⟨"AlwaysThereModel", "canGo", "(II)Z"⟩, 21) := ⟨⟨by decide +kernel, by decide +kernel⟩, List.mem_of_getElem? (i := 700) (by decide +kernel), List.mem_of_getElem? (i := 938) (by decide +kernel), List.mem_of_getElem? (i := 939) (by decide +kernel)⟩
theorem lw_p56 : lw_okq (⟨"AlwaysThereModel", "fewest", "()I"⟩, 21) := ⟨⟨by decide +kernel, by decide +kernel⟩, List.mem_of_getElem? (i := 700) (by decide +kernel), List.mem_of_getElem? (i := 946) (by decide +kernel), List.mem_of_getElem? (i := 947) (by decide +kernel)⟩
theorem lw_p57 : lw_okq (⟨"AlwaysThereModel", "finds", "(I)Z"⟩, 21) := ⟨⟨by decide +kernel, by decide +kernel⟩, List.mem_of_getElem? (i := 700) (by decide +kernel), List.mem_of_getElem? (i := 950) (by decide +kernel), List.mem_of_getElem? (i := 951) (by decide +kernel)⟩
theorem lw_p58 : lw_okq (⟨"AlwaysThereModel", "fitsAt", "(I)Z"⟩, 21) := ⟨⟨by decide +kernel, by decide +kernel⟩, List.mem_of_getElem? (i := 700) (by decide +kernel), List.mem_of_getElem? (i := 954) (by decide +kernel), List.mem_of_getElem? (i := 955) (by decide +kernel)⟩
theorem lw_p59 : lw_okq (⟨"AlwaysThereModel", "laysCourse", "(III)Z"⟩, 21) := ⟨⟨by decide +kernel, by decide +kernel⟩, List.mem_of_getElem? (i := 700) (by decide +kernel), List.mem_of_getElem? (i := 962) (by decide +kernel), List.mem_of_getElem? (i := 963) (by decide +kernel)⟩
theorem lw_p60 : lw_okq (⟨"AlwaysThereModel", "ways", "()I"⟩, 21) := ⟨⟨by decide +kernel, by decide +kernel⟩, List.mem_of_getElem? (i := 700) (by decide +kernel), List.mem_of_getElem? (i := 978) (by decide +kernel), List.mem_of_getElem? (i := 979) (by decide +kernel)⟩
theorem lw_p61 : lw_okq (⟨"AlwaysThereModel", "isThere", "(I)Z"⟩, 21) := ⟨⟨by decide +kernel, by decide +kernel⟩, List.mem_of_getElem? (i := 700) (by decide +kernel), List.mem_of_getElem? (i := 982) (by decide +kernel), List.mem_of_getElem? (i := 983) (by decide +kernel)⟩
theorem lw_p62 : lw_okq (⟨"AlwaysThereModel", "canBe", "(II)Z"⟩, 21) := ⟨⟨by decide +kernel, by decide +kernel⟩, List.mem_of_getElem? (i := 700) (by decide +kernel), List.mem_of_getElem? (i := 986) (by decide +kernel), List.mem_of_getElem? (i := 987) (by decide +kernel)⟩
def lw_privs_4 : List (MethodName × Nat) := [(⟨"AlwaysThereModel", "meets", "(I)I"⟩, 21), (⟨"AlwaysThereModel", "sitting", "(II)I"⟩, 21), (⟨"AlwaysThereModel", "sees", "(I)I"⟩, 21), (⟨"AlwaysThereModel", "areOne", "(IIIIII)Z"⟩, 21), (⟨"AlwaysThereModel", "keeps", "()V"⟩, 21), (⟨"AlwaysThereModel", "vain", "()I"⟩, 21), (⟨"AlwaysThereModel", "lays", "()V"⟩, 21), (⟨"AlwaysThereModel", "canGo", "(II)Z"⟩, 21), (⟨"AlwaysThereModel", "fewest", "()I"⟩, 21), (⟨"AlwaysThereModel", "finds", "(I)Z"⟩, 21), (⟨"AlwaysThereModel", "fitsAt", "(I)Z"⟩, 21), (⟨"AlwaysThereModel", "laysCourse", "(III)Z"⟩, 21), (⟨"AlwaysThereModel", "ways", "()I"⟩, 21), (⟨"AlwaysThereModel", "isThere", "(I)Z"⟩, 21), (⟨"AlwaysThereModel", "canBe", "(II)Z"⟩, 21)]
theorem lw_r4 : ∀ q ∈ lw_privs_4, lw_okq q := List.forall_mem_cons.mpr ⟨lw_p48, List.forall_mem_cons.mpr ⟨lw_p49, List.forall_mem_cons.mpr ⟨lw_p50, List.forall_mem_cons.mpr ⟨lw_p51, List.forall_mem_cons.mpr ⟨lw_p52, List.forall_mem_cons.mpr ⟨lw_p53, List.forall_mem_cons.mpr ⟨lw_p54, List.forall_mem_cons.mpr ⟨lw_p55, List.forall_mem_cons.mpr ⟨lw_p56, List.forall_mem_cons.mpr ⟨lw_p57, List.forall_mem_cons.mpr ⟨lw_p58, List.forall_mem_cons.mpr ⟨lw_p59, List.forall_mem_cons.mpr ⟨lw_p60, List.forall_mem_cons.mpr ⟨lw_p61, List.forall_mem_cons.mpr ⟨lw_p62, fun _ h => absurd h List.not_mem_nil⟩⟩⟩⟩⟩⟩⟩⟩⟩⟩⟩⟩⟩⟩⟩
def lw_privs : List (MethodName × Nat) := lw_privs_1 ++ (lw_privs_2 ++ (lw_privs_3 ++ (lw_privs_4)))
def lw_tbl : List Cond := k2_sels lw_privs ++ tables_1
theorem lw_privs_ok : ∀ q ∈ lw_privs, lw_okq q := by
  show ∀ q ∈ lw_privs_1 ++ (lw_privs_2 ++ (lw_privs_3 ++ (lw_privs_4))), lw_okq q
  exact List.forall_mem_append.mpr ⟨lw_r1, List.forall_mem_append.mpr ⟨lw_r2, List.forall_mem_append.mpr ⟨lw_r3, lw_r4⟩⟩⟩
end
section
/-! names, fields, methods and instructions of the class, the reference and the law: printed by wip/whole/gen02.py out of the claim -/
def q_cnL : List String := ["AlwaysThere$Guess", "AlwaysThere$History", "AlwaysThere$Land", "AlwaysThere$Now", "AlwaysThere$Reader", "AlwaysThere$Run", "AlwaysThere$Worst", "AlwaysThere", "AlwaysThereModel", "AlwaysThereLaw", "java/lang/Integer", "java/util/Arrays"]
def q_cn (o : Nat) : String := q_cnL.getD o ""
def q_TL : List (List (String × String × String × Bool)) := [[("AlwaysThere$Guess", "hedgehogs", "I", false), ("AlwaysThere$Guess", "allPoints", "I", false), ("AlwaysThere$Guess", "possible", "[I", true), ("AlwaysThere$Guess", "inTime", "[Z", true), ("AlwaysThere$Guess", "ways", "[I", true)],
  [("AlwaysThere$History", "size", "I", false), ("AlwaysThere$History", "point", "[I", true), ("AlwaysThere$History", "formerWait", "[I", true)],
  [("AlwaysThere$Land", "places", "I", false), ("AlwaysThere$Land", "hedgehogs", "I", false), ("AlwaysThere$Land", "points", "I", false), ("AlwaysThere$Land", "slow", "I", false), ("AlwaysThere$Land", "tired", "I", false), ("AlwaysThere$Land", "rubs", "I", false), ("AlwaysThere$Land", "furrow", "[I", true), ("AlwaysThere$Land", "way", "[I", true), ("AlwaysThere$Land", "sight", "[I", true), ("AlwaysThere$Land", "marks", "[I", true), ("AlwaysThere$Land", "course", "[I", true)],
  [("AlwaysThere$Now", "kept", "Z", false), ("AlwaysThere$Now", "sitsCount", "I", false), ("AlwaysThere$Now", "sitter", "[I", true), ("AlwaysThere$Now", "sitPlace", "[I", true), ("AlwaysThere$Now", "sitFrom", "[I", true), ("AlwaysThere$Now", "sitTo", "[I", true), ("AlwaysThere$Now", "wait", "[I", true), ("AlwaysThere$Now", "seen", "[I", true)],
  [("AlwaysThere$Reader", "letters", "[C", true), ("AlwaysThere$Reader", "length", "I", false), ("AlwaysThere$Reader", "draft", "LAlwaysThere$Land;", true), ("AlwaysThere$Reader", "token", "I", false), ("AlwaysThere$Reader", "number", "I", false), ("AlwaysThere$Reader", "begin", "I", false), ("AlwaysThere$Reader", "behind", "I", false), ("AlwaysThere$Reader", "told", "I", false)],
  [("AlwaysThere$Run", "size", "I", false), ("AlwaysThere$Run", "place", "[I", true), ("AlwaysThere$Run", "comes", "[I", true), ("AlwaysThere$Run", "reachedFrom", "[I", true), ("AlwaysThere$Run", "who", "[I", true), ("AlwaysThere$Run", "latestOf", "[I", true)],
  [("AlwaysThere$Worst", "most", "I", false), ("AlwaysThere$Worst", "figures", "I", false), ("AlwaysThere$Worst", "walk", "LAlwaysThere$Run;", true)],
  [("AlwaysThere", "reader", "LAlwaysThere$Reader;", true), ("AlwaysThere", "land", "LAlwaysThere$Land;", true), ("AlwaysThere", "now", "LAlwaysThere$Now;", true), ("AlwaysThere", "firstImage", "LAlwaysThere$Now;", true), ("AlwaysThere", "secondImage", "LAlwaysThere$Now;", true), ("AlwaysThere", "history", "LAlwaysThere$History;", true), ("AlwaysThere", "course", "LAlwaysThere$Run;", true), ("AlwaysThere", "worstCourse", "LAlwaysThere$Worst;", true), ("AlwaysThere", "guess", "LAlwaysThere$Guess;", true), ("AlwaysThere", "traced", "J", false)],
  [("AlwaysThereModel", "trace", "J", false), ("AlwaysThereModel", "text", "[I", true), ("AlwaysThereModel", "typed", "I", false), ("AlwaysThereModel", "told", "[I", true), ("AlwaysThereModel", "draft", "[I", true), ("AlwaysThereModel", "s", "[I", true), ("AlwaysThereModel", "past", "[I", true), ("AlwaysThereModel", "known", "I", false), ("AlwaysThereModel", "images", "[I", true), ("AlwaysThereModel", "kept", "[Z", true), ("AlwaysThereModel", "far", "[I", true), ("AlwaysThereModel", "at", "I", false), ("AlwaysThereModel", "sort", "I", false), ("AlwaysThereModel", "start", "I", false), ("AlwaysThereModel", "value", "I", false), ("AlwaysThereModel", "places", "[I", true), ("AlwaysThereModel", "minutes", "[I", true), ("AlwaysThereModel", "length", "I", false), ("AlwaysThereModel", "who", "[I", true), ("AlwaysThereModel", "latest", "[I", true), ("AlwaysThereModel", "there", "[I", true)]]
def q_T (ci : Nat) : u_T := fun k => (q_TL.getD ci []).getD k ("", "", "", false)
def q_ftL : List (List FieldType) := [[.int, .int, .array .int, .array .boolean, .array .int],
  [.int, .array .int, .array .int],
  [.int, .int, .int, .int, .int, .int, .array .int, .array .int, .array .int, .array .int, .array .int],
  [.boolean, .int, .array .int, .array .int, .array .int, .array .int, .array .int, .array .int],
  [.array .char, .int, .object "AlwaysThere$Land", .int, .int, .int, .int, .int],
  [.int, .array .int, .array .int, .array .int, .array .int, .array .int],
  [.int, .int, .object "AlwaysThere$Run"],
  [.object "AlwaysThere$Reader", .object "AlwaysThere$Land", .object "AlwaysThere$Now", .object "AlwaysThere$Now", .object "AlwaysThere$Now", .object "AlwaysThere$History", .object "AlwaysThere$Run", .object "AlwaysThere$Worst", .object "AlwaysThere$Guess", .long],
  [.long, .array .int, .int, .array .int, .array .int, .array .int, .array .int, .int, .array .int, .array .boolean, .array .int, .int, .int, .int, .int, .array .int, .array .int, .int, .array .int, .array .int, .array .int]]
def q_ft (ci k : Nat) : FieldType := (q_ftL.getD ci []).getD k .int
def q_NL : List Nat := [5, 3, 11, 8, 8, 6, 3, 10, 21]
def q_N (ci : Nat) : Nat := q_NL.getD ci 0
/-- kinds of fields: 0 int, 1 long, 2 reference, 3 boolean -/
def q_fkL : List (List Nat) := [[0, 0, 2, 2, 2], [0, 2, 2], [0, 0, 0, 0, 0, 0, 2, 2, 2, 2, 2], [3, 0, 2, 2, 2, 2, 2, 2], [2, 0, 2, 0, 0, 0, 0, 0], [0, 2, 2, 2, 2, 2], [0, 0, 2], [2, 2, 2, 2, 2, 2, 2, 2, 2, 1], [1, 2, 0, 2, 2, 2, 2, 0, 2, 2, 2, 0, 0, 0, 0, 2, 2, 0, 2, 2, 2]]
def q_fk (ci j : Nat) : Nat := (q_fkL.getD ci []).getD j 9
def q_cls : List vw_C := (List.range 9).map (fun ci => (q_cn ci, q_T ci, q_N ci))
/-- own class, name, code, locals, what it returns -/
def q_ms : List (Nat × MethodName × ByteArray × Nat × Option FieldType) := [(0, ⟨"AlwaysThere$Guess", "<init>", "()V"⟩, prog_2_method_1_code, 1, none),
  (0, ⟨"AlwaysThere$Guess", "prepare", "(LAlwaysThere$Land;LAlwaysThere$Run;[I)V"⟩, prog_2_method_2_code, 6, none),
  (0, ⟨"AlwaysThere$Guess", "findSetsInTime", "(LAlwaysThere$Run;)V"⟩, prog_2_method_3_code, 5, none),
  (0, ⟨"AlwaysThere$Guess", "waysInAll", "()I"⟩, prog_2_method_4_code, 1, some .int),
  (0, ⟨"AlwaysThere$Guess", "alwaysAt", "(I)I"⟩, prog_2_method_5_code, 4, some .int),
  (0, ⟨"AlwaysThere$Guess", "waysKeeping", "(II)I"⟩, prog_2_method_6_code, 4, some .int),
  (0, ⟨"AlwaysThere$Guess", "addHedgehog", "(I)V"⟩, prog_2_method_7_code, 5, none),
  (1, ⟨"AlwaysThere$History", "<init>", "()V"⟩, prog_3_method_1_code, 1, none),
  (1, ⟨"AlwaysThere$History", "noteSits", "()V"⟩, prog_3_method_2_code, 1, none),
  (1, ⟨"AlwaysThere$History", "noteWait", "(II)V"⟩, prog_3_method_3_code, 3, none),
  (1, ⟨"AlwaysThere$History", "note", "(II)V"⟩, prog_3_method_4_code, 3, none),
  (1, ⟨"AlwaysThere$History", "takeBack", "(LAlwaysThere$Now;)V"⟩, prog_3_method_5_code, 3, none),
  (2, ⟨"AlwaysThere$Land", "<init>", "()V"⟩, prog_4_method_1_code, 1, none),
  (2, ⟨"AlwaysThere$Land", "wipe", "()V"⟩, prog_4_method_2_code, 1, none),
  (2, ⟨"AlwaysThere$Land", "become", "(LAlwaysThere$Land;)V"⟩, prog_4_method_3_code, 2, none),
  (2, ⟨"AlwaysThere$Land", "hasPlace", "(I)Z"⟩, prog_4_method_4_code, 2, some .boolean),
  (2, ⟨"AlwaysThere$Land", "hasHedgehog", "(I)Z"⟩, prog_4_method_5_code, 2, some .boolean),
  (2, ⟨"AlwaysThere$Land", "pair", "(II)I"⟩, prog_4_method_6_code, 2, some .int),
  (2, ⟨"AlwaysThere$Land", "furrowBetween", "(II)I"⟩, prog_4_method_7_code, 3, some .int),
  (2, ⟨"AlwaysThere$Land", "putFurrow", "(III)V"⟩, prog_4_method_8_code, 4, none),
  (2, ⟨"AlwaysThere$Land", "putSight", "(II)V"⟩, prog_4_method_9_code, 3, none),
  (2, ⟨"AlwaysThere$Land", "wayBetween", "(II)I"⟩, prog_4_method_10_code, 4, some .int),
  (2, ⟨"AlwaysThere$Land", "measureWays", "()V"⟩, prog_4_method_11_code, 5, none),
  (2, ⟨"AlwaysThere$Land", "othersMarkedAs", "(I)I"⟩, prog_4_method_12_code, 4, some .int),
  (2, ⟨"AlwaysThere$Land", "areToldApart", "(II)Z"⟩, prog_4_method_13_code, 7, some .boolean),
  (2, ⟨"AlwaysThere$Land", "canHaveBeen", "(III)Z"⟩, prog_4_method_14_code, 7, some .boolean),
  (3, ⟨"AlwaysThere$Now", "<init>", "()V"⟩, prog_5_method_1_code, 1, none),
  (3, ⟨"AlwaysThere$Now", "wipe", "()V"⟩, prog_5_method_2_code, 1, none),
  (3, ⟨"AlwaysThere$Now", "become", "(LAlwaysThere$Now;)V"⟩, prog_5_method_3_code, 2, none),
  (3, ⟨"AlwaysThere$Now", "addSits", "(IIII)V"⟩, prog_5_method_4_code, 5, none),
  (3, ⟨"AlwaysThere$Now", "dropLastSits", "()V"⟩, prog_5_method_5_code, 1, none),
  (3, ⟨"AlwaysThere$Now", "agrees", "(IIII)Z"⟩, prog_5_method_6_code, 7, some .boolean),
  (3, ⟨"AlwaysThere$Now", "sittersAt", "(II)I"⟩, prog_5_method_7_code, 6, some .int),
  (3, ⟨"AlwaysThere$Now", "sittersAnywhere", "()I"⟩, prog_5_method_8_code, 3, some .int),
  (3, ⟨"AlwaysThere$Now", "sitsOf", "(I)I"⟩, prog_5_method_9_code, 4, some .int),
  (4, ⟨"AlwaysThere$Reader", "<init>", "()V"⟩, prog_6_method_1_code, 1, none),
  (4, ⟨"AlwaysThere$Reader", "readAll", "()I"⟩, prog_6_method_2_code, 2, some .int),
  (4, ⟨"AlwaysThere$Reader", "readItem", "(Z)Z"⟩, prog_6_method_3_code, 3, some .boolean),
  (4, ⟨"AlwaysThere$Reader", "canBegin", "(IZ)Z"⟩, prog_6_method_4_code, 3, some .boolean),
  (4, ⟨"AlwaysThere$Reader", "bitOf", "(I)I"⟩, prog_6_method_5_code, 1, some .int),
  (4, ⟨"AlwaysThere$Reader", "readBody", "(I)Z"⟩, prog_6_method_6_code, 2, some .boolean),
  (4, ⟨"AlwaysThere$Reader", "readFurrow", "()Z"⟩, prog_6_method_7_code, 4, some .boolean),
  (4, ⟨"AlwaysThere$Reader", "readSight", "()Z"⟩, prog_6_method_8_code, 3, some .boolean),
  (4, ⟨"AlwaysThere$Reader", "readHedgehog", "()Z"⟩, prog_6_method_9_code, 2, some .boolean),
  (4, ⟨"AlwaysThere$Reader", "readCourse", "()Z"⟩, prog_6_method_10_code, 3, some .boolean),
  (4, ⟨"AlwaysThere$Reader", "takePlace", "()I"⟩, prog_6_method_11_code, 1, some .int),
  (4, ⟨"AlwaysThere$Reader", "takePlaceUnlike", "(I)I"⟩, prog_6_method_12_code, 2, some .int),
  (4, ⟨"AlwaysThere$Reader", "takePlaceBeyondFurrow", "(I)I"⟩, prog_6_method_13_code, 3, some .int),
  (4, ⟨"AlwaysThere$Reader", "takeNumber", "(II)I"⟩, prog_6_method_14_code, 4, some .int),
  (4, ⟨"AlwaysThere$Reader", "goOn", "()V"⟩, prog_6_method_15_code, 1, none),
  (4, ⟨"AlwaysThere$Reader", "readDigits", "()V"⟩, prog_6_method_16_code, 3, none),
  (4, ⟨"AlwaysThere$Reader", "isDigit", "(I)Z"⟩, prog_6_method_17_code, 2, some .boolean),
  (5, ⟨"AlwaysThere$Run", "<init>", "()V"⟩, prog_7_method_1_code, 1, none),
  (5, ⟨"AlwaysThere$Run", "hasPoint", "(I)Z"⟩, prog_7_method_2_code, 2, some .boolean),
  (5, ⟨"AlwaysThere$Run", "comesLast", "()I"⟩, prog_7_method_3_code, 1, some .int),
  (5, ⟨"AlwaysThere$Run", "follow", "(LAlwaysThere$Land;[I)V"⟩, prog_7_method_4_code, 4, none),
  (5, ⟨"AlwaysThere$Run", "stepTo", "(LAlwaysThere$Land;II)V"⟩, prog_7_method_5_code, 8, none),
  (5, ⟨"AlwaysThere$Run", "stepBack", "()V"⟩, prog_7_method_6_code, 1, none),
  (5, ⟨"AlwaysThere$Run", "fewest", "()I"⟩, prog_7_method_7_code, 2, some .int),
  (5, ⟨"AlwaysThere$Run", "canBeDoneBy", "(I)Z"⟩, prog_7_method_8_code, 2, some .boolean),
  (5, ⟨"AlwaysThere$Run", "tellFrom", "(III)Z"⟩, prog_7_method_9_code, 7, some .boolean),
  (5, ⟨"AlwaysThere$Run", "figures", "()I"⟩, prog_7_method_10_code, 3, some .int),
  (6, ⟨"AlwaysThere$Worst", "<init>", "()V"⟩, prog_8_method_1_code, 1, none),
  (6, ⟨"AlwaysThere$Worst", "lookFrom", "(LAlwaysThere$Land;II)V"⟩, prog_8_method_2_code, 4, none),
  (6, ⟨"AlwaysThere$Worst", "tryAll", "(LAlwaysThere$Land;I)V"⟩, prog_8_method_3_code, 5, none),
  (6, ⟨"AlwaysThere$Worst", "weigh", "()V"⟩, prog_8_method_4_code, 1, none),
  (7, ⟨"AlwaysThere", "<init>", "()V"⟩, prog_1_method_1_code, 1, none),
  (7, ⟨"AlwaysThere", "type", "(I)I"⟩, prog_1_method_2_code, 2, some .int),
  (7, ⟨"AlwaysThere", "clear", "()I"⟩, prog_1_method_3_code, 2, some .int),
  (7, ⟨"AlwaysThere", "furrows", "()I"⟩, prog_1_method_4_code, 2, some .int),
  (7, ⟨"AlwaysThere", "furrow", "(II)I"⟩, prog_1_method_5_code, 3, some .int),
  (7, ⟨"AlwaysThere", "way", "(II)I"⟩, prog_1_method_6_code, 3, some .int),
  (7, ⟨"AlwaysThere", "sights", "(I)I"⟩, prog_1_method_7_code, 2, some .int),
  (7, ⟨"AlwaysThere", "hedgehog", "(I)I"⟩, prog_1_method_8_code, 2, some .int),
  (7, ⟨"AlwaysThere", "point", "(II)I"⟩, prog_1_method_9_code, 3, some .int),
  (7, ⟨"AlwaysThere", "sits", "(IIII)I"⟩, prog_1_method_10_code, 5, some .int),
  (7, ⟨"AlwaysThere", "waits", "(II)I"⟩, prog_1_method_11_code, 3, some .int),
  (7, ⟨"AlwaysThere", "undo", "()I"⟩, prog_1_method_12_code, 1, some .int),
  (7, ⟨"AlwaysThere", "sat", "(II)I"⟩, prog_1_method_13_code, 3, some .int),
  (7, ⟨"AlwaysThere", "race", "(I)I"⟩, prog_1_method_14_code, 2, some .int),
  (7, ⟨"AlwaysThere", "one", "()I"⟩, prog_1_method_15_code, 1, some .int),
  (7, ⟨"AlwaysThere", "needed", "(I)I"⟩, prog_1_method_16_code, 2, some .int),
  (7, ⟨"AlwaysThere", "worst", "(III)I"⟩, prog_1_method_17_code, 4, some .int),
  (7, ⟨"AlwaysThere", "saw", "(II)I"⟩, prog_1_method_18_code, 4, some .int),
  (7, ⟨"AlwaysThere", "forget", "()I"⟩, prog_1_method_19_code, 3, some .int),
  (7, ⟨"AlwaysThere", "fits", "()I"⟩, prog_1_method_20_code, 1, some .int),
  (7, ⟨"AlwaysThere", "sure", "(I)I"⟩, prog_1_method_21_code, 2, some .int),
  (7, ⟨"AlwaysThere", "ask", "(I)I"⟩, prog_1_method_22_code, 5, some .int),
  (7, ⟨"AlwaysThere", "bet", "(II)J"⟩, prog_1_method_23_code, 8, some .long),
  (7, ⟨"AlwaysThere", "rate", "(II)I"⟩, prog_1_method_24_code, 3, some .int),
  (7, ⟨"AlwaysThere", "keep", "(I)I"⟩, prog_1_method_25_code, 3, some .int),
  (7, ⟨"AlwaysThere", "back", "(I)I"⟩, prog_1_method_26_code, 3, some .int),
  (7, ⟨"AlwaysThere", "count", "(I)I"⟩, prog_1_method_27_code, 2, some .int),
  (7, ⟨"AlwaysThere", "trace", "()J"⟩, prog_1_method_28_code, 1, some .long),
  (7, ⟨"AlwaysThere", "imageOf", "(I)LAlwaysThere$Now;"⟩, prog_1_method_29_code, 2, some (.object "AlwaysThere$Now")),
  (7, ⟨"AlwaysThere", "meetingAt", "(I)I"⟩, prog_1_method_30_code, 2, some .int),
  (7, ⟨"AlwaysThere", "inViewAt", "(I)I"⟩, prog_1_method_31_code, 3, some .int),
  (7, ⟨"AlwaysThere", "firstEmpty", "()I"⟩, prog_1_method_32_code, 2, some .int),
  (7, ⟨"AlwaysThere", "firstDouble", "()I"⟩, prog_1_method_33_code, 2, some .int),
  (7, ⟨"AlwaysThere", "sittingInVain", "()I"⟩, prog_1_method_34_code, 3, some .int),
  (7, ⟨"AlwaysThere", "couldSit", "(IIII)Z"⟩, prog_1_method_35_code, 6, some .boolean),
  (7, ⟨"AlwaysThere", "greatestShared", "(II)I"⟩, prog_1_method_36_code, 3, some .int),
  (7, ⟨"AlwaysThere", "rateAs", "(III)I"⟩, prog_1_method_37_code, 5, some .int),
  (8, ⟨"AlwaysThereModel", "<init>", "()V"⟩, prog_10_method_1_code, 1, none),
  (8, ⟨"AlwaysThereModel", "in", "(III)Z"⟩, prog_10_method_3_code, 3, some .boolean),
  (8, ⟨"AlwaysThereModel", "isPlace", "(I)Z"⟩, prog_10_method_4_code, 2, some .boolean),
  (8, ⟨"AlwaysThereModel", "isHog", "(I)Z"⟩, prog_10_method_5_code, 2, some .boolean),
  (8, ⟨"AlwaysThereModel", "isPoint", "(I)Z"⟩, prog_10_method_6_code, 2, some .boolean),
  (8, ⟨"AlwaysThereModel", "type", "(I)I"⟩, prog_10_method_7_code, 2, some .int),
  (8, ⟨"AlwaysThereModel", "clear", "()I"⟩, prog_10_method_8_code, 2, some .int),
  (8, ⟨"AlwaysThereModel", "letterAt", "(I)I"⟩, prog_10_method_9_code, 2, some .int),
  (8, ⟨"AlwaysThereModel", "isLetter", "(I)Z"⟩, prog_10_method_10_code, 1, some .boolean),
  (8, ⟨"AlwaysThereModel", "isDigit", "(I)Z"⟩, prog_10_method_11_code, 1, some .boolean),
  (8, ⟨"AlwaysThereModel", "token", "()V"⟩, prog_10_method_12_code, 3, none),
  (8, ⟨"AlwaysThereModel", "isNumber", "(II)Z"⟩, prog_10_method_13_code, 3, some .boolean),
  (8, ⟨"AlwaysThereModel", "readsTwo", "()I"⟩, prog_10_method_14_code, 2, some .int),
  (8, ⟨"AlwaysThereModel", "readsFurrow", "()Z"⟩, prog_10_method_15_code, 2, some .boolean),
  (8, ⟨"AlwaysThereModel", "readsSight", "()Z"⟩, prog_10_method_16_code, 2, some .boolean),
  (8, ⟨"AlwaysThereModel", "readsNumber", "(III)Z"⟩, prog_10_method_17_code, 4, some .boolean),
  (8, ⟨"AlwaysThereModel", "readsHog", "()Z"⟩, prog_10_method_18_code, 1, some .boolean),
  (8, ⟨"AlwaysThereModel", "isOnce", "(I)Z"⟩, prog_10_method_19_code, 3, some .boolean),
  (8, ⟨"AlwaysThereModel", "readsCourse", "()Z"⟩, prog_10_method_20_code, 2, some .boolean),
  (8, ⟨"AlwaysThereModel", "readsItem", "()Z"⟩, prog_10_method_21_code, 2, some .boolean),
  (8, ⟨"AlwaysThereModel", "reads", "()Z"⟩, prog_10_method_22_code, 2, some .boolean),
  (8, ⟨"AlwaysThereModel", "tells", "()V"⟩, prog_10_method_23_code, 6, none),
  (8, ⟨"AlwaysThereModel", "furrows", "()I"⟩, prog_10_method_24_code, 1, some .int),
  (8, ⟨"AlwaysThereModel", "furrow", "(II)I"⟩, prog_10_method_25_code, 3, some .int),
  (8, ⟨"AlwaysThereModel", "wayOf", "(II)I"⟩, prog_10_method_26_code, 4, some .int),
  (8, ⟨"AlwaysThereModel", "way", "(II)I"⟩, prog_10_method_27_code, 3, some .int),
  (8, ⟨"AlwaysThereModel", "sights", "(I)I"⟩, prog_10_method_28_code, 2, some .int),
  (8, ⟨"AlwaysThereModel", "hedgehog", "(I)I"⟩, prog_10_method_29_code, 2, some .int),
  (8, ⟨"AlwaysThereModel", "comes", "(I)I"⟩, prog_10_method_30_code, 4, some .int),
  (8, ⟨"AlwaysThereModel", "sitting", "(II)I"⟩, prog_10_method_31_code, 6, some .int),
  (8, ⟨"AlwaysThereModel", "meets", "(I)I"⟩, prog_10_method_32_code, 2, some .int),
  (8, ⟨"AlwaysThereModel", "sees", "(I)I"⟩, prog_10_method_33_code, 3, some .int),
  (8, ⟨"AlwaysThereModel", "point", "(II)I"⟩, prog_10_method_34_code, 3, some .int),
  (8, ⟨"AlwaysThereModel", "keeps", "()V"⟩, prog_10_method_35_code, 2, none),
  (8, ⟨"AlwaysThereModel", "areOne", "(IIIIII)Z"⟩, prog_10_method_36_code, 8, some .boolean),
  (8, ⟨"AlwaysThereModel", "sits", "(IIII)I"⟩, prog_10_method_37_code, 7, some .int),
  (8, ⟨"AlwaysThereModel", "waits", "(II)I"⟩, prog_10_method_38_code, 3, some .int),
  (8, ⟨"AlwaysThereModel", "undo", "()I"⟩, prog_10_method_39_code, 2, some .int),
  (8, ⟨"AlwaysThereModel", "sat", "(II)I"⟩, prog_10_method_40_code, 3, some .int),
  (8, ⟨"AlwaysThereModel", "ones", "(I)I"⟩, prog_10_method_41_code, 3, some .int),
  (8, ⟨"AlwaysThereModel", "vain", "()I"⟩, prog_10_method_42_code, 3, some .int),
  (8, ⟨"AlwaysThereModel", "race", "(I)I"⟩, prog_10_method_43_code, 5, some .int),
  (8, ⟨"AlwaysThereModel", "lays", "()V"⟩, prog_10_method_44_code, 2, none),
  (8, ⟨"AlwaysThereModel", "canGo", "(II)Z"⟩, prog_10_method_45_code, 4, some .boolean),
  (8, ⟨"AlwaysThereModel", "one", "()I"⟩, prog_10_method_46_code, 3, some .int),
  (8, ⟨"AlwaysThereModel", "finds", "(I)Z"⟩, prog_10_method_47_code, 3, some .boolean),
  (8, ⟨"AlwaysThereModel", "fitsAt", "(I)Z"⟩, prog_10_method_48_code, 5, some .boolean),
  (8, ⟨"AlwaysThereModel", "fewest", "()I"⟩, prog_10_method_49_code, 2, some .int),
  (8, ⟨"AlwaysThereModel", "needed", "(I)I"⟩, prog_10_method_50_code, 3, some .int),
  (8, ⟨"AlwaysThereModel", "laysCourse", "(III)Z"⟩, prog_10_method_51_code, 7, some .boolean),
  (8, ⟨"AlwaysThereModel", "worst", "(III)I"⟩, prog_10_method_52_code, 10, some .int),
  (8, ⟨"AlwaysThereModel", "saw", "(II)I"⟩, prog_10_method_53_code, 4, some .int),
  (8, ⟨"AlwaysThereModel", "forget", "()I"⟩, prog_10_method_54_code, 3, some .int),
  (8, ⟨"AlwaysThereModel", "canBe", "(II)Z"⟩, prog_10_method_55_code, 8, some .boolean),
  (8, ⟨"AlwaysThereModel", "ways", "()I"⟩, prog_10_method_56_code, 4, some .int),
  (8, ⟨"AlwaysThereModel", "isThere", "(I)Z"⟩, prog_10_method_57_code, 4, some .boolean),
  (8, ⟨"AlwaysThereModel", "fits", "()I"⟩, prog_10_method_58_code, 1, some .int),
  (8, ⟨"AlwaysThereModel", "sure", "(I)I"⟩, prog_10_method_59_code, 4, some .int),
  (8, ⟨"AlwaysThereModel", "ask", "(I)I"⟩, prog_10_method_60_code, 9, some .int),
  (8, ⟨"AlwaysThereModel", "bet", "(II)J"⟩, prog_10_method_61_code, 13, some .long),
  (8, ⟨"AlwaysThereModel", "rate", "(II)I"⟩, prog_10_method_62_code, 7, some .int),
  (8, ⟨"AlwaysThereModel", "keep", "(I)I"⟩, prog_10_method_63_code, 3, some .int),
  (8, ⟨"AlwaysThereModel", "back", "(I)I"⟩, prog_10_method_64_code, 3, some .int),
  (8, ⟨"AlwaysThereModel", "count", "(I)I"⟩, prog_10_method_65_code, 2, some .int),
  (8, ⟨"AlwaysThereModel", "trace", "()J"⟩, prog_10_method_66_code, 1, some .long),
  (10, ⟨"java/lang/Integer", "bitCount", "(I)I"⟩, prog_11_method_49_code, 1, some .int),
  (11, ⟨"java/util/Arrays", "fill", "([II)V"⟩, prog_14_method_103_code, 4, none),
  (9, ⟨"AlwaysThereLaw", "law", "([I)Z"⟩, code, 4, some .boolean)]
def q_m0 : Nat × MethodName × ByteArray × Nat × Option FieldType := (0, ⟨"", "", ""⟩, ⟨#[]⟩, 0, none)
def q_me (mi : Nat) : Nat × MethodName × ByteArray × Nat × Option FieldType := q_ms.getD mi q_m0
def q_na (mi : Nat) : Nat := cond (Nat.blt mi 85)
 (cond (Nat.blt mi 42)
 (cond (Nat.blt mi 21)
 (cond (Nat.blt mi 10)
 (cond (Nat.blt mi 5)
 (cond (Nat.blt mi 2)
 (cond (Nat.blt mi 1)
 (cond (Nat.beq mi 0) (0) (0))
 (cond (Nat.beq mi 1) (3) (0)))
 (cond (Nat.blt mi 3)
 (cond (Nat.beq mi 2) (1) (0))
 (cond (Nat.blt mi 4)
 (cond (Nat.beq mi 3) (0) (0))
 (cond (Nat.beq mi 4) (1) (0)))))
 (cond (Nat.blt mi 7)
 (cond (Nat.blt mi 6)
 (cond (Nat.beq mi 5) (2) (0))
 (cond (Nat.beq mi 6) (1) (0)))
 (cond (Nat.blt mi 8)
 (cond (Nat.beq mi 7) (0) (0))
 (cond (Nat.blt mi 9)
 (cond (Nat.beq mi 8) (0) (0))
 (cond (Nat.beq mi 9) (2) (0))))))
 (cond (Nat.blt mi 15)
 (cond (Nat.blt mi 12)
 (cond (Nat.blt mi 11)
 (cond (Nat.beq mi 10) (2) (0))
 (cond (Nat.beq mi 11) (1) (0)))
 (cond (Nat.blt mi 13)
 (cond (Nat.beq mi 12) (0) (0))
 (cond (Nat.blt mi 14)
 (cond (Nat.beq mi 13) (0) (0))
 (cond (Nat.beq mi 14) (1) (0)))))
 (cond (Nat.blt mi 18)
 (cond (Nat.blt mi 16)
 (cond (Nat.beq mi 15) (1) (0))
 (cond (Nat.blt mi 17)
 (cond (Nat.beq mi 16) (1) (0))
 (cond (Nat.beq mi 17) (2) (0))))
 (cond (Nat.blt mi 19)
 (cond (Nat.beq mi 18) (2) (0))
 (cond (Nat.blt mi 20)
 (cond (Nat.beq mi 19) (3) (0))
 (cond (Nat.beq mi 20) (2) (0)))))))
 (cond (Nat.blt mi 31)
 (cond (Nat.blt mi 26)
 (cond (Nat.blt mi 23)
 (cond (Nat.blt mi 22)
 (cond (Nat.beq mi 21) (2) (0))
 (cond (Nat.beq mi 22) (0) (0)))
 (cond (Nat.blt mi 24)
 (cond (Nat.beq mi 23) (1) (0))
 (cond (Nat.blt mi 25)
 (cond (Nat.beq mi 24) (2) (0))
 (cond (Nat.beq mi 25) (3) (0)))))
 (cond (Nat.blt mi 28)
 (cond (Nat.blt mi 27)
 (cond (Nat.beq mi 26) (0) (0))
 (cond (Nat.beq mi 27) (0) (0)))
 (cond (Nat.blt mi 29)
 (cond (Nat.beq mi 28) (1) (0))
 (cond (Nat.blt mi 30)
 (cond (Nat.beq mi 29) (4) (0))
 (cond (Nat.beq mi 30) (0) (0))))))
 (cond (Nat.blt mi 36)
 (cond (Nat.blt mi 33)
 (cond (Nat.blt mi 32)
 (cond (Nat.beq mi 31) (4) (0))
 (cond (Nat.beq mi 32) (2) (0)))
 (cond (Nat.blt mi 34)
 (cond (Nat.beq mi 33) (0) (0))
 (cond (Nat.blt mi 35)
 (cond (Nat.beq mi 34) (1) (0))
 (cond (Nat.beq mi 35) (0) (0)))))
 (cond (Nat.blt mi 39)
 (cond (Nat.blt mi 37)
 (cond (Nat.beq mi 36) (0) (0))
 (cond (Nat.blt mi 38)
 (cond (Nat.beq mi 37) (1) (0))
 (cond (Nat.beq mi 38) (2) (0))))
 (cond (Nat.blt mi 40)
 (cond (Nat.beq mi 39) (1) (0))
 (cond (Nat.blt mi 41)
 (cond (Nat.beq mi 40) (1) (0))
 (cond (Nat.beq mi 41) (0) (0))))))))
 (cond (Nat.blt mi 63)
 (cond (Nat.blt mi 52)
 (cond (Nat.blt mi 47)
 (cond (Nat.blt mi 44)
 (cond (Nat.blt mi 43)
 (cond (Nat.beq mi 42) (0) (0))
 (cond (Nat.beq mi 43) (0) (0)))
 (cond (Nat.blt mi 45)
 (cond (Nat.beq mi 44) (0) (0))
 (cond (Nat.blt mi 46)
 (cond (Nat.beq mi 45) (0) (0))
 (cond (Nat.beq mi 46) (1) (0)))))
 (cond (Nat.blt mi 49)
 (cond (Nat.blt mi 48)
 (cond (Nat.beq mi 47) (1) (0))
 (cond (Nat.beq mi 48) (2) (0)))
 (cond (Nat.blt mi 50)
 (cond (Nat.beq mi 49) (0) (0))
 (cond (Nat.blt mi 51)
 (cond (Nat.beq mi 50) (0) (0))
 (cond (Nat.beq mi 51) (1) (0))))))
 (cond (Nat.blt mi 57)
 (cond (Nat.blt mi 54)
 (cond (Nat.blt mi 53)
 (cond (Nat.beq mi 52) (0) (0))
 (cond (Nat.beq mi 53) (1) (0)))
 (cond (Nat.blt mi 55)
 (cond (Nat.beq mi 54) (0) (0))
 (cond (Nat.blt mi 56)
 (cond (Nat.beq mi 55) (2) (0))
 (cond (Nat.beq mi 56) (3) (0)))))
 (cond (Nat.blt mi 60)
 (cond (Nat.blt mi 58)
 (cond (Nat.beq mi 57) (0) (0))
 (cond (Nat.blt mi 59)
 (cond (Nat.beq mi 58) (0) (0))
 (cond (Nat.beq mi 59) (1) (0))))
 (cond (Nat.blt mi 61)
 (cond (Nat.beq mi 60) (3) (0))
 (cond (Nat.blt mi 62)
 (cond (Nat.beq mi 61) (0) (0))
 (cond (Nat.beq mi 62) (0) (0)))))))
 (cond (Nat.blt mi 74)
 (cond (Nat.blt mi 68)
 (cond (Nat.blt mi 65)
 (cond (Nat.blt mi 64)
 (cond (Nat.beq mi 63) (3) (0))
 (cond (Nat.beq mi 64) (2) (0)))
 (cond (Nat.blt mi 66)
 (cond (Nat.beq mi 65) (0) (0))
 (cond (Nat.blt mi 67)
 (cond (Nat.beq mi 66) (0) (0))
 (cond (Nat.beq mi 67) (1) (0)))))
 (cond (Nat.blt mi 71)
 (cond (Nat.blt mi 69)
 (cond (Nat.beq mi 68) (0) (0))
 (cond (Nat.blt mi 70)
 (cond (Nat.beq mi 69) (0) (0))
 (cond (Nat.beq mi 70) (2) (0))))
 (cond (Nat.blt mi 72)
 (cond (Nat.beq mi 71) (2) (0))
 (cond (Nat.blt mi 73)
 (cond (Nat.beq mi 72) (1) (0))
 (cond (Nat.beq mi 73) (1) (0))))))
 (cond (Nat.blt mi 79)
 (cond (Nat.blt mi 76)
 (cond (Nat.blt mi 75)
 (cond (Nat.beq mi 74) (2) (0))
 (cond (Nat.beq mi 75) (4) (0)))
 (cond (Nat.blt mi 77)
 (cond (Nat.beq mi 76) (2) (0))
 (cond (Nat.blt mi 78)
 (cond (Nat.beq mi 77) (0) (0))
 (cond (Nat.beq mi 78) (2) (0)))))
 (cond (Nat.blt mi 82)
 (cond (Nat.blt mi 80)
 (cond (Nat.beq mi 79) (1) (0))
 (cond (Nat.blt mi 81)
 (cond (Nat.beq mi 80) (0) (0))
 (cond (Nat.beq mi 81) (1) (0))))
 (cond (Nat.blt mi 83)
 (cond (Nat.beq mi 82) (3) (0))
 (cond (Nat.blt mi 84)
 (cond (Nat.beq mi 83) (2) (0))
 (cond (Nat.beq mi 84) (0) (0)))))))))
 (cond (Nat.blt mi 128)
 (cond (Nat.blt mi 106)
 (cond (Nat.blt mi 95)
 (cond (Nat.blt mi 90)
 (cond (Nat.blt mi 87)
 (cond (Nat.blt mi 86)
 (cond (Nat.beq mi 85) (0) (0))
 (cond (Nat.beq mi 86) (1) (0)))
 (cond (Nat.blt mi 88)
 (cond (Nat.beq mi 87) (1) (0))
 (cond (Nat.blt mi 89)
 (cond (Nat.beq mi 88) (2) (0))
 (cond (Nat.beq mi 89) (2) (0)))))
 (cond (Nat.blt mi 92)
 (cond (Nat.blt mi 91)
 (cond (Nat.beq mi 90) (1) (0))
 (cond (Nat.beq mi 91) (1) (0)))
 (cond (Nat.blt mi 93)
 (cond (Nat.beq mi 92) (1) (0))
 (cond (Nat.blt mi 94)
 (cond (Nat.beq mi 93) (0) (0))
 (cond (Nat.beq mi 94) (1) (0))))))
 (cond (Nat.blt mi 100)
 (cond (Nat.blt mi 97)
 (cond (Nat.blt mi 96)
 (cond (Nat.beq mi 95) (1) (0))
 (cond (Nat.beq mi 96) (1) (0)))
 (cond (Nat.blt mi 98)
 (cond (Nat.beq mi 97) (0) (0))
 (cond (Nat.blt mi 99)
 (cond (Nat.beq mi 98) (0) (0))
 (cond (Nat.beq mi 99) (0) (0)))))
 (cond (Nat.blt mi 103)
 (cond (Nat.blt mi 101)
 (cond (Nat.beq mi 100) (4) (0))
 (cond (Nat.blt mi 102)
 (cond (Nat.beq mi 101) (2) (0))
 (cond (Nat.beq mi 102) (3) (0))))
 (cond (Nat.blt mi 104)
 (cond (Nat.beq mi 103) (0) (0))
 (cond (Nat.blt mi 105)
 (cond (Nat.beq mi 104) (3) (0))
 (cond (Nat.beq mi 105) (1) (0)))))))
 (cond (Nat.blt mi 117)
 (cond (Nat.blt mi 111)
 (cond (Nat.blt mi 108)
 (cond (Nat.blt mi 107)
 (cond (Nat.beq mi 106) (1) (0))
 (cond (Nat.beq mi 107) (1) (0)))
 (cond (Nat.blt mi 109)
 (cond (Nat.beq mi 108) (1) (0))
 (cond (Nat.blt mi 110)
 (cond (Nat.beq mi 109) (0) (0))
 (cond (Nat.beq mi 110) (1) (0)))))
 (cond (Nat.blt mi 114)
 (cond (Nat.blt mi 112)
 (cond (Nat.beq mi 111) (1) (0))
 (cond (Nat.blt mi 113)
 (cond (Nat.beq mi 112) (1) (0))
 (cond (Nat.beq mi 113) (0) (0))))
 (cond (Nat.blt mi 115)
 (cond (Nat.beq mi 114) (2) (0))
 (cond (Nat.blt mi 116)
 (cond (Nat.beq mi 115) (0) (0))
 (cond (Nat.beq mi 116) (0) (0))))))
 (cond (Nat.blt mi 122)
 (cond (Nat.blt mi 119)
 (cond (Nat.blt mi 118)
 (cond (Nat.beq mi 117) (0) (0))
 (cond (Nat.beq mi 118) (3) (0)))
 (cond (Nat.blt mi 120)
 (cond (Nat.beq mi 119) (0) (0))
 (cond (Nat.blt mi 121)
 (cond (Nat.beq mi 120) (1) (0))
 (cond (Nat.beq mi 121) (0) (0)))))
 (cond (Nat.blt mi 125)
 (cond (Nat.blt mi 123)
 (cond (Nat.beq mi 122) (0) (0))
 (cond (Nat.blt mi 124)
 (cond (Nat.beq mi 123) (0) (0))
 (cond (Nat.beq mi 124) (0) (0))))
 (cond (Nat.blt mi 126)
 (cond (Nat.beq mi 125) (0) (0))
 (cond (Nat.blt mi 127)
 (cond (Nat.beq mi 126) (2) (0))
 (cond (Nat.beq mi 127) (2) (0))))))))
 (cond (Nat.blt mi 149)
 (cond (Nat.blt mi 138)
 (cond (Nat.blt mi 133)
 (cond (Nat.blt mi 130)
 (cond (Nat.blt mi 129)
 (cond (Nat.beq mi 128) (2) (0))
 (cond (Nat.beq mi 129) (1) (0)))
 (cond (Nat.blt mi 131)
 (cond (Nat.beq mi 130) (1) (0))
 (cond (Nat.blt mi 132)
 (cond (Nat.beq mi 131) (1) (0))
 (cond (Nat.beq mi 132) (2) (0)))))
 (cond (Nat.blt mi 135)
 (cond (Nat.blt mi 134)
 (cond (Nat.beq mi 133) (1) (0))
 (cond (Nat.beq mi 134) (1) (0)))
 (cond (Nat.blt mi 136)
 (cond (Nat.beq mi 135) (2) (0))
 (cond (Nat.blt mi 137)
 (cond (Nat.beq mi 136) (0) (0))
 (cond (Nat.beq mi 137) (6) (0))))))
 (cond (Nat.blt mi 143)
 (cond (Nat.blt mi 140)
 (cond (Nat.blt mi 139)
 (cond (Nat.beq mi 138) (4) (0))
 (cond (Nat.beq mi 139) (2) (0)))
 (cond (Nat.blt mi 141)
 (cond (Nat.beq mi 140) (0) (0))
 (cond (Nat.blt mi 142)
 (cond (Nat.beq mi 141) (2) (0))
 (cond (Nat.beq mi 142) (1) (0)))))
 (cond (Nat.blt mi 146)
 (cond (Nat.blt mi 144)
 (cond (Nat.beq mi 143) (0) (0))
 (cond (Nat.blt mi 145)
 (cond (Nat.beq mi 144) (1) (0))
 (cond (Nat.beq mi 145) (0) (0))))
 (cond (Nat.blt mi 147)
 (cond (Nat.beq mi 146) (2) (0))
 (cond (Nat.blt mi 148)
 (cond (Nat.beq mi 147) (0) (0))
 (cond (Nat.beq mi 148) (1) (0)))))))
 (cond (Nat.blt mi 160)
 (cond (Nat.blt mi 154)
 (cond (Nat.blt mi 151)
 (cond (Nat.blt mi 150)
 (cond (Nat.beq mi 149) (1) (0))
 (cond (Nat.beq mi 150) (0) (0)))
 (cond (Nat.blt mi 152)
 (cond (Nat.beq mi 151) (1) (0))
 (cond (Nat.blt mi 153)
 (cond (Nat.beq mi 152) (3) (0))
 (cond (Nat.beq mi 153) (3) (0)))))
 (cond (Nat.blt mi 157)
 (cond (Nat.blt mi 155)
 (cond (Nat.beq mi 154) (2) (0))
 (cond (Nat.blt mi 156)
 (cond (Nat.beq mi 155) (0) (0))
 (cond (Nat.beq mi 156) (2) (0))))
 (cond (Nat.blt mi 158)
 (cond (Nat.beq mi 157) (0) (0))
 (cond (Nat.blt mi 159)
 (cond (Nat.beq mi 158) (1) (0))
 (cond (Nat.beq mi 159) (0) (0))))))
 (cond (Nat.blt mi 165)
 (cond (Nat.blt mi 162)
 (cond (Nat.blt mi 161)
 (cond (Nat.beq mi 160) (1) (0))
 (cond (Nat.beq mi 161) (1) (0)))
 (cond (Nat.blt mi 163)
 (cond (Nat.beq mi 162) (2) (0))
 (cond (Nat.blt mi 164)
 (cond (Nat.beq mi 163) (2) (0))
 (cond (Nat.beq mi 164) (1) (0)))))
 (cond (Nat.blt mi 168)
 (cond (Nat.blt mi 166)
 (cond (Nat.beq mi 165) (1) (0))
 (cond (Nat.blt mi 167)
 (cond (Nat.beq mi 166) (1) (0))
 (cond (Nat.beq mi 167) (0) (0))))
 (cond (Nat.blt mi 169)
 (cond (Nat.beq mi 168) (1) (0))
 (cond (Nat.blt mi 170)
 (cond (Nat.beq mi 169) (2) (0))
 (cond (Nat.beq mi 170) (1) (0)))))))))
def q_ml (mi : Nat) : Nat := cond (Nat.blt mi 85)
 (cond (Nat.blt mi 42)
 (cond (Nat.blt mi 21)
 (cond (Nat.blt mi 10)
 (cond (Nat.blt mi 5)
 (cond (Nat.blt mi 2)
 (cond (Nat.blt mi 1)
 (cond (Nat.beq mi 0) (1) (0))
 (cond (Nat.beq mi 1) (6) (0)))
 (cond (Nat.blt mi 3)
 (cond (Nat.beq mi 2) (5) (0))
 (cond (Nat.blt mi 4)
 (cond (Nat.beq mi 3) (1) (0))
 (cond (Nat.beq mi 4) (4) (0)))))
 (cond (Nat.blt mi 7)
 (cond (Nat.blt mi 6)
 (cond (Nat.beq mi 5) (4) (0))
 (cond (Nat.beq mi 6) (5) (0)))
 (cond (Nat.blt mi 8)
 (cond (Nat.beq mi 7) (1) (0))
 (cond (Nat.blt mi 9)
 (cond (Nat.beq mi 8) (1) (0))
 (cond (Nat.beq mi 9) (3) (0))))))
 (cond (Nat.blt mi 15)
 (cond (Nat.blt mi 12)
 (cond (Nat.blt mi 11)
 (cond (Nat.beq mi 10) (3) (0))
 (cond (Nat.beq mi 11) (3) (0)))
 (cond (Nat.blt mi 13)
 (cond (Nat.beq mi 12) (1) (0))
 (cond (Nat.blt mi 14)
 (cond (Nat.beq mi 13) (1) (0))
 (cond (Nat.beq mi 14) (2) (0)))))
 (cond (Nat.blt mi 18)
 (cond (Nat.blt mi 16)
 (cond (Nat.beq mi 15) (2) (0))
 (cond (Nat.blt mi 17)
 (cond (Nat.beq mi 16) (2) (0))
 (cond (Nat.beq mi 17) (2) (0))))
 (cond (Nat.blt mi 19)
 (cond (Nat.beq mi 18) (3) (0))
 (cond (Nat.blt mi 20)
 (cond (Nat.beq mi 19) (4) (0))
 (cond (Nat.beq mi 20) (3) (0)))))))
 (cond (Nat.blt mi 31)
 (cond (Nat.blt mi 26)
 (cond (Nat.blt mi 23)
 (cond (Nat.blt mi 22)
 (cond (Nat.beq mi 21) (4) (0))
 (cond (Nat.beq mi 22) (5) (0)))
 (cond (Nat.blt mi 24)
 (cond (Nat.beq mi 23) (4) (0))
 (cond (Nat.blt mi 25)
 (cond (Nat.beq mi 24) (7) (0))
 (cond (Nat.beq mi 25) (7) (0)))))
 (cond (Nat.blt mi 28)
 (cond (Nat.blt mi 27)
 (cond (Nat.beq mi 26) (1) (0))
 (cond (Nat.beq mi 27) (1) (0)))
 (cond (Nat.blt mi 29)
 (cond (Nat.beq mi 28) (2) (0))
 (cond (Nat.blt mi 30)
 (cond (Nat.beq mi 29) (5) (0))
 (cond (Nat.beq mi 30) (1) (0))))))
 (cond (Nat.blt mi 36)
 (cond (Nat.blt mi 33)
 (cond (Nat.blt mi 32)
 (cond (Nat.beq mi 31) (7) (0))
 (cond (Nat.beq mi 32) (6) (0)))
 (cond (Nat.blt mi 34)
 (cond (Nat.beq mi 33) (3) (0))
 (cond (Nat.blt mi 35)
 (cond (Nat.beq mi 34) (4) (0))
 (cond (Nat.beq mi 35) (1) (0)))))
 (cond (Nat.blt mi 39)
 (cond (Nat.blt mi 37)
 (cond (Nat.beq mi 36) (2) (0))
 (cond (Nat.blt mi 38)
 (cond (Nat.beq mi 37) (3) (0))
 (cond (Nat.beq mi 38) (3) (0))))
 (cond (Nat.blt mi 40)
 (cond (Nat.beq mi 39) (1) (0))
 (cond (Nat.blt mi 41)
 (cond (Nat.beq mi 40) (2) (0))
 (cond (Nat.beq mi 41) (4) (0))))))))
 (cond (Nat.blt mi 63)
 (cond (Nat.blt mi 52)
 (cond (Nat.blt mi 47)
 (cond (Nat.blt mi 44)
 (cond (Nat.blt mi 43)
 (cond (Nat.beq mi 42) (3) (0))
 (cond (Nat.beq mi 43) (2) (0)))
 (cond (Nat.blt mi 45)
 (cond (Nat.beq mi 44) (3) (0))
 (cond (Nat.blt mi 46)
 (cond (Nat.beq mi 45) (1) (0))
 (cond (Nat.beq mi 46) (2) (0)))))
 (cond (Nat.blt mi 49)
 (cond (Nat.blt mi 48)
 (cond (Nat.beq mi 47) (3) (0))
 (cond (Nat.beq mi 48) (4) (0)))
 (cond (Nat.blt mi 50)
 (cond (Nat.beq mi 49) (1) (0))
 (cond (Nat.blt mi 51)
 (cond (Nat.beq mi 50) (3) (0))
 (cond (Nat.beq mi 51) (2) (0))))))
 (cond (Nat.blt mi 57)
 (cond (Nat.blt mi 54)
 (cond (Nat.blt mi 53)
 (cond (Nat.beq mi 52) (1) (0))
 (cond (Nat.beq mi 53) (2) (0)))
 (cond (Nat.blt mi 55)
 (cond (Nat.beq mi 54) (1) (0))
 (cond (Nat.blt mi 56)
 (cond (Nat.beq mi 55) (4) (0))
 (cond (Nat.beq mi 56) (8) (0)))))
 (cond (Nat.blt mi 60)
 (cond (Nat.blt mi 58)
 (cond (Nat.beq mi 57) (1) (0))
 (cond (Nat.blt mi 59)
 (cond (Nat.beq mi 58) (2) (0))
 (cond (Nat.beq mi 59) (2) (0))))
 (cond (Nat.blt mi 61)
 (cond (Nat.beq mi 60) (7) (0))
 (cond (Nat.blt mi 62)
 (cond (Nat.beq mi 61) (3) (0))
 (cond (Nat.beq mi 62) (1) (0)))))))
 (cond (Nat.blt mi 74)
 (cond (Nat.blt mi 68)
 (cond (Nat.blt mi 65)
 (cond (Nat.blt mi 64)
 (cond (Nat.beq mi 63) (4) (0))
 (cond (Nat.beq mi 64) (5) (0)))
 (cond (Nat.blt mi 66)
 (cond (Nat.beq mi 65) (1) (0))
 (cond (Nat.blt mi 67)
 (cond (Nat.beq mi 66) (1) (0))
 (cond (Nat.beq mi 67) (2) (0)))))
 (cond (Nat.blt mi 71)
 (cond (Nat.blt mi 69)
 (cond (Nat.beq mi 68) (2) (0))
 (cond (Nat.blt mi 70)
 (cond (Nat.beq mi 69) (2) (0))
 (cond (Nat.beq mi 70) (3) (0))))
 (cond (Nat.blt mi 72)
 (cond (Nat.beq mi 71) (3) (0))
 (cond (Nat.blt mi 73)
 (cond (Nat.beq mi 72) (2) (0))
 (cond (Nat.beq mi 73) (2) (0))))))
 (cond (Nat.blt mi 79)
 (cond (Nat.blt mi 76)
 (cond (Nat.blt mi 75)
 (cond (Nat.beq mi 74) (3) (0))
 (cond (Nat.beq mi 75) (5) (0)))
 (cond (Nat.blt mi 77)
 (cond (Nat.beq mi 76) (3) (0))
 (cond (Nat.blt mi 78)
 (cond (Nat.beq mi 77) (1) (0))
 (cond (Nat.beq mi 78) (3) (0)))))
 (cond (Nat.blt mi 82)
 (cond (Nat.blt mi 80)
 (cond (Nat.beq mi 79) (2) (0))
 (cond (Nat.blt mi 81)
 (cond (Nat.beq mi 80) (1) (0))
 (cond (Nat.beq mi 81) (2) (0))))
 (cond (Nat.blt mi 83)
 (cond (Nat.beq mi 82) (4) (0))
 (cond (Nat.blt mi 84)
 (cond (Nat.beq mi 83) (4) (0))
 (cond (Nat.beq mi 84) (3) (0)))))))))
 (cond (Nat.blt mi 128)
 (cond (Nat.blt mi 106)
 (cond (Nat.blt mi 95)
 (cond (Nat.blt mi 90)
 (cond (Nat.blt mi 87)
 (cond (Nat.blt mi 86)
 (cond (Nat.beq mi 85) (1) (0))
 (cond (Nat.beq mi 86) (2) (0)))
 (cond (Nat.blt mi 88)
 (cond (Nat.beq mi 87) (5) (0))
 (cond (Nat.blt mi 89)
 (cond (Nat.beq mi 88) (8) (0))
 (cond (Nat.beq mi 89) (3) (0)))))
 (cond (Nat.blt mi 92)
 (cond (Nat.blt mi 91)
 (cond (Nat.beq mi 90) (3) (0))
 (cond (Nat.beq mi 91) (3) (0)))
 (cond (Nat.blt mi 93)
 (cond (Nat.beq mi 92) (2) (0))
 (cond (Nat.blt mi 94)
 (cond (Nat.beq mi 93) (1) (0))
 (cond (Nat.beq mi 94) (2) (0))))))
 (cond (Nat.blt mi 100)
 (cond (Nat.blt mi 97)
 (cond (Nat.blt mi 96)
 (cond (Nat.beq mi 95) (2) (0))
 (cond (Nat.beq mi 96) (3) (0)))
 (cond (Nat.blt mi 98)
 (cond (Nat.beq mi 97) (2) (0))
 (cond (Nat.blt mi 99)
 (cond (Nat.beq mi 98) (2) (0))
 (cond (Nat.beq mi 99) (3) (0)))))
 (cond (Nat.blt mi 103)
 (cond (Nat.blt mi 101)
 (cond (Nat.beq mi 100) (6) (0))
 (cond (Nat.blt mi 102)
 (cond (Nat.beq mi 101) (3) (0))
 (cond (Nat.beq mi 102) (5) (0))))
 (cond (Nat.blt mi 104)
 (cond (Nat.beq mi 103) (1) (0))
 (cond (Nat.blt mi 105)
 (cond (Nat.beq mi 104) (3) (0))
 (cond (Nat.beq mi 105) (2) (0)))))))
 (cond (Nat.blt mi 117)
 (cond (Nat.blt mi 111)
 (cond (Nat.blt mi 108)
 (cond (Nat.blt mi 107)
 (cond (Nat.beq mi 106) (2) (0))
 (cond (Nat.beq mi 107) (2) (0)))
 (cond (Nat.blt mi 109)
 (cond (Nat.beq mi 108) (2) (0))
 (cond (Nat.blt mi 110)
 (cond (Nat.beq mi 109) (2) (0))
 (cond (Nat.beq mi 110) (2) (0)))))
 (cond (Nat.blt mi 114)
 (cond (Nat.blt mi 112)
 (cond (Nat.beq mi 111) (1) (0))
 (cond (Nat.blt mi 113)
 (cond (Nat.beq mi 112) (1) (0))
 (cond (Nat.beq mi 113) (3) (0))))
 (cond (Nat.blt mi 115)
 (cond (Nat.beq mi 114) (3) (0))
 (cond (Nat.blt mi 116)
 (cond (Nat.beq mi 115) (2) (0))
 (cond (Nat.beq mi 116) (2) (0))))))
 (cond (Nat.blt mi 122)
 (cond (Nat.blt mi 119)
 (cond (Nat.blt mi 118)
 (cond (Nat.beq mi 117) (2) (0))
 (cond (Nat.beq mi 118) (4) (0)))
 (cond (Nat.blt mi 120)
 (cond (Nat.beq mi 119) (1) (0))
 (cond (Nat.blt mi 121)
 (cond (Nat.beq mi 120) (3) (0))
 (cond (Nat.beq mi 121) (2) (0)))))
 (cond (Nat.blt mi 125)
 (cond (Nat.blt mi 123)
 (cond (Nat.beq mi 122) (2) (0))
 (cond (Nat.blt mi 124)
 (cond (Nat.beq mi 123) (2) (0))
 (cond (Nat.beq mi 124) (6) (0))))
 (cond (Nat.blt mi 126)
 (cond (Nat.beq mi 125) (1) (0))
 (cond (Nat.blt mi 127)
 (cond (Nat.beq mi 126) (3) (0))
 (cond (Nat.beq mi 127) (4) (0))))))))
 (cond (Nat.blt mi 149)
 (cond (Nat.blt mi 138)
 (cond (Nat.blt mi 133)
 (cond (Nat.blt mi 130)
 (cond (Nat.blt mi 129)
 (cond (Nat.beq mi 128) (3) (0))
 (cond (Nat.beq mi 129) (2) (0)))
 (cond (Nat.blt mi 131)
 (cond (Nat.beq mi 130) (2) (0))
 (cond (Nat.blt mi 132)
 (cond (Nat.beq mi 131) (4) (0))
 (cond (Nat.beq mi 132) (6) (0)))))
 (cond (Nat.blt mi 135)
 (cond (Nat.blt mi 134)
 (cond (Nat.beq mi 133) (2) (0))
 (cond (Nat.beq mi 134) (3) (0)))
 (cond (Nat.blt mi 136)
 (cond (Nat.beq mi 135) (3) (0))
 (cond (Nat.blt mi 137)
 (cond (Nat.beq mi 136) (2) (0))
 (cond (Nat.beq mi 137) (8) (0))))))
 (cond (Nat.blt mi 143)
 (cond (Nat.blt mi 140)
 (cond (Nat.blt mi 139)
 (cond (Nat.beq mi 138) (7) (0))
 (cond (Nat.beq mi 139) (3) (0)))
 (cond (Nat.blt mi 141)
 (cond (Nat.beq mi 140) (2) (0))
 (cond (Nat.blt mi 142)
 (cond (Nat.beq mi 141) (3) (0))
 (cond (Nat.beq mi 142) (3) (0)))))
 (cond (Nat.blt mi 146)
 (cond (Nat.blt mi 144)
 (cond (Nat.beq mi 143) (3) (0))
 (cond (Nat.blt mi 145)
 (cond (Nat.beq mi 144) (5) (0))
 (cond (Nat.beq mi 145) (2) (0))))
 (cond (Nat.blt mi 147)
 (cond (Nat.beq mi 146) (4) (0))
 (cond (Nat.blt mi 148)
 (cond (Nat.beq mi 147) (3) (0))
 (cond (Nat.beq mi 148) (3) (0)))))))
 (cond (Nat.blt mi 160)
 (cond (Nat.blt mi 154)
 (cond (Nat.blt mi 151)
 (cond (Nat.blt mi 150)
 (cond (Nat.beq mi 149) (5) (0))
 (cond (Nat.beq mi 150) (2) (0)))
 (cond (Nat.blt mi 152)
 (cond (Nat.beq mi 151) (3) (0))
 (cond (Nat.blt mi 153)
 (cond (Nat.beq mi 152) (7) (0))
 (cond (Nat.beq mi 153) (10) (0)))))
 (cond (Nat.blt mi 157)
 (cond (Nat.blt mi 155)
 (cond (Nat.beq mi 154) (4) (0))
 (cond (Nat.blt mi 156)
 (cond (Nat.beq mi 155) (3) (0))
 (cond (Nat.beq mi 156) (8) (0))))
 (cond (Nat.blt mi 158)
 (cond (Nat.beq mi 157) (4) (0))
 (cond (Nat.blt mi 159)
 (cond (Nat.beq mi 158) (4) (0))
 (cond (Nat.beq mi 159) (1) (0))))))
 (cond (Nat.blt mi 165)
 (cond (Nat.blt mi 162)
 (cond (Nat.blt mi 161)
 (cond (Nat.beq mi 160) (4) (0))
 (cond (Nat.beq mi 161) (9) (0)))
 (cond (Nat.blt mi 163)
 (cond (Nat.beq mi 162) (13) (0))
 (cond (Nat.blt mi 164)
 (cond (Nat.beq mi 163) (7) (0))
 (cond (Nat.beq mi 164) (3) (0)))))
 (cond (Nat.blt mi 168)
 (cond (Nat.blt mi 166)
 (cond (Nat.beq mi 165) (3) (0))
 (cond (Nat.blt mi 167)
 (cond (Nat.beq mi 166) (2) (0))
 (cond (Nat.beq mi 167) (1) (0))))
 (cond (Nat.blt mi 169)
 (cond (Nat.beq mi 168) (1) (0))
 (cond (Nat.blt mi 170)
 (cond (Nat.beq mi 169) (4) (0))
 (cond (Nat.beq mi 170) (4) (0)))))))))
def q_rc (mi : Nat) : Nat := cond (Nat.blt mi 85)
 (cond (Nat.blt mi 42)
 (cond (Nat.blt mi 21)
 (cond (Nat.blt mi 10)
 (cond (Nat.blt mi 5)
 (cond (Nat.blt mi 2)
 (cond (Nat.blt mi 1)
 (cond (Nat.beq mi 0) (0) (0))
 (cond (Nat.beq mi 1) (0) (0)))
 (cond (Nat.blt mi 3)
 (cond (Nat.beq mi 2) (0) (0))
 (cond (Nat.blt mi 4)
 (cond (Nat.beq mi 3) (0) (0))
 (cond (Nat.beq mi 4) (0) (0)))))
 (cond (Nat.blt mi 7)
 (cond (Nat.blt mi 6)
 (cond (Nat.beq mi 5) (0) (0))
 (cond (Nat.beq mi 6) (0) (0)))
 (cond (Nat.blt mi 8)
 (cond (Nat.beq mi 7) (1) (0))
 (cond (Nat.blt mi 9)
 (cond (Nat.beq mi 8) (1) (0))
 (cond (Nat.beq mi 9) (1) (0))))))
 (cond (Nat.blt mi 15)
 (cond (Nat.blt mi 12)
 (cond (Nat.blt mi 11)
 (cond (Nat.beq mi 10) (1) (0))
 (cond (Nat.beq mi 11) (1) (0)))
 (cond (Nat.blt mi 13)
 (cond (Nat.beq mi 12) (2) (0))
 (cond (Nat.blt mi 14)
 (cond (Nat.beq mi 13) (2) (0))
 (cond (Nat.beq mi 14) (2) (0)))))
 (cond (Nat.blt mi 18)
 (cond (Nat.blt mi 16)
 (cond (Nat.beq mi 15) (2) (0))
 (cond (Nat.blt mi 17)
 (cond (Nat.beq mi 16) (2) (0))
 (cond (Nat.beq mi 17) (2) (0))))
 (cond (Nat.blt mi 19)
 (cond (Nat.beq mi 18) (2) (0))
 (cond (Nat.blt mi 20)
 (cond (Nat.beq mi 19) (2) (0))
 (cond (Nat.beq mi 20) (2) (0)))))))
 (cond (Nat.blt mi 31)
 (cond (Nat.blt mi 26)
 (cond (Nat.blt mi 23)
 (cond (Nat.blt mi 22)
 (cond (Nat.beq mi 21) (2) (0))
 (cond (Nat.beq mi 22) (2) (0)))
 (cond (Nat.blt mi 24)
 (cond (Nat.beq mi 23) (2) (0))
 (cond (Nat.blt mi 25)
 (cond (Nat.beq mi 24) (2) (0))
 (cond (Nat.beq mi 25) (2) (0)))))
 (cond (Nat.blt mi 28)
 (cond (Nat.blt mi 27)
 (cond (Nat.beq mi 26) (3) (0))
 (cond (Nat.beq mi 27) (3) (0)))
 (cond (Nat.blt mi 29)
 (cond (Nat.beq mi 28) (3) (0))
 (cond (Nat.blt mi 30)
 (cond (Nat.beq mi 29) (3) (0))
 (cond (Nat.beq mi 30) (3) (0))))))
 (cond (Nat.blt mi 36)
 (cond (Nat.blt mi 33)
 (cond (Nat.blt mi 32)
 (cond (Nat.beq mi 31) (3) (0))
 (cond (Nat.beq mi 32) (3) (0)))
 (cond (Nat.blt mi 34)
 (cond (Nat.beq mi 33) (3) (0))
 (cond (Nat.blt mi 35)
 (cond (Nat.beq mi 34) (3) (0))
 (cond (Nat.beq mi 35) (4) (0)))))
 (cond (Nat.blt mi 39)
 (cond (Nat.blt mi 37)
 (cond (Nat.beq mi 36) (4) (0))
 (cond (Nat.blt mi 38)
 (cond (Nat.beq mi 37) (4) (0))
 (cond (Nat.beq mi 38) (4) (0))))
 (cond (Nat.blt mi 40)
 (cond (Nat.beq mi 39) (4) (0))
 (cond (Nat.blt mi 41)
 (cond (Nat.beq mi 40) (4) (0))
 (cond (Nat.beq mi 41) (4) (0))))))))
 (cond (Nat.blt mi 63)
 (cond (Nat.blt mi 52)
 (cond (Nat.blt mi 47)
 (cond (Nat.blt mi 44)
 (cond (Nat.blt mi 43)
 (cond (Nat.beq mi 42) (4) (0))
 (cond (Nat.beq mi 43) (4) (0)))
 (cond (Nat.blt mi 45)
 (cond (Nat.beq mi 44) (4) (0))
 (cond (Nat.blt mi 46)
 (cond (Nat.beq mi 45) (4) (0))
 (cond (Nat.beq mi 46) (4) (0)))))
 (cond (Nat.blt mi 49)
 (cond (Nat.blt mi 48)
 (cond (Nat.beq mi 47) (4) (0))
 (cond (Nat.beq mi 48) (4) (0)))
 (cond (Nat.blt mi 50)
 (cond (Nat.beq mi 49) (4) (0))
 (cond (Nat.blt mi 51)
 (cond (Nat.beq mi 50) (4) (0))
 (cond (Nat.beq mi 51) (4) (0))))))
 (cond (Nat.blt mi 57)
 (cond (Nat.blt mi 54)
 (cond (Nat.blt mi 53)
 (cond (Nat.beq mi 52) (5) (0))
 (cond (Nat.beq mi 53) (5) (0)))
 (cond (Nat.blt mi 55)
 (cond (Nat.beq mi 54) (5) (0))
 (cond (Nat.blt mi 56)
 (cond (Nat.beq mi 55) (5) (0))
 (cond (Nat.beq mi 56) (5) (0)))))
 (cond (Nat.blt mi 60)
 (cond (Nat.blt mi 58)
 (cond (Nat.beq mi 57) (5) (0))
 (cond (Nat.blt mi 59)
 (cond (Nat.beq mi 58) (5) (0))
 (cond (Nat.beq mi 59) (5) (0))))
 (cond (Nat.blt mi 61)
 (cond (Nat.beq mi 60) (5) (0))
 (cond (Nat.blt mi 62)
 (cond (Nat.beq mi 61) (5) (0))
 (cond (Nat.beq mi 62) (6) (0)))))))
 (cond (Nat.blt mi 74)
 (cond (Nat.blt mi 68)
 (cond (Nat.blt mi 65)
 (cond (Nat.blt mi 64)
 (cond (Nat.beq mi 63) (6) (0))
 (cond (Nat.beq mi 64) (6) (0)))
 (cond (Nat.blt mi 66)
 (cond (Nat.beq mi 65) (6) (0))
 (cond (Nat.blt mi 67)
 (cond (Nat.beq mi 66) (7) (0))
 (cond (Nat.beq mi 67) (7) (0)))))
 (cond (Nat.blt mi 71)
 (cond (Nat.blt mi 69)
 (cond (Nat.beq mi 68) (7) (0))
 (cond (Nat.blt mi 70)
 (cond (Nat.beq mi 69) (7) (0))
 (cond (Nat.beq mi 70) (7) (0))))
 (cond (Nat.blt mi 72)
 (cond (Nat.beq mi 71) (7) (0))
 (cond (Nat.blt mi 73)
 (cond (Nat.beq mi 72) (7) (0))
 (cond (Nat.beq mi 73) (7) (0))))))
 (cond (Nat.blt mi 79)
 (cond (Nat.blt mi 76)
 (cond (Nat.blt mi 75)
 (cond (Nat.beq mi 74) (7) (0))
 (cond (Nat.beq mi 75) (7) (0)))
 (cond (Nat.blt mi 77)
 (cond (Nat.beq mi 76) (7) (0))
 (cond (Nat.blt mi 78)
 (cond (Nat.beq mi 77) (7) (0))
 (cond (Nat.beq mi 78) (7) (0)))))
 (cond (Nat.blt mi 82)
 (cond (Nat.blt mi 80)
 (cond (Nat.beq mi 79) (7) (0))
 (cond (Nat.blt mi 81)
 (cond (Nat.beq mi 80) (7) (0))
 (cond (Nat.beq mi 81) (7) (0))))
 (cond (Nat.blt mi 83)
 (cond (Nat.beq mi 82) (7) (0))
 (cond (Nat.blt mi 84)
 (cond (Nat.beq mi 83) (7) (0))
 (cond (Nat.beq mi 84) (7) (0)))))))))
 (cond (Nat.blt mi 128)
 (cond (Nat.blt mi 106)
 (cond (Nat.blt mi 95)
 (cond (Nat.blt mi 90)
 (cond (Nat.blt mi 87)
 (cond (Nat.blt mi 86)
 (cond (Nat.beq mi 85) (7) (0))
 (cond (Nat.beq mi 86) (7) (0)))
 (cond (Nat.blt mi 88)
 (cond (Nat.beq mi 87) (7) (0))
 (cond (Nat.blt mi 89)
 (cond (Nat.beq mi 88) (7) (0))
 (cond (Nat.beq mi 89) (7) (0)))))
 (cond (Nat.blt mi 92)
 (cond (Nat.blt mi 91)
 (cond (Nat.beq mi 90) (7) (0))
 (cond (Nat.beq mi 91) (7) (0)))
 (cond (Nat.blt mi 93)
 (cond (Nat.beq mi 92) (7) (0))
 (cond (Nat.blt mi 94)
 (cond (Nat.beq mi 93) (7) (0))
 (cond (Nat.beq mi 94) (7) (0))))))
 (cond (Nat.blt mi 100)
 (cond (Nat.blt mi 97)
 (cond (Nat.blt mi 96)
 (cond (Nat.beq mi 95) (7) (0))
 (cond (Nat.beq mi 96) (7) (0)))
 (cond (Nat.blt mi 98)
 (cond (Nat.beq mi 97) (7) (0))
 (cond (Nat.blt mi 99)
 (cond (Nat.beq mi 98) (7) (0))
 (cond (Nat.beq mi 99) (7) (0)))))
 (cond (Nat.blt mi 103)
 (cond (Nat.blt mi 101)
 (cond (Nat.beq mi 100) (7) (0))
 (cond (Nat.blt mi 102)
 (cond (Nat.beq mi 101) (7) (0))
 (cond (Nat.beq mi 102) (7) (0))))
 (cond (Nat.blt mi 104)
 (cond (Nat.beq mi 103) (8) (0))
 (cond (Nat.blt mi 105)
 (cond (Nat.beq mi 104) (8) (0))
 (cond (Nat.beq mi 105) (8) (0)))))))
 (cond (Nat.blt mi 117)
 (cond (Nat.blt mi 111)
 (cond (Nat.blt mi 108)
 (cond (Nat.blt mi 107)
 (cond (Nat.beq mi 106) (8) (0))
 (cond (Nat.beq mi 107) (8) (0)))
 (cond (Nat.blt mi 109)
 (cond (Nat.beq mi 108) (8) (0))
 (cond (Nat.blt mi 110)
 (cond (Nat.beq mi 109) (8) (0))
 (cond (Nat.beq mi 110) (8) (0)))))
 (cond (Nat.blt mi 114)
 (cond (Nat.blt mi 112)
 (cond (Nat.beq mi 111) (8) (0))
 (cond (Nat.blt mi 113)
 (cond (Nat.beq mi 112) (8) (0))
 (cond (Nat.beq mi 113) (8) (0))))
 (cond (Nat.blt mi 115)
 (cond (Nat.beq mi 114) (8) (0))
 (cond (Nat.blt mi 116)
 (cond (Nat.beq mi 115) (8) (0))
 (cond (Nat.beq mi 116) (8) (0))))))
 (cond (Nat.blt mi 122)
 (cond (Nat.blt mi 119)
 (cond (Nat.blt mi 118)
 (cond (Nat.beq mi 117) (8) (0))
 (cond (Nat.beq mi 118) (8) (0)))
 (cond (Nat.blt mi 120)
 (cond (Nat.beq mi 119) (8) (0))
 (cond (Nat.blt mi 121)
 (cond (Nat.beq mi 120) (8) (0))
 (cond (Nat.beq mi 121) (8) (0)))))
 (cond (Nat.blt mi 125)
 (cond (Nat.blt mi 123)
 (cond (Nat.beq mi 122) (8) (0))
 (cond (Nat.blt mi 124)
 (cond (Nat.beq mi 123) (8) (0))
 (cond (Nat.beq mi 124) (8) (0))))
 (cond (Nat.blt mi 126)
 (cond (Nat.beq mi 125) (8) (0))
 (cond (Nat.blt mi 127)
 (cond (Nat.beq mi 126) (8) (0))
 (cond (Nat.beq mi 127) (8) (0))))))))
 (cond (Nat.blt mi 149)
 (cond (Nat.blt mi 138)
 (cond (Nat.blt mi 133)
 (cond (Nat.blt mi 130)
 (cond (Nat.blt mi 129)
 (cond (Nat.beq mi 128) (8) (0))
 (cond (Nat.beq mi 129) (8) (0)))
 (cond (Nat.blt mi 131)
 (cond (Nat.beq mi 130) (8) (0))
 (cond (Nat.blt mi 132)
 (cond (Nat.beq mi 131) (8) (0))
 (cond (Nat.beq mi 132) (8) (0)))))
 (cond (Nat.blt mi 135)
 (cond (Nat.blt mi 134)
 (cond (Nat.beq mi 133) (8) (0))
 (cond (Nat.beq mi 134) (8) (0)))
 (cond (Nat.blt mi 136)
 (cond (Nat.beq mi 135) (8) (0))
 (cond (Nat.blt mi 137)
 (cond (Nat.beq mi 136) (8) (0))
 (cond (Nat.beq mi 137) (8) (0))))))
 (cond (Nat.blt mi 143)
 (cond (Nat.blt mi 140)
 (cond (Nat.blt mi 139)
 (cond (Nat.beq mi 138) (8) (0))
 (cond (Nat.beq mi 139) (8) (0)))
 (cond (Nat.blt mi 141)
 (cond (Nat.beq mi 140) (8) (0))
 (cond (Nat.blt mi 142)
 (cond (Nat.beq mi 141) (8) (0))
 (cond (Nat.beq mi 142) (8) (0)))))
 (cond (Nat.blt mi 146)
 (cond (Nat.blt mi 144)
 (cond (Nat.beq mi 143) (8) (0))
 (cond (Nat.blt mi 145)
 (cond (Nat.beq mi 144) (8) (0))
 (cond (Nat.beq mi 145) (8) (0))))
 (cond (Nat.blt mi 147)
 (cond (Nat.beq mi 146) (8) (0))
 (cond (Nat.blt mi 148)
 (cond (Nat.beq mi 147) (8) (0))
 (cond (Nat.beq mi 148) (8) (0)))))))
 (cond (Nat.blt mi 160)
 (cond (Nat.blt mi 154)
 (cond (Nat.blt mi 151)
 (cond (Nat.blt mi 150)
 (cond (Nat.beq mi 149) (8) (0))
 (cond (Nat.beq mi 150) (8) (0)))
 (cond (Nat.blt mi 152)
 (cond (Nat.beq mi 151) (8) (0))
 (cond (Nat.blt mi 153)
 (cond (Nat.beq mi 152) (8) (0))
 (cond (Nat.beq mi 153) (8) (0)))))
 (cond (Nat.blt mi 157)
 (cond (Nat.blt mi 155)
 (cond (Nat.beq mi 154) (8) (0))
 (cond (Nat.blt mi 156)
 (cond (Nat.beq mi 155) (8) (0))
 (cond (Nat.beq mi 156) (8) (0))))
 (cond (Nat.blt mi 158)
 (cond (Nat.beq mi 157) (8) (0))
 (cond (Nat.blt mi 159)
 (cond (Nat.beq mi 158) (8) (0))
 (cond (Nat.beq mi 159) (8) (0))))))
 (cond (Nat.blt mi 165)
 (cond (Nat.blt mi 162)
 (cond (Nat.blt mi 161)
 (cond (Nat.beq mi 160) (8) (0))
 (cond (Nat.beq mi 161) (8) (0)))
 (cond (Nat.blt mi 163)
 (cond (Nat.beq mi 162) (8) (0))
 (cond (Nat.blt mi 164)
 (cond (Nat.beq mi 163) (8) (0))
 (cond (Nat.beq mi 164) (8) (0)))))
 (cond (Nat.blt mi 168)
 (cond (Nat.blt mi 166)
 (cond (Nat.beq mi 165) (8) (0))
 (cond (Nat.blt mi 167)
 (cond (Nat.beq mi 166) (8) (0))
 (cond (Nat.beq mi 167) (8) (0))))
 (cond (Nat.blt mi 169)
 (cond (Nat.beq mi 168) (10) (0))
 (cond (Nat.blt mi 170)
 (cond (Nat.beq mi 169) (11) (0))
 (cond (Nat.beq mi 170) (9) (0)))))))))
-- AlwaysThere$Guess.<init>()V
noncomputable def qc_0 (pc : Nat) : Option (Instr × Nat) := cond (Nat.blt pc 12)
 (cond (Nat.blt pc 5)
 (cond (Nat.blt pc 1)
 (cond (Nat.beq pc 0) (some (.aload 0, 1)) (none))
 (cond (Nat.blt pc 4)
 (cond (Nat.beq pc 1) (some (.invokespecial 901, 3)) (none))
 (cond (Nat.beq pc 4) (some (.aload 0, 1)) (none))))
 (cond (Nat.blt pc 8)
 (cond (Nat.blt pc 6)
 (cond (Nat.beq pc 5) (some (.iconst 5, 1)) (none))
 (cond (Nat.beq pc 6) (some (.newarray .int, 2)) (none)))
 (cond (Nat.blt pc 11)
 (cond (Nat.beq pc 8) (some (.putfield 2, 3)) (none))
 (cond (Nat.beq pc 11) (some (.aload 0, 1)) (none)))))
 (cond (Nat.blt pc 21)
 (cond (Nat.blt pc 17)
 (cond (Nat.blt pc 15)
 (cond (Nat.beq pc 12) (some (.iconst 256, 3)) (none))
 (cond (Nat.beq pc 15) (some (.newarray .boolean, 2)) (none)))
 (cond (Nat.blt pc 20)
 (cond (Nat.beq pc 17) (some (.putfield 3, 3)) (none))
 (cond (Nat.beq pc 20) (some (.aload 0, 1)) (none))))
 (cond (Nat.blt pc 26)
 (cond (Nat.blt pc 24)
 (cond (Nat.beq pc 21) (some (.iconst 256, 3)) (none))
 (cond (Nat.beq pc 24) (some (.newarray .int, 2)) (none)))
 (cond (Nat.blt pc 29)
 (cond (Nat.beq pc 26) (some (.putfield 4, 3)) (none))
 (cond (Nat.beq pc 29) (some (.return_, 1)) (none)))))
-- AlwaysThere$Guess.prepare(LAlwaysThere$Land;LAlwaysThere$Run;[I)V
noncomputable def qc_1 (pc : Nat) : Option (Instr × Nat) := cond (Nat.blt pc 55)
 (cond (Nat.blt pc 25)
 (cond (Nat.blt pc 11)
 (cond (Nat.blt pc 5)
 (cond (Nat.blt pc 1)
 (cond (Nat.beq pc 0) (some (.aload 0, 1)) (none))
 (cond (Nat.blt pc 2)
 (cond (Nat.beq pc 1) (some (.aload 1, 1)) (none))
 (cond (Nat.beq pc 2) (some (.getfield 201, 3)) (none))))
 (cond (Nat.blt pc 9)
 (cond (Nat.blt pc 8)
 (cond (Nat.beq pc 5) (some (.putfield 0, 3)) (none))
 (cond (Nat.beq pc 8) (some (.aload 0, 1)) (none)))
 (cond (Nat.blt pc 10)
 (cond (Nat.beq pc 9) (some (.iconst 1, 1)) (none))
 (cond (Nat.beq pc 10) (some (.aload 2, 1)) (none)))))
 (cond (Nat.blt pc 17)
 (cond (Nat.blt pc 15)
 (cond (Nat.blt pc 14)
 (cond (Nat.beq pc 11) (some (.getfield 500, 3)) (none))
 (cond (Nat.beq pc 14) (some (.ishl, 1)) (none)))
 (cond (Nat.blt pc 16)
 (cond (Nat.beq pc 15) (some (.iconst 1, 1)) (none))
 (cond (Nat.beq pc 16) (some (.isub, 1)) (none))))
 (cond (Nat.blt pc 21)
 (cond (Nat.blt pc 20)
 (cond (Nat.beq pc 17) (some (.putfield 1, 3)) (none))
 (cond (Nat.beq pc 20) (some (.iconst 0, 1)) (none)))
 (cond (Nat.blt pc 23)
 (cond (Nat.beq pc 21) (some (.istore 4, 2)) (none))
 (cond (Nat.beq pc 23) (some (.iload 4, 2)) (none))))))
 (cond (Nat.blt pc 40)
 (cond (Nat.blt pc 33)
 (cond (Nat.blt pc 29)
 (cond (Nat.blt pc 26)
 (cond (Nat.beq pc 25) (some (.aload 0, 1)) (none))
 (cond (Nat.beq pc 26) (some (.getfield 0, 3)) (none)))
 (cond (Nat.blt pc 32)
 (cond (Nat.beq pc 29) (some (.if_icmp .ge 107, 3)) (none))
 (cond (Nat.beq pc 32) (some (.aload 0, 1)) (none))))
 (cond (Nat.blt pc 38)
 (cond (Nat.blt pc 36)
 (cond (Nat.beq pc 33) (some (.getfield 2, 3)) (none))
 (cond (Nat.beq pc 36) (some (.iload 4, 2)) (none)))
 (cond (Nat.blt pc 39)
 (cond (Nat.beq pc 38) (some (.iconst 0, 1)) (none))
 (cond (Nat.beq pc 39) (some (.iastore, 1)) (none)))))
 (cond (Nat.blt pc 46)
 (cond (Nat.blt pc 43)
 (cond (Nat.blt pc 41)
 (cond (Nat.beq pc 40) (some (.iconst 0, 1)) (none))
 (cond (Nat.beq pc 41) (some (.istore 5, 2)) (none)))
 (cond (Nat.blt pc 45)
 (cond (Nat.beq pc 43) (some (.iload 5, 2)) (none))
 (cond (Nat.beq pc 45) (some (.aload 2, 1)) (none))))
 (cond (Nat.blt pc 52)
 (cond (Nat.blt pc 49)
 (cond (Nat.beq pc 46) (some (.getfield 500, 3)) (none))
 (cond (Nat.beq pc 49) (some (.if_icmp .ge 101, 3)) (none)))
 (cond (Nat.blt pc 53)
 (cond (Nat.beq pc 52) (some (.aload 3, 1)) (none))
 (cond (Nat.beq pc 53) (some (.iload 5, 2)) (none)))))))
 (cond (Nat.blt pc 85)
 (cond (Nat.blt pc 68)
 (cond (Nat.blt pc 62)
 (cond (Nat.blt pc 58)
 (cond (Nat.blt pc 56)
 (cond (Nat.beq pc 55) (some (.iaload, 1)) (none))
 (cond (Nat.beq pc 56) (some (.iconst (-9), 2)) (none)))
 (cond (Nat.blt pc 61)
 (cond (Nat.beq pc 58) (some (.if_icmp .eq 81, 3)) (none))
 (cond (Nat.beq pc 61) (some (.aload 1, 1)) (none))))
 (cond (Nat.blt pc 65)
 (cond (Nat.blt pc 64)
 (cond (Nat.beq pc 62) (some (.iload 4, 2)) (none))
 (cond (Nat.beq pc 64) (some (.aload 3, 1)) (none)))
 (cond (Nat.blt pc 67)
 (cond (Nat.beq pc 65) (some (.iload 5, 2)) (none))
 (cond (Nat.beq pc 67) (some (.iaload, 1)) (none)))))
 (cond (Nat.blt pc 75)
 (cond (Nat.blt pc 72)
 (cond (Nat.blt pc 69)
 (cond (Nat.beq pc 68) (some (.aload 2, 1)) (none))
 (cond (Nat.beq pc 69) (some (.getfield 502, 3)) (none)))
 (cond (Nat.blt pc 74)
 (cond (Nat.beq pc 72) (some (.iload 5, 2)) (none))
 (cond (Nat.beq pc 74) (some (.iaload, 1)) (none))))
 (cond (Nat.blt pc 81)
 (cond (Nat.blt pc 78)
 (cond (Nat.beq pc 75) (some (.invokevirtual 25, 3)) (none))
 (cond (Nat.beq pc 78) (some (.ifCond .eq 95, 3)) (none)))
 (cond (Nat.blt pc 82)
 (cond (Nat.beq pc 81) (some (.aload 0, 1)) (none))
 (cond (Nat.beq pc 82) (some (.getfield 2, 3)) (none))))))
 (cond (Nat.blt pc 95)
 (cond (Nat.blt pc 90)
 (cond (Nat.blt pc 88)
 (cond (Nat.blt pc 87)
 (cond (Nat.beq pc 85) (some (.iload 4, 2)) (none))
 (cond (Nat.beq pc 87) (some (.dup2, 1)) (none)))
 (cond (Nat.blt pc 89)
 (cond (Nat.beq pc 88) (some (.iaload, 1)) (none))
 (cond (Nat.beq pc 89) (some (.iconst 1, 1)) (none))))
 (cond (Nat.blt pc 93)
 (cond (Nat.blt pc 92)
 (cond (Nat.beq pc 90) (some (.iload 5, 2)) (none))
 (cond (Nat.beq pc 92) (some (.ishl, 1)) (none)))
 (cond (Nat.blt pc 94)
 (cond (Nat.beq pc 93) (some (.ior, 1)) (none))
 (cond (Nat.beq pc 94) (some (.iastore, 1)) (none)))))
 (cond (Nat.blt pc 107)
 (cond (Nat.blt pc 101)
 (cond (Nat.blt pc 98)
 (cond (Nat.beq pc 95) (some (.iinc 5 1, 3)) (none))
 (cond (Nat.beq pc 98) (some (.goto 43, 3)) (none)))
 (cond (Nat.blt pc 104)
 (cond (Nat.beq pc 101) (some (.iinc 4 1, 3)) (none))
 (cond (Nat.beq pc 104) (some (.goto 23, 3)) (none))))
 (cond (Nat.blt pc 109)
 (cond (Nat.blt pc 108)
 (cond (Nat.beq pc 107) (some (.aload 0, 1)) (none))
 (cond (Nat.beq pc 108) (some (.aload 2, 1)) (none)))
 (cond (Nat.blt pc 112)
 (cond (Nat.beq pc 109) (some (.invokevirtual 2, 3)) (none))
 (cond (Nat.beq pc 112) (some (.return_, 1)) (none)))))))
-- AlwaysThere$Guess.findSetsInTime(LAlwaysThere$Run;)V
noncomputable def qc_2 (pc : Nat) : Option (Instr × Nat) := cond (Nat.blt pc 37)
 (cond (Nat.blt pc 18)
 (cond (Nat.blt pc 8)
 (cond (Nat.blt pc 5)
 (cond (Nat.blt pc 1)
 (cond (Nat.beq pc 0) (some (.aload 0, 1)) (none))
 (cond (Nat.blt pc 4)
 (cond (Nat.beq pc 1) (some (.getfield 3, 3)) (none))
 (cond (Nat.beq pc 4) (some (.iconst 0, 1)) (none))))
 (cond (Nat.blt pc 6)
 (cond (Nat.beq pc 5) (some (.iconst 1, 1)) (none))
 (cond (Nat.blt pc 7)
 (cond (Nat.beq pc 6) (some (.bastore, 1)) (none))
 (cond (Nat.beq pc 7) (some (.iconst 0, 1)) (none)))))
 (cond (Nat.blt pc 11)
 (cond (Nat.blt pc 9)
 (cond (Nat.beq pc 8) (some (.istore 2, 1)) (none))
 (cond (Nat.blt pc 10)
 (cond (Nat.beq pc 9) (some (.iload 2, 1)) (none))
 (cond (Nat.beq pc 10) (some (.aload 1, 1)) (none))))
 (cond (Nat.blt pc 14)
 (cond (Nat.beq pc 11) (some (.getfield 500, 3)) (none))
 (cond (Nat.blt pc 17)
 (cond (Nat.beq pc 14) (some (.if_icmp .ge 80, 3)) (none))
 (cond (Nat.beq pc 17) (some (.iconst 1, 1)) (none))))))
 (cond (Nat.blt pc 26)
 (cond (Nat.blt pc 21)
 (cond (Nat.blt pc 19)
 (cond (Nat.beq pc 18) (some (.iload 2, 1)) (none))
 (cond (Nat.blt pc 20)
 (cond (Nat.beq pc 19) (some (.ishl, 1)) (none))
 (cond (Nat.beq pc 20) (some (.istore 3, 1)) (none))))
 (cond (Nat.blt pc 22)
 (cond (Nat.beq pc 21) (some (.iconst 0, 1)) (none))
 (cond (Nat.blt pc 24)
 (cond (Nat.beq pc 22) (some (.istore 4, 2)) (none))
 (cond (Nat.beq pc 24) (some (.iload 4, 2)) (none)))))
 (cond (Nat.blt pc 31)
 (cond (Nat.blt pc 27)
 (cond (Nat.beq pc 26) (some (.iload 3, 1)) (none))
 (cond (Nat.blt pc 30)
 (cond (Nat.beq pc 27) (some (.if_icmp .ge 74, 3)) (none))
 (cond (Nat.beq pc 30) (some (.aload 0, 1)) (none))))
 (cond (Nat.blt pc 34)
 (cond (Nat.beq pc 31) (some (.getfield 3, 3)) (none))
 (cond (Nat.blt pc 35)
 (cond (Nat.beq pc 34) (some (.iload 3, 1)) (none))
 (cond (Nat.beq pc 35) (some (.iload 4, 2)) (none)))))))
 (cond (Nat.blt pc 57)
 (cond (Nat.blt pc 48)
 (cond (Nat.blt pc 42)
 (cond (Nat.blt pc 38)
 (cond (Nat.beq pc 37) (some (.ior, 1)) (none))
 (cond (Nat.blt pc 39)
 (cond (Nat.beq pc 38) (some (.aload 0, 1)) (none))
 (cond (Nat.beq pc 39) (some (.getfield 3, 3)) (none))))
 (cond (Nat.blt pc 44)
 (cond (Nat.beq pc 42) (some (.iload 4, 2)) (none))
 (cond (Nat.blt pc 45)
 (cond (Nat.beq pc 44) (some (.baload, 1)) (none))
 (cond (Nat.beq pc 45) (some (.ifCond .eq 66, 3)) (none)))))
 (cond (Nat.blt pc 54)
 (cond (Nat.blt pc 50)
 (cond (Nat.beq pc 48) (some (.iload 4, 2)) (none))
 (cond (Nat.blt pc 51)
 (cond (Nat.beq pc 50) (some (.aload 1, 1)) (none))
 (cond (Nat.beq pc 51) (some (.getfield 503, 3)) (none))))
 (cond (Nat.blt pc 55)
 (cond (Nat.beq pc 54) (some (.iload 2, 1)) (none))
 (cond (Nat.blt pc 56)
 (cond (Nat.beq pc 55) (some (.iaload, 1)) (none))
 (cond (Nat.beq pc 56) (some (.iconst (-1), 1)) (none))))))
 (cond (Nat.blt pc 67)
 (cond (Nat.blt pc 62)
 (cond (Nat.blt pc 58)
 (cond (Nat.beq pc 57) (some (.ixor, 1)) (none))
 (cond (Nat.blt pc 59)
 (cond (Nat.beq pc 58) (some (.iand, 1)) (none))
 (cond (Nat.beq pc 59) (some (.ifCond .ne 66, 3)) (none))))
 (cond (Nat.blt pc 63)
 (cond (Nat.beq pc 62) (some (.iconst 1, 1)) (none))
 (cond (Nat.blt pc 66)
 (cond (Nat.beq pc 63) (some (.goto 67, 3)) (none))
 (cond (Nat.beq pc 66) (some (.iconst 0, 1)) (none)))))
 (cond (Nat.blt pc 74)
 (cond (Nat.blt pc 68)
 (cond (Nat.beq pc 67) (some (.bastore, 1)) (none))
 (cond (Nat.blt pc 71)
 (cond (Nat.beq pc 68) (some (.iinc 4 1, 3)) (none))
 (cond (Nat.beq pc 71) (some (.goto 24, 3)) (none))))
 (cond (Nat.blt pc 77)
 (cond (Nat.beq pc 74) (some (.iinc 2 1, 3)) (none))
 (cond (Nat.blt pc 80)
 (cond (Nat.beq pc 77) (some (.goto 9, 3)) (none))
 (cond (Nat.beq pc 80) (some (.return_, 1)) (none)))))))
-- AlwaysThere$Guess.waysInAll()I
noncomputable def qc_3 (pc : Nat) : Option (Instr × Nat) := cond (Nat.blt pc 2)
 (cond (Nat.blt pc 1)
 (cond (Nat.beq pc 0) (some (.aload 0, 1)) (none))
 (cond (Nat.beq pc 1) (some (.iconst 0, 1)) (none)))
 (cond (Nat.blt pc 3)
 (cond (Nat.beq pc 2) (some (.iconst 0, 1)) (none))
 (cond (Nat.blt pc 6)
 (cond (Nat.beq pc 3) (some (.invokevirtual 5, 3)) (none))
 (cond (Nat.beq pc 6) (some (.ireturn, 1)) (none))))
-- AlwaysThere$Guess.alwaysAt(I)I
noncomputable def qc_4 (pc : Nat) : Option (Instr × Nat) := cond (Nat.blt pc 18)
 (cond (Nat.blt pc 7)
 (cond (Nat.blt pc 4)
 (cond (Nat.blt pc 2)
 (cond (Nat.beq pc 0) (some (.iconst (-9), 2)) (none))
 (cond (Nat.blt pc 3)
 (cond (Nat.beq pc 2) (some (.istore 2, 1)) (none))
 (cond (Nat.beq pc 3) (some (.iconst 0, 1)) (none))))
 (cond (Nat.blt pc 5)
 (cond (Nat.beq pc 4) (some (.istore 3, 1)) (none))
 (cond (Nat.blt pc 6)
 (cond (Nat.beq pc 5) (some (.iload 3, 1)) (none))
 (cond (Nat.beq pc 6) (some (.aload 0, 1)) (none)))))
 (cond (Nat.blt pc 14)
 (cond (Nat.blt pc 10)
 (cond (Nat.beq pc 7) (some (.getfield 0, 3)) (none))
 (cond (Nat.blt pc 13)
 (cond (Nat.beq pc 10) (some (.if_icmp .ge 41, 3)) (none))
 (cond (Nat.beq pc 13) (some (.aload 0, 1)) (none))))
 (cond (Nat.blt pc 16)
 (cond (Nat.blt pc 15)
 (cond (Nat.beq pc 14) (some (.iconst 1, 1)) (none))
 (cond (Nat.beq pc 15) (some (.iload 1, 1)) (none)))
 (cond (Nat.blt pc 17)
 (cond (Nat.beq pc 16) (some (.ishl, 1)) (none))
 (cond (Nat.beq pc 17) (some (.iload 3, 1)) (none))))))
 (cond (Nat.blt pc 32)
 (cond (Nat.blt pc 25)
 (cond (Nat.blt pc 21)
 (cond (Nat.beq pc 18) (some (.invokevirtual 5, 3)) (none))
 (cond (Nat.blt pc 24)
 (cond (Nat.beq pc 21) (some (.ifCond .le 35, 3)) (none))
 (cond (Nat.beq pc 24) (some (.iload 2, 1)) (none))))
 (cond (Nat.blt pc 27)
 (cond (Nat.beq pc 25) (some (.iconst (-9), 2)) (none))
 (cond (Nat.blt pc 30)
 (cond (Nat.beq pc 27) (some (.if_icmp .eq 33, 3)) (none))
 (cond (Nat.beq pc 30) (some (.iconst (-5), 2)) (none)))))
 (cond (Nat.blt pc 35)
 (cond (Nat.blt pc 33)
 (cond (Nat.beq pc 32) (some (.ireturn, 1)) (none))
 (cond (Nat.blt pc 34)
 (cond (Nat.beq pc 33) (some (.iload 3, 1)) (none))
 (cond (Nat.beq pc 34) (some (.istore 2, 1)) (none))))
 (cond (Nat.blt pc 41)
 (cond (Nat.blt pc 38)
 (cond (Nat.beq pc 35) (some (.iinc 3 1, 3)) (none))
 (cond (Nat.beq pc 38) (some (.goto 5, 3)) (none)))
 (cond (Nat.blt pc 42)
 (cond (Nat.beq pc 41) (some (.iload 2, 1)) (none))
 (cond (Nat.beq pc 42) (some (.ireturn, 1)) (none))))))
-- AlwaysThere$Guess.waysKeeping(II)I
noncomputable def qc_5 (pc : Nat) : Option (Instr × Nat) := cond (Nat.blt pc 32)
 (cond (Nat.blt pc 16)
 (cond (Nat.blt pc 9)
 (cond (Nat.blt pc 4)
 (cond (Nat.blt pc 1)
 (cond (Nat.beq pc 0) (some (.aload 0, 1)) (none))
 (cond (Nat.beq pc 1) (some (.getfield 4, 3)) (none)))
 (cond (Nat.blt pc 5)
 (cond (Nat.beq pc 4) (some (.iconst 0, 1)) (none))
 (cond (Nat.blt pc 8)
 (cond (Nat.beq pc 5) (some (.invokestatic 169, 3)) (none))
 (cond (Nat.beq pc 8) (some (.aload 0, 1)) (none)))))
 (cond (Nat.blt pc 13)
 (cond (Nat.blt pc 12)
 (cond (Nat.beq pc 9) (some (.getfield 4, 3)) (none))
 (cond (Nat.beq pc 12) (some (.iconst 0, 1)) (none)))
 (cond (Nat.blt pc 14)
 (cond (Nat.beq pc 13) (some (.iconst 1, 1)) (none))
 (cond (Nat.blt pc 15)
 (cond (Nat.beq pc 14) (some (.iastore, 1)) (none))
 (cond (Nat.beq pc 15) (some (.iconst 0, 1)) (none))))))
 (cond (Nat.blt pc 25)
 (cond (Nat.blt pc 18)
 (cond (Nat.blt pc 17)
 (cond (Nat.beq pc 16) (some (.istore 3, 1)) (none))
 (cond (Nat.beq pc 17) (some (.iload 3, 1)) (none)))
 (cond (Nat.blt pc 19)
 (cond (Nat.beq pc 18) (some (.aload 0, 1)) (none))
 (cond (Nat.blt pc 22)
 (cond (Nat.beq pc 19) (some (.getfield 0, 3)) (none))
 (cond (Nat.beq pc 22) (some (.if_icmp .ge 59, 3)) (none)))))
 (cond (Nat.blt pc 27)
 (cond (Nat.blt pc 26)
 (cond (Nat.beq pc 25) (some (.aload 0, 1)) (none))
 (cond (Nat.beq pc 26) (some (.iload 3, 1)) (none)))
 (cond (Nat.blt pc 28)
 (cond (Nat.beq pc 27) (some (.iload 2, 1)) (none))
 (cond (Nat.blt pc 31)
 (cond (Nat.beq pc 28) (some (.if_icmp .ne 40, 3)) (none))
 (cond (Nat.beq pc 31) (some (.aload 0, 1)) (none)))))))
 (cond (Nat.blt pc 48)
 (cond (Nat.blt pc 41)
 (cond (Nat.blt pc 36)
 (cond (Nat.blt pc 35)
 (cond (Nat.beq pc 32) (some (.getfield 2, 3)) (none))
 (cond (Nat.beq pc 35) (some (.iload 3, 1)) (none)))
 (cond (Nat.blt pc 37)
 (cond (Nat.beq pc 36) (some (.iaload, 1)) (none))
 (cond (Nat.blt pc 40)
 (cond (Nat.beq pc 37) (some (.goto 50, 3)) (none))
 (cond (Nat.beq pc 40) (some (.aload 0, 1)) (none)))))
 (cond (Nat.blt pc 45)
 (cond (Nat.blt pc 44)
 (cond (Nat.beq pc 41) (some (.getfield 2, 3)) (none))
 (cond (Nat.beq pc 44) (some (.iload 3, 1)) (none)))
 (cond (Nat.blt pc 46)
 (cond (Nat.beq pc 45) (some (.iaload, 1)) (none))
 (cond (Nat.blt pc 47)
 (cond (Nat.beq pc 46) (some (.iload 1, 1)) (none))
 (cond (Nat.beq pc 47) (some (.iconst (-1), 1)) (none))))))
 (cond (Nat.blt pc 59)
 (cond (Nat.blt pc 50)
 (cond (Nat.blt pc 49)
 (cond (Nat.beq pc 48) (some (.ixor, 1)) (none))
 (cond (Nat.beq pc 49) (some (.iand, 1)) (none)))
 (cond (Nat.blt pc 53)
 (cond (Nat.beq pc 50) (some (.invokevirtual 6, 3)) (none))
 (cond (Nat.blt pc 56)
 (cond (Nat.beq pc 53) (some (.iinc 3 1, 3)) (none))
 (cond (Nat.beq pc 56) (some (.goto 17, 3)) (none)))))
 (cond (Nat.blt pc 64)
 (cond (Nat.blt pc 60)
 (cond (Nat.beq pc 59) (some (.aload 0, 1)) (none))
 (cond (Nat.blt pc 63)
 (cond (Nat.beq pc 60) (some (.getfield 4, 3)) (none))
 (cond (Nat.beq pc 63) (some (.aload 0, 1)) (none))))
 (cond (Nat.blt pc 67)
 (cond (Nat.beq pc 64) (some (.getfield 1, 3)) (none))
 (cond (Nat.blt pc 68)
 (cond (Nat.beq pc 67) (some (.iaload, 1)) (none))
 (cond (Nat.beq pc 68) (some (.ireturn, 1)) (none)))))))
-- AlwaysThere$Guess.addHedgehog(I)V
noncomputable def qc_6 (pc : Nat) : Option (Instr × Nat) := cond (Nat.blt pc 38)
 (cond (Nat.blt pc 17)
 (cond (Nat.blt pc 9)
 (cond (Nat.blt pc 4)
 (cond (Nat.blt pc 1)
 (cond (Nat.beq pc 0) (some (.aload 0, 1)) (none))
 (cond (Nat.beq pc 1) (some (.getfield 1, 3)) (none)))
 (cond (Nat.blt pc 5)
 (cond (Nat.beq pc 4) (some (.istore 2, 1)) (none))
 (cond (Nat.blt pc 6)
 (cond (Nat.beq pc 5) (some (.iload 2, 1)) (none))
 (cond (Nat.beq pc 6) (some (.ifCond .le 74, 3)) (none)))))
 (cond (Nat.blt pc 14)
 (cond (Nat.blt pc 10)
 (cond (Nat.beq pc 9) (some (.aload 0, 1)) (none))
 (cond (Nat.blt pc 13)
 (cond (Nat.beq pc 10) (some (.getfield 4, 3)) (none))
 (cond (Nat.beq pc 13) (some (.iload 2, 1)) (none))))
 (cond (Nat.blt pc 15)
 (cond (Nat.beq pc 14) (some (.iaload, 1)) (none))
 (cond (Nat.blt pc 16)
 (cond (Nat.beq pc 15) (some (.istore 3, 1)) (none))
 (cond (Nat.beq pc 16) (some (.iload 2, 1)) (none))))))
 (cond (Nat.blt pc 27)
 (cond (Nat.blt pc 21)
 (cond (Nat.blt pc 18)
 (cond (Nat.beq pc 17) (some (.iload 1, 1)) (none))
 (cond (Nat.blt pc 19)
 (cond (Nat.beq pc 18) (some (.iand, 1)) (none))
 (cond (Nat.beq pc 19) (some (.istore 4, 2)) (none))))
 (cond (Nat.blt pc 23)
 (cond (Nat.beq pc 21) (some (.iload 4, 2)) (none))
 (cond (Nat.blt pc 26)
 (cond (Nat.beq pc 23) (some (.ifCond .le 61, 3)) (none))
 (cond (Nat.beq pc 26) (some (.aload 0, 1)) (none)))))
 (cond (Nat.blt pc 33)
 (cond (Nat.blt pc 30)
 (cond (Nat.beq pc 27) (some (.getfield 3, 3)) (none))
 (cond (Nat.blt pc 32)
 (cond (Nat.beq pc 30) (some (.iload 4, 2)) (none))
 (cond (Nat.beq pc 32) (some (.baload, 1)) (none))))
 (cond (Nat.blt pc 36)
 (cond (Nat.beq pc 33) (some (.ifCond .eq 48, 3)) (none))
 (cond (Nat.blt pc 37)
 (cond (Nat.beq pc 36) (some (.iload 3, 1)) (none))
 (cond (Nat.beq pc 37) (some (.aload 0, 1)) (none)))))))
 (cond (Nat.blt pc 54)
 (cond (Nat.blt pc 47)
 (cond (Nat.blt pc 44)
 (cond (Nat.blt pc 41)
 (cond (Nat.beq pc 38) (some (.getfield 4, 3)) (none))
 (cond (Nat.blt pc 42)
 (cond (Nat.beq pc 41) (some (.iload 2, 1)) (none))
 (cond (Nat.beq pc 42) (some (.iload 4, 2)) (none))))
 (cond (Nat.blt pc 45)
 (cond (Nat.beq pc 44) (some (.ixor, 1)) (none))
 (cond (Nat.blt pc 46)
 (cond (Nat.beq pc 45) (some (.iaload, 1)) (none))
 (cond (Nat.beq pc 46) (some (.iadd, 1)) (none)))))
 (cond (Nat.blt pc 51)
 (cond (Nat.blt pc 48)
 (cond (Nat.beq pc 47) (some (.istore 3, 1)) (none))
 (cond (Nat.blt pc 50)
 (cond (Nat.beq pc 48) (some (.iload 4, 2)) (none))
 (cond (Nat.beq pc 50) (some (.iconst 1, 1)) (none))))
 (cond (Nat.blt pc 52)
 (cond (Nat.beq pc 51) (some (.isub, 1)) (none))
 (cond (Nat.blt pc 53)
 (cond (Nat.beq pc 52) (some (.iload 2, 1)) (none))
 (cond (Nat.beq pc 53) (some (.iand, 1)) (none))))))
 (cond (Nat.blt pc 65)
 (cond (Nat.blt pc 58)
 (cond (Nat.blt pc 55)
 (cond (Nat.beq pc 54) (some (.iload 1, 1)) (none))
 (cond (Nat.blt pc 56)
 (cond (Nat.beq pc 55) (some (.iand, 1)) (none))
 (cond (Nat.beq pc 56) (some (.istore 4, 2)) (none))))
 (cond (Nat.blt pc 61)
 (cond (Nat.beq pc 58) (some (.goto 21, 3)) (none))
 (cond (Nat.blt pc 62)
 (cond (Nat.beq pc 61) (some (.aload 0, 1)) (none))
 (cond (Nat.beq pc 62) (some (.getfield 4, 3)) (none)))))
 (cond (Nat.blt pc 68)
 (cond (Nat.blt pc 66)
 (cond (Nat.beq pc 65) (some (.iload 2, 1)) (none))
 (cond (Nat.blt pc 67)
 (cond (Nat.beq pc 66) (some (.iload 3, 1)) (none))
 (cond (Nat.beq pc 67) (some (.iastore, 1)) (none))))
 (cond (Nat.blt pc 71)
 (cond (Nat.beq pc 68) (some (.iinc 2 (-1), 3)) (none))
 (cond (Nat.blt pc 74)
 (cond (Nat.beq pc 71) (some (.goto 5, 3)) (none))
 (cond (Nat.beq pc 74) (some (.return_, 1)) (none)))))))
-- AlwaysThere$History.<init>()V
noncomputable def qc_7 (pc : Nat) : Option (Instr × Nat) := cond (Nat.blt pc 9)
 (cond (Nat.blt pc 4)
 (cond (Nat.blt pc 1)
 (cond (Nat.beq pc 0) (some (.aload 0, 1)) (none))
 (cond (Nat.beq pc 1) (some (.invokespecial 901, 3)) (none)))
 (cond (Nat.blt pc 5)
 (cond (Nat.beq pc 4) (some (.aload 0, 1)) (none))
 (cond (Nat.blt pc 7)
 (cond (Nat.beq pc 5) (some (.iconst 12, 2)) (none))
 (cond (Nat.beq pc 7) (some (.newarray .int, 2)) (none)))))
 (cond (Nat.blt pc 15)
 (cond (Nat.blt pc 12)
 (cond (Nat.beq pc 9) (some (.putfield 101, 3)) (none))
 (cond (Nat.blt pc 13)
 (cond (Nat.beq pc 12) (some (.aload 0, 1)) (none))
 (cond (Nat.beq pc 13) (some (.iconst 12, 2)) (none))))
 (cond (Nat.blt pc 17)
 (cond (Nat.beq pc 15) (some (.newarray .int, 2)) (none))
 (cond (Nat.blt pc 20)
 (cond (Nat.beq pc 17) (some (.putfield 102, 3)) (none))
 (cond (Nat.beq pc 20) (some (.return_, 1)) (none)))))
-- AlwaysThere$History.noteSits()V
noncomputable def qc_8 (pc : Nat) : Option (Instr × Nat) := cond (Nat.blt pc 2)
 (cond (Nat.blt pc 1)
 (cond (Nat.beq pc 0) (some (.aload 0, 1)) (none))
 (cond (Nat.beq pc 1) (some (.iconst (-1), 1)) (none)))
 (cond (Nat.blt pc 3)
 (cond (Nat.beq pc 2) (some (.iconst 0, 1)) (none))
 (cond (Nat.blt pc 6)
 (cond (Nat.beq pc 3) (some (.invokevirtual 10, 3)) (none))
 (cond (Nat.beq pc 6) (some (.return_, 1)) (none))))
-- AlwaysThere$History.noteWait(II)V
noncomputable def qc_9 (pc : Nat) : Option (Instr × Nat) := cond (Nat.blt pc 2)
 (cond (Nat.blt pc 1)
 (cond (Nat.beq pc 0) (some (.aload 0, 1)) (none))
 (cond (Nat.beq pc 1) (some (.iload 1, 1)) (none)))
 (cond (Nat.blt pc 3)
 (cond (Nat.beq pc 2) (some (.iload 2, 1)) (none))
 (cond (Nat.blt pc 6)
 (cond (Nat.beq pc 3) (some (.invokevirtual 10, 3)) (none))
 (cond (Nat.beq pc 6) (some (.return_, 1)) (none))))
-- AlwaysThere$History.note(II)V
noncomputable def qc_10 (pc : Nat) : Option (Instr × Nat) := cond (Nat.blt pc 40)
 (cond (Nat.blt pc 19)
 (cond (Nat.blt pc 10)
 (cond (Nat.blt pc 4)
 (cond (Nat.blt pc 1)
 (cond (Nat.beq pc 0) (some (.aload 0, 1)) (none))
 (cond (Nat.beq pc 1) (some (.getfield 100, 3)) (none)))
 (cond (Nat.blt pc 6)
 (cond (Nat.beq pc 4) (some (.iconst 12, 2)) (none))
 (cond (Nat.blt pc 9)
 (cond (Nat.beq pc 6) (some (.if_icmp .lt 45, 3)) (none))
 (cond (Nat.beq pc 9) (some (.aload 0, 1)) (none)))))
 (cond (Nat.blt pc 14)
 (cond (Nat.blt pc 13)
 (cond (Nat.beq pc 10) (some (.getfield 101, 3)) (none))
 (cond (Nat.beq pc 13) (some (.iconst 1, 1)) (none)))
 (cond (Nat.blt pc 15)
 (cond (Nat.beq pc 14) (some (.aload 0, 1)) (none))
 (cond (Nat.blt pc 18)
 (cond (Nat.beq pc 15) (some (.getfield 101, 3)) (none))
 (cond (Nat.beq pc 18) (some (.iconst 0, 1)) (none))))))
 (cond (Nat.blt pc 29)
 (cond (Nat.blt pc 24)
 (cond (Nat.blt pc 21)
 (cond (Nat.beq pc 19) (some (.iconst 11, 2)) (none))
 (cond (Nat.beq pc 21) (some (.invokestatic 900, 3)) (none)))
 (cond (Nat.blt pc 25)
 (cond (Nat.beq pc 24) (some (.aload 0, 1)) (none))
 (cond (Nat.blt pc 28)
 (cond (Nat.beq pc 25) (some (.getfield 102, 3)) (none))
 (cond (Nat.beq pc 28) (some (.iconst 1, 1)) (none)))))
 (cond (Nat.blt pc 34)
 (cond (Nat.blt pc 30)
 (cond (Nat.beq pc 29) (some (.aload 0, 1)) (none))
 (cond (Nat.blt pc 33)
 (cond (Nat.beq pc 30) (some (.getfield 102, 3)) (none))
 (cond (Nat.beq pc 33) (some (.iconst 0, 1)) (none))))
 (cond (Nat.blt pc 36)
 (cond (Nat.beq pc 34) (some (.iconst 11, 2)) (none))
 (cond (Nat.blt pc 39)
 (cond (Nat.beq pc 36) (some (.invokestatic 900, 3)) (none))
 (cond (Nat.beq pc 39) (some (.aload 0, 1)) (none)))))))
 (cond (Nat.blt pc 59)
 (cond (Nat.blt pc 50)
 (cond (Nat.blt pc 45)
 (cond (Nat.blt pc 42)
 (cond (Nat.beq pc 40) (some (.iconst 11, 2)) (none))
 (cond (Nat.beq pc 42) (some (.putfield 100, 3)) (none)))
 (cond (Nat.blt pc 46)
 (cond (Nat.beq pc 45) (some (.aload 0, 1)) (none))
 (cond (Nat.blt pc 49)
 (cond (Nat.beq pc 46) (some (.getfield 101, 3)) (none))
 (cond (Nat.beq pc 49) (some (.aload 0, 1)) (none)))))
 (cond (Nat.blt pc 54)
 (cond (Nat.blt pc 53)
 (cond (Nat.beq pc 50) (some (.getfield 100, 3)) (none))
 (cond (Nat.beq pc 53) (some (.iload 1, 1)) (none)))
 (cond (Nat.blt pc 55)
 (cond (Nat.beq pc 54) (some (.iastore, 1)) (none))
 (cond (Nat.blt pc 56)
 (cond (Nat.beq pc 55) (some (.aload 0, 1)) (none))
 (cond (Nat.beq pc 56) (some (.getfield 102, 3)) (none))))))
 (cond (Nat.blt pc 66)
 (cond (Nat.blt pc 63)
 (cond (Nat.blt pc 60)
 (cond (Nat.beq pc 59) (some (.aload 0, 1)) (none))
 (cond (Nat.beq pc 60) (some (.getfield 100, 3)) (none)))
 (cond (Nat.blt pc 64)
 (cond (Nat.beq pc 63) (some (.iload 2, 1)) (none))
 (cond (Nat.blt pc 65)
 (cond (Nat.beq pc 64) (some (.iastore, 1)) (none))
 (cond (Nat.beq pc 65) (some (.aload 0, 1)) (none)))))
 (cond (Nat.blt pc 71)
 (cond (Nat.blt pc 67)
 (cond (Nat.beq pc 66) (some (.dup, 1)) (none))
 (cond (Nat.blt pc 70)
 (cond (Nat.beq pc 67) (some (.getfield 100, 3)) (none))
 (cond (Nat.beq pc 70) (some (.iconst 1, 1)) (none))))
 (cond (Nat.blt pc 72)
 (cond (Nat.beq pc 71) (some (.iadd, 1)) (none))
 (cond (Nat.blt pc 75)
 (cond (Nat.beq pc 72) (some (.putfield 100, 3)) (none))
 (cond (Nat.beq pc 75) (some (.return_, 1)) (none)))))))
-- AlwaysThere$History.takeBack(LAlwaysThere$Now;)V
noncomputable def qc_11 (pc : Nat) : Option (Instr × Nat) := cond (Nat.blt pc 28)
 (cond (Nat.blt pc 14)
 (cond (Nat.blt pc 8)
 (cond (Nat.blt pc 4)
 (cond (Nat.blt pc 1)
 (cond (Nat.beq pc 0) (some (.aload 0, 1)) (none))
 (cond (Nat.beq pc 1) (some (.getfield 100, 3)) (none)))
 (cond (Nat.blt pc 7)
 (cond (Nat.beq pc 4) (some (.ifCond .gt 8, 3)) (none))
 (cond (Nat.beq pc 7) (some (.return_, 1)) (none))))
 (cond (Nat.blt pc 10)
 (cond (Nat.blt pc 9)
 (cond (Nat.beq pc 8) (some (.aload 0, 1)) (none))
 (cond (Nat.beq pc 9) (some (.dup, 1)) (none)))
 (cond (Nat.blt pc 13)
 (cond (Nat.beq pc 10) (some (.getfield 100, 3)) (none))
 (cond (Nat.beq pc 13) (some (.iconst 1, 1)) (none)))))
 (cond (Nat.blt pc 22)
 (cond (Nat.blt pc 18)
 (cond (Nat.blt pc 15)
 (cond (Nat.beq pc 14) (some (.isub, 1)) (none))
 (cond (Nat.beq pc 15) (some (.putfield 100, 3)) (none)))
 (cond (Nat.blt pc 19)
 (cond (Nat.beq pc 18) (some (.aload 0, 1)) (none))
 (cond (Nat.beq pc 19) (some (.getfield 101, 3)) (none))))
 (cond (Nat.blt pc 26)
 (cond (Nat.blt pc 23)
 (cond (Nat.beq pc 22) (some (.aload 0, 1)) (none))
 (cond (Nat.beq pc 23) (some (.getfield 100, 3)) (none)))
 (cond (Nat.blt pc 27)
 (cond (Nat.beq pc 26) (some (.iaload, 1)) (none))
 (cond (Nat.beq pc 27) (some (.istore 2, 1)) (none))))))
 (cond (Nat.blt pc 44)
 (cond (Nat.blt pc 34)
 (cond (Nat.blt pc 30)
 (cond (Nat.blt pc 29)
 (cond (Nat.beq pc 28) (some (.iload 2, 1)) (none))
 (cond (Nat.beq pc 29) (some (.iconst (-1), 1)) (none)))
 (cond (Nat.blt pc 33)
 (cond (Nat.beq pc 30) (some (.if_icmp .ne 40, 3)) (none))
 (cond (Nat.beq pc 33) (some (.aload 1, 1)) (none))))
 (cond (Nat.blt pc 40)
 (cond (Nat.blt pc 37)
 (cond (Nat.beq pc 34) (some (.invokevirtual 30, 3)) (none))
 (cond (Nat.beq pc 37) (some (.goto 55, 3)) (none)))
 (cond (Nat.blt pc 41)
 (cond (Nat.beq pc 40) (some (.aload 1, 1)) (none))
 (cond (Nat.beq pc 41) (some (.getfield 306, 3)) (none)))))
 (cond (Nat.blt pc 50)
 (cond (Nat.blt pc 46)
 (cond (Nat.blt pc 45)
 (cond (Nat.beq pc 44) (some (.iload 2, 1)) (none))
 (cond (Nat.beq pc 45) (some (.aload 0, 1)) (none)))
 (cond (Nat.blt pc 49)
 (cond (Nat.beq pc 46) (some (.getfield 102, 3)) (none))
 (cond (Nat.beq pc 49) (some (.aload 0, 1)) (none))))
 (cond (Nat.blt pc 54)
 (cond (Nat.blt pc 53)
 (cond (Nat.beq pc 50) (some (.getfield 100, 3)) (none))
 (cond (Nat.beq pc 53) (some (.iaload, 1)) (none)))
 (cond (Nat.blt pc 55)
 (cond (Nat.beq pc 54) (some (.iastore, 1)) (none))
 (cond (Nat.beq pc 55) (some (.return_, 1)) (none))))))
-- AlwaysThere$Land.<init>()V
noncomputable def qc_12 (pc : Nat) : Option (Instr × Nat) := cond (Nat.blt pc 25)
 (cond (Nat.blt pc 12)
 (cond (Nat.blt pc 5)
 (cond (Nat.blt pc 1)
 (cond (Nat.beq pc 0) (some (.aload 0, 1)) (none))
 (cond (Nat.blt pc 4)
 (cond (Nat.beq pc 1) (some (.invokespecial 901, 3)) (none))
 (cond (Nat.beq pc 4) (some (.aload 0, 1)) (none))))
 (cond (Nat.blt pc 7)
 (cond (Nat.beq pc 5) (some (.iconst 64, 2)) (none))
 (cond (Nat.blt pc 9)
 (cond (Nat.beq pc 7) (some (.newarray .int, 2)) (none))
 (cond (Nat.beq pc 9) (some (.putfield 206, 3)) (none)))))
 (cond (Nat.blt pc 17)
 (cond (Nat.blt pc 13)
 (cond (Nat.beq pc 12) (some (.aload 0, 1)) (none))
 (cond (Nat.blt pc 15)
 (cond (Nat.beq pc 13) (some (.iconst 64, 2)) (none))
 (cond (Nat.beq pc 15) (some (.newarray .int, 2)) (none))))
 (cond (Nat.blt pc 21)
 (cond (Nat.blt pc 20)
 (cond (Nat.beq pc 17) (some (.putfield 207, 3)) (none))
 (cond (Nat.beq pc 20) (some (.aload 0, 1)) (none)))
 (cond (Nat.blt pc 23)
 (cond (Nat.beq pc 21) (some (.iconst 8, 2)) (none))
 (cond (Nat.beq pc 23) (some (.newarray .int, 2)) (none))))))
 (cond (Nat.blt pc 38)
 (cond (Nat.blt pc 30)
 (cond (Nat.blt pc 28)
 (cond (Nat.beq pc 25) (some (.putfield 208, 3)) (none))
 (cond (Nat.blt pc 29)
 (cond (Nat.beq pc 28) (some (.aload 0, 1)) (none))
 (cond (Nat.beq pc 29) (some (.iconst 5, 1)) (none))))
 (cond (Nat.blt pc 35)
 (cond (Nat.blt pc 32)
 (cond (Nat.beq pc 30) (some (.newarray .int, 2)) (none))
 (cond (Nat.beq pc 32) (some (.putfield 209, 3)) (none)))
 (cond (Nat.blt pc 36)
 (cond (Nat.beq pc 35) (some (.aload 0, 1)) (none))
 (cond (Nat.beq pc 36) (some (.iconst 8, 2)) (none)))))
 (cond (Nat.blt pc 44)
 (cond (Nat.blt pc 40)
 (cond (Nat.beq pc 38) (some (.newarray .int, 2)) (none))
 (cond (Nat.blt pc 43)
 (cond (Nat.beq pc 40) (some (.putfield 210, 3)) (none))
 (cond (Nat.beq pc 43) (some (.aload 0, 1)) (none))))
 (cond (Nat.blt pc 48)
 (cond (Nat.blt pc 47)
 (cond (Nat.beq pc 44) (some (.invokevirtual 13, 3)) (none))
 (cond (Nat.beq pc 47) (some (.aload 0, 1)) (none)))
 (cond (Nat.blt pc 51)
 (cond (Nat.beq pc 48) (some (.invokevirtual 22, 3)) (none))
 (cond (Nat.beq pc 51) (some (.return_, 1)) (none))))))
-- AlwaysThere$Land.wipe()V
noncomputable def qc_13 (pc : Nat) : Option (Instr × Nat) := cond (Nat.blt pc 21)
 (cond (Nat.blt pc 10)
 (cond (Nat.blt pc 5)
 (cond (Nat.blt pc 1)
 (cond (Nat.beq pc 0) (some (.aload 0, 1)) (none))
 (cond (Nat.blt pc 2)
 (cond (Nat.beq pc 1) (some (.iconst 4, 1)) (none))
 (cond (Nat.beq pc 2) (some (.putfield 200, 3)) (none))))
 (cond (Nat.blt pc 6)
 (cond (Nat.beq pc 5) (some (.aload 0, 1)) (none))
 (cond (Nat.blt pc 7)
 (cond (Nat.beq pc 6) (some (.iconst 0, 1)) (none))
 (cond (Nat.beq pc 7) (some (.putfield 201, 3)) (none)))))
 (cond (Nat.blt pc 15)
 (cond (Nat.blt pc 11)
 (cond (Nat.beq pc 10) (some (.aload 0, 1)) (none))
 (cond (Nat.blt pc 12)
 (cond (Nat.beq pc 11) (some (.iconst 0, 1)) (none))
 (cond (Nat.beq pc 12) (some (.putfield 202, 3)) (none))))
 (cond (Nat.blt pc 17)
 (cond (Nat.blt pc 16)
 (cond (Nat.beq pc 15) (some (.aload 0, 1)) (none))
 (cond (Nat.beq pc 16) (some (.iconst 3, 1)) (none)))
 (cond (Nat.blt pc 20)
 (cond (Nat.beq pc 17) (some (.putfield 203, 3)) (none))
 (cond (Nat.beq pc 20) (some (.aload 0, 1)) (none))))))
 (cond (Nat.blt pc 34)
 (cond (Nat.blt pc 26)
 (cond (Nat.blt pc 22)
 (cond (Nat.beq pc 21) (some (.iconst 0, 1)) (none))
 (cond (Nat.blt pc 25)
 (cond (Nat.beq pc 22) (some (.putfield 204, 3)) (none))
 (cond (Nat.beq pc 25) (some (.aload 0, 1)) (none))))
 (cond (Nat.blt pc 30)
 (cond (Nat.blt pc 27)
 (cond (Nat.beq pc 26) (some (.iconst 0, 1)) (none))
 (cond (Nat.beq pc 27) (some (.putfield 205, 3)) (none)))
 (cond (Nat.blt pc 31)
 (cond (Nat.beq pc 30) (some (.aload 0, 1)) (none))
 (cond (Nat.beq pc 31) (some (.getfield 206, 3)) (none)))))
 (cond (Nat.blt pc 39)
 (cond (Nat.blt pc 35)
 (cond (Nat.beq pc 34) (some (.iconst 0, 1)) (none))
 (cond (Nat.blt pc 38)
 (cond (Nat.beq pc 35) (some (.invokestatic 169, 3)) (none))
 (cond (Nat.beq pc 38) (some (.aload 0, 1)) (none))))
 (cond (Nat.blt pc 43)
 (cond (Nat.blt pc 42)
 (cond (Nat.beq pc 39) (some (.getfield 208, 3)) (none))
 (cond (Nat.beq pc 42) (some (.iconst 0, 1)) (none)))
 (cond (Nat.blt pc 46)
 (cond (Nat.beq pc 43) (some (.invokestatic 169, 3)) (none))
 (cond (Nat.beq pc 46) (some (.return_, 1)) (none))))))
-- AlwaysThere$Land.become(LAlwaysThere$Land;)V
noncomputable def qc_14 (pc : Nat) : Option (Instr × Nat) := cond (Nat.blt pc 63)
 (cond (Nat.blt pc 32)
 (cond (Nat.blt pc 16)
 (cond (Nat.blt pc 8)
 (cond (Nat.blt pc 2)
 (cond (Nat.blt pc 1)
 (cond (Nat.beq pc 0) (some (.aload 0, 1)) (none))
 (cond (Nat.beq pc 1) (some (.aload 1, 1)) (none)))
 (cond (Nat.blt pc 5)
 (cond (Nat.beq pc 2) (some (.getfield 200, 3)) (none))
 (cond (Nat.beq pc 5) (some (.putfield 200, 3)) (none))))
 (cond (Nat.blt pc 10)
 (cond (Nat.blt pc 9)
 (cond (Nat.beq pc 8) (some (.aload 0, 1)) (none))
 (cond (Nat.beq pc 9) (some (.aload 1, 1)) (none)))
 (cond (Nat.blt pc 13)
 (cond (Nat.beq pc 10) (some (.getfield 201, 3)) (none))
 (cond (Nat.beq pc 13) (some (.putfield 201, 3)) (none)))))
 (cond (Nat.blt pc 24)
 (cond (Nat.blt pc 18)
 (cond (Nat.blt pc 17)
 (cond (Nat.beq pc 16) (some (.aload 0, 1)) (none))
 (cond (Nat.beq pc 17) (some (.aload 1, 1)) (none)))
 (cond (Nat.blt pc 21)
 (cond (Nat.beq pc 18) (some (.getfield 202, 3)) (none))
 (cond (Nat.beq pc 21) (some (.putfield 202, 3)) (none))))
 (cond (Nat.blt pc 26)
 (cond (Nat.blt pc 25)
 (cond (Nat.beq pc 24) (some (.aload 0, 1)) (none))
 (cond (Nat.beq pc 25) (some (.aload 1, 1)) (none)))
 (cond (Nat.blt pc 29)
 (cond (Nat.beq pc 26) (some (.getfield 203, 3)) (none))
 (cond (Nat.beq pc 29) (some (.putfield 203, 3)) (none))))))
 (cond (Nat.blt pc 48)
 (cond (Nat.blt pc 40)
 (cond (Nat.blt pc 34)
 (cond (Nat.blt pc 33)
 (cond (Nat.beq pc 32) (some (.aload 0, 1)) (none))
 (cond (Nat.beq pc 33) (some (.aload 1, 1)) (none)))
 (cond (Nat.blt pc 37)
 (cond (Nat.beq pc 34) (some (.getfield 204, 3)) (none))
 (cond (Nat.beq pc 37) (some (.putfield 204, 3)) (none))))
 (cond (Nat.blt pc 42)
 (cond (Nat.blt pc 41)
 (cond (Nat.beq pc 40) (some (.aload 0, 1)) (none))
 (cond (Nat.beq pc 41) (some (.aload 1, 1)) (none)))
 (cond (Nat.blt pc 45)
 (cond (Nat.beq pc 42) (some (.getfield 205, 3)) (none))
 (cond (Nat.beq pc 45) (some (.putfield 205, 3)) (none)))))
 (cond (Nat.blt pc 54)
 (cond (Nat.blt pc 52)
 (cond (Nat.blt pc 49)
 (cond (Nat.beq pc 48) (some (.aload 1, 1)) (none))
 (cond (Nat.beq pc 49) (some (.getfield 206, 3)) (none)))
 (cond (Nat.blt pc 53)
 (cond (Nat.beq pc 52) (some (.iconst 0, 1)) (none))
 (cond (Nat.beq pc 53) (some (.aload 0, 1)) (none))))
 (cond (Nat.blt pc 58)
 (cond (Nat.blt pc 57)
 (cond (Nat.beq pc 54) (some (.getfield 206, 3)) (none))
 (cond (Nat.beq pc 57) (some (.iconst 0, 1)) (none)))
 (cond (Nat.blt pc 59)
 (cond (Nat.beq pc 58) (some (.aload 0, 1)) (none))
 (cond (Nat.blt pc 62)
 (cond (Nat.beq pc 59) (some (.getfield 206, 3)) (none))
 (cond (Nat.beq pc 62) (some (.arraylength, 1)) (none))))))))
 (cond (Nat.blt pc 94)
 (cond (Nat.blt pc 77)
 (cond (Nat.blt pc 71)
 (cond (Nat.blt pc 67)
 (cond (Nat.blt pc 66)
 (cond (Nat.beq pc 63) (some (.invokestatic 900, 3)) (none))
 (cond (Nat.beq pc 66) (some (.aload 1, 1)) (none)))
 (cond (Nat.blt pc 70)
 (cond (Nat.beq pc 67) (some (.getfield 208, 3)) (none))
 (cond (Nat.beq pc 70) (some (.iconst 0, 1)) (none))))
 (cond (Nat.blt pc 75)
 (cond (Nat.blt pc 72)
 (cond (Nat.beq pc 71) (some (.aload 0, 1)) (none))
 (cond (Nat.beq pc 72) (some (.getfield 208, 3)) (none)))
 (cond (Nat.blt pc 76)
 (cond (Nat.beq pc 75) (some (.iconst 0, 1)) (none))
 (cond (Nat.beq pc 76) (some (.aload 0, 1)) (none)))))
 (cond (Nat.blt pc 85)
 (cond (Nat.blt pc 81)
 (cond (Nat.blt pc 80)
 (cond (Nat.beq pc 77) (some (.getfield 208, 3)) (none))
 (cond (Nat.beq pc 80) (some (.arraylength, 1)) (none)))
 (cond (Nat.blt pc 84)
 (cond (Nat.beq pc 81) (some (.invokestatic 900, 3)) (none))
 (cond (Nat.beq pc 84) (some (.aload 1, 1)) (none))))
 (cond (Nat.blt pc 89)
 (cond (Nat.blt pc 88)
 (cond (Nat.beq pc 85) (some (.getfield 209, 3)) (none))
 (cond (Nat.beq pc 88) (some (.iconst 0, 1)) (none)))
 (cond (Nat.blt pc 90)
 (cond (Nat.beq pc 89) (some (.aload 0, 1)) (none))
 (cond (Nat.blt pc 93)
 (cond (Nat.beq pc 90) (some (.getfield 209, 3)) (none))
 (cond (Nat.beq pc 93) (some (.iconst 0, 1)) (none)))))))
 (cond (Nat.blt pc 108)
 (cond (Nat.blt pc 102)
 (cond (Nat.blt pc 98)
 (cond (Nat.blt pc 95)
 (cond (Nat.beq pc 94) (some (.aload 0, 1)) (none))
 (cond (Nat.beq pc 95) (some (.getfield 209, 3)) (none)))
 (cond (Nat.blt pc 99)
 (cond (Nat.beq pc 98) (some (.arraylength, 1)) (none))
 (cond (Nat.beq pc 99) (some (.invokestatic 900, 3)) (none))))
 (cond (Nat.blt pc 106)
 (cond (Nat.blt pc 103)
 (cond (Nat.beq pc 102) (some (.aload 1, 1)) (none))
 (cond (Nat.beq pc 103) (some (.getfield 210, 3)) (none)))
 (cond (Nat.blt pc 107)
 (cond (Nat.beq pc 106) (some (.iconst 0, 1)) (none))
 (cond (Nat.beq pc 107) (some (.aload 0, 1)) (none)))))
 (cond (Nat.blt pc 116)
 (cond (Nat.blt pc 112)
 (cond (Nat.blt pc 111)
 (cond (Nat.beq pc 108) (some (.getfield 210, 3)) (none))
 (cond (Nat.beq pc 111) (some (.iconst 0, 1)) (none)))
 (cond (Nat.blt pc 113)
 (cond (Nat.beq pc 112) (some (.aload 0, 1)) (none))
 (cond (Nat.beq pc 113) (some (.getfield 210, 3)) (none))))
 (cond (Nat.blt pc 120)
 (cond (Nat.blt pc 117)
 (cond (Nat.beq pc 116) (some (.arraylength, 1)) (none))
 (cond (Nat.beq pc 117) (some (.invokestatic 900, 3)) (none)))
 (cond (Nat.blt pc 121)
 (cond (Nat.beq pc 120) (some (.aload 0, 1)) (none))
 (cond (Nat.blt pc 124)
 (cond (Nat.beq pc 121) (some (.invokevirtual 22, 3)) (none))
 (cond (Nat.beq pc 124) (some (.return_, 1)) (none))))))))
-- AlwaysThere$Land.hasPlace(I)Z
noncomputable def qc_15 (pc : Nat) : Option (Instr × Nat) := cond (Nat.blt pc 9)
 (cond (Nat.blt pc 4)
 (cond (Nat.blt pc 1)
 (cond (Nat.beq pc 0) (some (.iload 1, 1)) (none))
 (cond (Nat.beq pc 1) (some (.ifCond .lt 16, 3)) (none)))
 (cond (Nat.blt pc 5)
 (cond (Nat.beq pc 4) (some (.iload 1, 1)) (none))
 (cond (Nat.blt pc 6)
 (cond (Nat.beq pc 5) (some (.aload 0, 1)) (none))
 (cond (Nat.beq pc 6) (some (.getfield 200, 3)) (none)))))
 (cond (Nat.blt pc 13)
 (cond (Nat.blt pc 12)
 (cond (Nat.beq pc 9) (some (.if_icmp .ge 16, 3)) (none))
 (cond (Nat.beq pc 12) (some (.iconst 1, 1)) (none)))
 (cond (Nat.blt pc 16)
 (cond (Nat.beq pc 13) (some (.goto 17, 3)) (none))
 (cond (Nat.blt pc 17)
 (cond (Nat.beq pc 16) (some (.iconst 0, 1)) (none))
 (cond (Nat.beq pc 17) (some (.freturn, 1)) (none)))))
-- AlwaysThere$Land.hasHedgehog(I)Z
noncomputable def qc_16 (pc : Nat) : Option (Instr × Nat) := cond (Nat.blt pc 9)
 (cond (Nat.blt pc 4)
 (cond (Nat.blt pc 1)
 (cond (Nat.beq pc 0) (some (.iload 1, 1)) (none))
 (cond (Nat.beq pc 1) (some (.ifCond .lt 16, 3)) (none)))
 (cond (Nat.blt pc 5)
 (cond (Nat.beq pc 4) (some (.iload 1, 1)) (none))
 (cond (Nat.blt pc 6)
 (cond (Nat.beq pc 5) (some (.aload 0, 1)) (none))
 (cond (Nat.beq pc 6) (some (.getfield 201, 3)) (none)))))
 (cond (Nat.blt pc 13)
 (cond (Nat.blt pc 12)
 (cond (Nat.beq pc 9) (some (.if_icmp .ge 16, 3)) (none))
 (cond (Nat.beq pc 12) (some (.iconst 1, 1)) (none)))
 (cond (Nat.blt pc 16)
 (cond (Nat.beq pc 13) (some (.goto 17, 3)) (none))
 (cond (Nat.blt pc 17)
 (cond (Nat.beq pc 16) (some (.iconst 0, 1)) (none))
 (cond (Nat.beq pc 17) (some (.freturn, 1)) (none)))))
-- AlwaysThere$Land.pair(II)I
noncomputable def qc_17 (pc : Nat) : Option (Instr × Nat) := cond (Nat.blt pc 4)
 (cond (Nat.blt pc 1)
 (cond (Nat.beq pc 0) (some (.iload 0, 1)) (none))
 (cond (Nat.blt pc 3)
 (cond (Nat.beq pc 1) (some (.iconst 8, 2)) (none))
 (cond (Nat.beq pc 3) (some (.imul, 1)) (none))))
 (cond (Nat.blt pc 5)
 (cond (Nat.beq pc 4) (some (.iload 1, 1)) (none))
 (cond (Nat.blt pc 6)
 (cond (Nat.beq pc 5) (some (.iadd, 1)) (none))
 (cond (Nat.beq pc 6) (some (.ireturn, 1)) (none))))
-- AlwaysThere$Land.furrowBetween(II)I
noncomputable def qc_18 (pc : Nat) : Option (Instr × Nat) := cond (Nat.blt pc 5)
 (cond (Nat.blt pc 1)
 (cond (Nat.beq pc 0) (some (.aload 0, 1)) (none))
 (cond (Nat.blt pc 4)
 (cond (Nat.beq pc 1) (some (.getfield 206, 3)) (none))
 (cond (Nat.beq pc 4) (some (.iload 1, 1)) (none))))
 (cond (Nat.blt pc 9)
 (cond (Nat.blt pc 6)
 (cond (Nat.beq pc 5) (some (.iload 2, 1)) (none))
 (cond (Nat.beq pc 6) (some (.invokestatic 17, 3)) (none)))
 (cond (Nat.blt pc 10)
 (cond (Nat.beq pc 9) (some (.iaload, 1)) (none))
 (cond (Nat.beq pc 10) (some (.ireturn, 1)) (none))))
-- AlwaysThere$Land.putFurrow(III)V
noncomputable def qc_19 (pc : Nat) : Option (Instr × Nat) := cond (Nat.blt pc 11)
 (cond (Nat.blt pc 5)
 (cond (Nat.blt pc 1)
 (cond (Nat.beq pc 0) (some (.aload 0, 1)) (none))
 (cond (Nat.blt pc 4)
 (cond (Nat.beq pc 1) (some (.getfield 206, 3)) (none))
 (cond (Nat.beq pc 4) (some (.iload 1, 1)) (none))))
 (cond (Nat.blt pc 9)
 (cond (Nat.blt pc 6)
 (cond (Nat.beq pc 5) (some (.iload 2, 1)) (none))
 (cond (Nat.beq pc 6) (some (.invokestatic 17, 3)) (none)))
 (cond (Nat.blt pc 10)
 (cond (Nat.beq pc 9) (some (.iload 3, 1)) (none))
 (cond (Nat.beq pc 10) (some (.iastore, 1)) (none)))))
 (cond (Nat.blt pc 17)
 (cond (Nat.blt pc 15)
 (cond (Nat.blt pc 12)
 (cond (Nat.beq pc 11) (some (.aload 0, 1)) (none))
 (cond (Nat.beq pc 12) (some (.getfield 206, 3)) (none)))
 (cond (Nat.blt pc 16)
 (cond (Nat.beq pc 15) (some (.iload 2, 1)) (none))
 (cond (Nat.beq pc 16) (some (.iload 1, 1)) (none))))
 (cond (Nat.blt pc 21)
 (cond (Nat.blt pc 20)
 (cond (Nat.beq pc 17) (some (.invokestatic 17, 3)) (none))
 (cond (Nat.beq pc 20) (some (.iload 3, 1)) (none)))
 (cond (Nat.blt pc 22)
 (cond (Nat.beq pc 21) (some (.iastore, 1)) (none))
 (cond (Nat.beq pc 22) (some (.return_, 1)) (none)))))
-- AlwaysThere$Land.putSight(II)V
noncomputable def qc_20 (pc : Nat) : Option (Instr × Nat) := cond (Nat.blt pc 12)
 (cond (Nat.blt pc 7)
 (cond (Nat.blt pc 4)
 (cond (Nat.blt pc 1)
 (cond (Nat.beq pc 0) (some (.aload 0, 1)) (none))
 (cond (Nat.beq pc 1) (some (.getfield 208, 3)) (none)))
 (cond (Nat.blt pc 5)
 (cond (Nat.beq pc 4) (some (.iload 1, 1)) (none))
 (cond (Nat.blt pc 6)
 (cond (Nat.beq pc 5) (some (.dup2, 1)) (none))
 (cond (Nat.beq pc 6) (some (.iaload, 1)) (none)))))
 (cond (Nat.blt pc 9)
 (cond (Nat.blt pc 8)
 (cond (Nat.beq pc 7) (some (.iconst 1, 1)) (none))
 (cond (Nat.beq pc 8) (some (.iload 2, 1)) (none)))
 (cond (Nat.blt pc 10)
 (cond (Nat.beq pc 9) (some (.ishl, 1)) (none))
 (cond (Nat.blt pc 11)
 (cond (Nat.beq pc 10) (some (.ior, 1)) (none))
 (cond (Nat.beq pc 11) (some (.iastore, 1)) (none))))))
 (cond (Nat.blt pc 19)
 (cond (Nat.blt pc 16)
 (cond (Nat.blt pc 13)
 (cond (Nat.beq pc 12) (some (.aload 0, 1)) (none))
 (cond (Nat.beq pc 13) (some (.getfield 208, 3)) (none)))
 (cond (Nat.blt pc 17)
 (cond (Nat.beq pc 16) (some (.iload 2, 1)) (none))
 (cond (Nat.blt pc 18)
 (cond (Nat.beq pc 17) (some (.dup2, 1)) (none))
 (cond (Nat.beq pc 18) (some (.iaload, 1)) (none)))))
 (cond (Nat.blt pc 22)
 (cond (Nat.blt pc 20)
 (cond (Nat.beq pc 19) (some (.iconst 1, 1)) (none))
 (cond (Nat.blt pc 21)
 (cond (Nat.beq pc 20) (some (.iload 1, 1)) (none))
 (cond (Nat.beq pc 21) (some (.ishl, 1)) (none))))
 (cond (Nat.blt pc 23)
 (cond (Nat.beq pc 22) (some (.ior, 1)) (none))
 (cond (Nat.blt pc 24)
 (cond (Nat.beq pc 23) (some (.iastore, 1)) (none))
 (cond (Nat.beq pc 24) (some (.return_, 1)) (none))))))
-- AlwaysThere$Land.wayBetween(II)I
noncomputable def qc_21 (pc : Nat) : Option (Instr × Nat) := cond (Nat.blt pc 11)
 (cond (Nat.blt pc 5)
 (cond (Nat.blt pc 1)
 (cond (Nat.beq pc 0) (some (.aload 0, 1)) (none))
 (cond (Nat.blt pc 4)
 (cond (Nat.beq pc 1) (some (.getfield 207, 3)) (none))
 (cond (Nat.beq pc 4) (some (.iload 1, 1)) (none))))
 (cond (Nat.blt pc 9)
 (cond (Nat.blt pc 6)
 (cond (Nat.beq pc 5) (some (.iload 2, 1)) (none))
 (cond (Nat.beq pc 6) (some (.invokestatic 17, 3)) (none)))
 (cond (Nat.blt pc 10)
 (cond (Nat.beq pc 9) (some (.iaload, 1)) (none))
 (cond (Nat.beq pc 10) (some (.istore 3, 1)) (none)))))
 (cond (Nat.blt pc 17)
 (cond (Nat.blt pc 12)
 (cond (Nat.beq pc 11) (some (.iload 3, 1)) (none))
 (cond (Nat.blt pc 14)
 (cond (Nat.beq pc 12) (some (.iconst 1000000, 2)) (none))
 (cond (Nat.beq pc 14) (some (.if_icmp .ge 21, 3)) (none))))
 (cond (Nat.blt pc 21)
 (cond (Nat.blt pc 18)
 (cond (Nat.beq pc 17) (some (.iload 3, 1)) (none))
 (cond (Nat.beq pc 18) (some (.goto 23, 3)) (none)))
 (cond (Nat.blt pc 23)
 (cond (Nat.beq pc 21) (some (.iconst (-9), 2)) (none))
 (cond (Nat.beq pc 23) (some (.ireturn, 1)) (none)))))
-- AlwaysThere$Land.measureWays()V
noncomputable def qc_22 (pc : Nat) : Option (Instr × Nat) := cond (Nat.blt pc 84)
 (cond (Nat.blt pc 37)
 (cond (Nat.blt pc 17)
 (cond (Nat.blt pc 7)
 (cond (Nat.blt pc 2)
 (cond (Nat.blt pc 1)
 (cond (Nat.beq pc 0) (some (.iconst 0, 1)) (none))
 (cond (Nat.beq pc 1) (some (.istore 1, 1)) (none)))
 (cond (Nat.blt pc 3)
 (cond (Nat.beq pc 2) (some (.iload 1, 1)) (none))
 (cond (Nat.blt pc 4)
 (cond (Nat.beq pc 3) (some (.aload 0, 1)) (none))
 (cond (Nat.beq pc 4) (some (.getfield 200, 3)) (none)))))
 (cond (Nat.blt pc 12)
 (cond (Nat.blt pc 10)
 (cond (Nat.beq pc 7) (some (.if_icmp .ge 77, 3)) (none))
 (cond (Nat.blt pc 11)
 (cond (Nat.beq pc 10) (some (.iconst 0, 1)) (none))
 (cond (Nat.beq pc 11) (some (.istore 2, 1)) (none))))
 (cond (Nat.blt pc 13)
 (cond (Nat.beq pc 12) (some (.iload 2, 1)) (none))
 (cond (Nat.blt pc 14)
 (cond (Nat.beq pc 13) (some (.aload 0, 1)) (none))
 (cond (Nat.beq pc 14) (some (.getfield 200, 3)) (none))))))
 (cond (Nat.blt pc 29)
 (cond (Nat.blt pc 24)
 (cond (Nat.blt pc 20)
 (cond (Nat.beq pc 17) (some (.if_icmp .ge 71, 3)) (none))
 (cond (Nat.blt pc 21)
 (cond (Nat.beq pc 20) (some (.aload 0, 1)) (none))
 (cond (Nat.beq pc 21) (some (.getfield 206, 3)) (none))))
 (cond (Nat.blt pc 25)
 (cond (Nat.beq pc 24) (some (.iload 1, 1)) (none))
 (cond (Nat.blt pc 26)
 (cond (Nat.beq pc 25) (some (.iload 2, 1)) (none))
 (cond (Nat.beq pc 26) (some (.invokestatic 17, 3)) (none)))))
 (cond (Nat.blt pc 32)
 (cond (Nat.blt pc 30)
 (cond (Nat.beq pc 29) (some (.iaload, 1)) (none))
 (cond (Nat.blt pc 31)
 (cond (Nat.beq pc 30) (some (.istore 3, 1)) (none))
 (cond (Nat.beq pc 31) (some (.aload 0, 1)) (none))))
 (cond (Nat.blt pc 35)
 (cond (Nat.beq pc 32) (some (.getfield 207, 3)) (none))
 (cond (Nat.blt pc 36)
 (cond (Nat.beq pc 35) (some (.iload 1, 1)) (none))
 (cond (Nat.beq pc 36) (some (.iload 2, 1)) (none)))))))
 (cond (Nat.blt pc 59)
 (cond (Nat.blt pc 49)
 (cond (Nat.blt pc 42)
 (cond (Nat.blt pc 40)
 (cond (Nat.beq pc 37) (some (.invokestatic 17, 3)) (none))
 (cond (Nat.blt pc 41)
 (cond (Nat.beq pc 40) (some (.iload 1, 1)) (none))
 (cond (Nat.beq pc 41) (some (.iload 2, 1)) (none))))
 (cond (Nat.blt pc 45)
 (cond (Nat.beq pc 42) (some (.if_icmp .ne 49, 3)) (none))
 (cond (Nat.blt pc 46)
 (cond (Nat.beq pc 45) (some (.iconst 0, 1)) (none))
 (cond (Nat.beq pc 46) (some (.goto 64, 3)) (none)))))
 (cond (Nat.blt pc 54)
 (cond (Nat.blt pc 50)
 (cond (Nat.beq pc 49) (some (.iload 3, 1)) (none))
 (cond (Nat.blt pc 53)
 (cond (Nat.beq pc 50) (some (.ifCond .le 62, 3)) (none))
 (cond (Nat.beq pc 53) (some (.aload 0, 1)) (none))))
 (cond (Nat.blt pc 57)
 (cond (Nat.beq pc 54) (some (.getfield 203, 3)) (none))
 (cond (Nat.blt pc 58)
 (cond (Nat.beq pc 57) (some (.iload 3, 1)) (none))
 (cond (Nat.beq pc 58) (some (.imul, 1)) (none))))))
 (cond (Nat.blt pc 74)
 (cond (Nat.blt pc 65)
 (cond (Nat.blt pc 62)
 (cond (Nat.beq pc 59) (some (.goto 64, 3)) (none))
 (cond (Nat.blt pc 64)
 (cond (Nat.beq pc 62) (some (.iconst 1000000, 2)) (none))
 (cond (Nat.beq pc 64) (some (.iastore, 1)) (none))))
 (cond (Nat.blt pc 68)
 (cond (Nat.beq pc 65) (some (.iinc 2 1, 3)) (none))
 (cond (Nat.blt pc 71)
 (cond (Nat.beq pc 68) (some (.goto 12, 3)) (none))
 (cond (Nat.beq pc 71) (some (.iinc 1 1, 3)) (none)))))
 (cond (Nat.blt pc 79)
 (cond (Nat.blt pc 77)
 (cond (Nat.beq pc 74) (some (.goto 2, 3)) (none))
 (cond (Nat.blt pc 78)
 (cond (Nat.beq pc 77) (some (.iconst 0, 1)) (none))
 (cond (Nat.beq pc 78) (some (.istore 1, 1)) (none))))
 (cond (Nat.blt pc 80)
 (cond (Nat.beq pc 79) (some (.iload 1, 1)) (none))
 (cond (Nat.blt pc 81)
 (cond (Nat.beq pc 80) (some (.aload 0, 1)) (none))
 (cond (Nat.beq pc 81) (some (.getfield 200, 3)) (none))))))))
 (cond (Nat.blt pc 126)
 (cond (Nat.blt pc 104)
 (cond (Nat.blt pc 94)
 (cond (Nat.blt pc 89)
 (cond (Nat.blt pc 87)
 (cond (Nat.beq pc 84) (some (.if_icmp .ge 173, 3)) (none))
 (cond (Nat.blt pc 88)
 (cond (Nat.beq pc 87) (some (.iconst 0, 1)) (none))
 (cond (Nat.beq pc 88) (some (.istore 2, 1)) (none))))
 (cond (Nat.blt pc 90)
 (cond (Nat.beq pc 89) (some (.iload 2, 1)) (none))
 (cond (Nat.blt pc 91)
 (cond (Nat.beq pc 90) (some (.aload 0, 1)) (none))
 (cond (Nat.beq pc 91) (some (.getfield 200, 3)) (none)))))
 (cond (Nat.blt pc 99)
 (cond (Nat.blt pc 97)
 (cond (Nat.beq pc 94) (some (.if_icmp .ge 167, 3)) (none))
 (cond (Nat.blt pc 98)
 (cond (Nat.beq pc 97) (some (.iconst 0, 1)) (none))
 (cond (Nat.beq pc 98) (some (.istore 3, 1)) (none))))
 (cond (Nat.blt pc 100)
 (cond (Nat.beq pc 99) (some (.iload 3, 1)) (none))
 (cond (Nat.blt pc 101)
 (cond (Nat.beq pc 100) (some (.aload 0, 1)) (none))
 (cond (Nat.beq pc 101) (some (.getfield 200, 3)) (none))))))
 (cond (Nat.blt pc 116)
 (cond (Nat.blt pc 111)
 (cond (Nat.blt pc 107)
 (cond (Nat.beq pc 104) (some (.if_icmp .ge 161, 3)) (none))
 (cond (Nat.blt pc 108)
 (cond (Nat.beq pc 107) (some (.aload 0, 1)) (none))
 (cond (Nat.beq pc 108) (some (.getfield 207, 3)) (none))))
 (cond (Nat.blt pc 112)
 (cond (Nat.beq pc 111) (some (.iload 2, 1)) (none))
 (cond (Nat.blt pc 113)
 (cond (Nat.beq pc 112) (some (.iload 1, 1)) (none))
 (cond (Nat.beq pc 113) (some (.invokestatic 17, 3)) (none)))))
 (cond (Nat.blt pc 121)
 (cond (Nat.blt pc 117)
 (cond (Nat.beq pc 116) (some (.iaload, 1)) (none))
 (cond (Nat.blt pc 118)
 (cond (Nat.beq pc 117) (some (.aload 0, 1)) (none))
 (cond (Nat.beq pc 118) (some (.getfield 207, 3)) (none))))
 (cond (Nat.blt pc 122)
 (cond (Nat.beq pc 121) (some (.iload 1, 1)) (none))
 (cond (Nat.blt pc 123)
 (cond (Nat.beq pc 122) (some (.iload 3, 1)) (none))
 (cond (Nat.beq pc 123) (some (.invokestatic 17, 3)) (none)))))))
 (cond (Nat.blt pc 145)
 (cond (Nat.blt pc 135)
 (cond (Nat.blt pc 130)
 (cond (Nat.blt pc 127)
 (cond (Nat.beq pc 126) (some (.iaload, 1)) (none))
 (cond (Nat.blt pc 128)
 (cond (Nat.beq pc 127) (some (.iadd, 1)) (none))
 (cond (Nat.beq pc 128) (some (.istore 4, 2)) (none))))
 (cond (Nat.blt pc 131)
 (cond (Nat.beq pc 130) (some (.aload 0, 1)) (none))
 (cond (Nat.blt pc 134)
 (cond (Nat.beq pc 131) (some (.getfield 207, 3)) (none))
 (cond (Nat.beq pc 134) (some (.iload 2, 1)) (none)))))
 (cond (Nat.blt pc 140)
 (cond (Nat.blt pc 136)
 (cond (Nat.beq pc 135) (some (.iload 3, 1)) (none))
 (cond (Nat.blt pc 139)
 (cond (Nat.beq pc 136) (some (.invokestatic 17, 3)) (none))
 (cond (Nat.beq pc 139) (some (.aload 0, 1)) (none))))
 (cond (Nat.blt pc 143)
 (cond (Nat.beq pc 140) (some (.getfield 207, 3)) (none))
 (cond (Nat.blt pc 144)
 (cond (Nat.beq pc 143) (some (.iload 2, 1)) (none))
 (cond (Nat.beq pc 144) (some (.iload 3, 1)) (none))))))
 (cond (Nat.blt pc 158)
 (cond (Nat.blt pc 151)
 (cond (Nat.blt pc 148)
 (cond (Nat.beq pc 145) (some (.invokestatic 17, 3)) (none))
 (cond (Nat.blt pc 149)
 (cond (Nat.beq pc 148) (some (.iaload, 1)) (none))
 (cond (Nat.beq pc 149) (some (.iload 4, 2)) (none))))
 (cond (Nat.blt pc 154)
 (cond (Nat.beq pc 151) (some (.invokestatic 902, 3)) (none))
 (cond (Nat.blt pc 155)
 (cond (Nat.beq pc 154) (some (.iastore, 1)) (none))
 (cond (Nat.beq pc 155) (some (.iinc 3 1, 3)) (none)))))
 (cond (Nat.blt pc 167)
 (cond (Nat.blt pc 161)
 (cond (Nat.beq pc 158) (some (.goto 99, 3)) (none))
 (cond (Nat.blt pc 164)
 (cond (Nat.beq pc 161) (some (.iinc 2 1, 3)) (none))
 (cond (Nat.beq pc 164) (some (.goto 89, 3)) (none))))
 (cond (Nat.blt pc 170)
 (cond (Nat.beq pc 167) (some (.iinc 1 1, 3)) (none))
 (cond (Nat.blt pc 173)
 (cond (Nat.beq pc 170) (some (.goto 79, 3)) (none))
 (cond (Nat.beq pc 173) (some (.return_, 1)) (none))))))))
-- AlwaysThere$Land.othersMarkedAs(I)I
noncomputable def qc_23 (pc : Nat) : Option (Instr × Nat) := cond (Nat.blt pc 18)
 (cond (Nat.blt pc 6)
 (cond (Nat.blt pc 3)
 (cond (Nat.blt pc 1)
 (cond (Nat.beq pc 0) (some (.iconst 0, 1)) (none))
 (cond (Nat.blt pc 2)
 (cond (Nat.beq pc 1) (some (.istore 2, 1)) (none))
 (cond (Nat.beq pc 2) (some (.iconst 0, 1)) (none))))
 (cond (Nat.blt pc 4)
 (cond (Nat.beq pc 3) (some (.istore 3, 1)) (none))
 (cond (Nat.blt pc 5)
 (cond (Nat.beq pc 4) (some (.iload 3, 1)) (none))
 (cond (Nat.beq pc 5) (some (.aload 0, 1)) (none)))))
 (cond (Nat.blt pc 13)
 (cond (Nat.blt pc 9)
 (cond (Nat.beq pc 6) (some (.getfield 201, 3)) (none))
 (cond (Nat.blt pc 12)
 (cond (Nat.beq pc 9) (some (.if_icmp .ge 41, 3)) (none))
 (cond (Nat.beq pc 12) (some (.iload 3, 1)) (none))))
 (cond (Nat.blt pc 14)
 (cond (Nat.beq pc 13) (some (.iload 1, 1)) (none))
 (cond (Nat.blt pc 17)
 (cond (Nat.beq pc 14) (some (.if_icmp .eq 35, 3)) (none))
 (cond (Nat.beq pc 17) (some (.aload 0, 1)) (none))))))
 (cond (Nat.blt pc 28)
 (cond (Nat.blt pc 23)
 (cond (Nat.blt pc 21)
 (cond (Nat.beq pc 18) (some (.getfield 209, 3)) (none))
 (cond (Nat.blt pc 22)
 (cond (Nat.beq pc 21) (some (.iload 3, 1)) (none))
 (cond (Nat.beq pc 22) (some (.iaload, 1)) (none))))
 (cond (Nat.blt pc 24)
 (cond (Nat.beq pc 23) (some (.aload 0, 1)) (none))
 (cond (Nat.blt pc 27)
 (cond (Nat.beq pc 24) (some (.getfield 209, 3)) (none))
 (cond (Nat.beq pc 27) (some (.iload 1, 1)) (none)))))
 (cond (Nat.blt pc 35)
 (cond (Nat.blt pc 29)
 (cond (Nat.beq pc 28) (some (.iaload, 1)) (none))
 (cond (Nat.blt pc 32)
 (cond (Nat.beq pc 29) (some (.if_icmp .ne 35, 3)) (none))
 (cond (Nat.beq pc 32) (some (.iinc 2 1, 3)) (none))))
 (cond (Nat.blt pc 41)
 (cond (Nat.blt pc 38)
 (cond (Nat.beq pc 35) (some (.iinc 3 1, 3)) (none))
 (cond (Nat.beq pc 38) (some (.goto 4, 3)) (none)))
 (cond (Nat.blt pc 42)
 (cond (Nat.beq pc 41) (some (.iload 2, 1)) (none))
 (cond (Nat.beq pc 42) (some (.ireturn, 1)) (none))))))
-- AlwaysThere$Land.areToldApart(II)Z
noncomputable def qc_24 (pc : Nat) : Option (Instr × Nat) := cond (Nat.blt pc 33)
 (cond (Nat.blt pc 19)
 (cond (Nat.blt pc 7)
 (cond (Nat.blt pc 2)
 (cond (Nat.blt pc 1)
 (cond (Nat.beq pc 0) (some (.iconst 0, 1)) (none))
 (cond (Nat.beq pc 1) (some (.istore 3, 1)) (none)))
 (cond (Nat.blt pc 3)
 (cond (Nat.beq pc 2) (some (.iconst 0, 1)) (none))
 (cond (Nat.blt pc 5)
 (cond (Nat.beq pc 3) (some (.istore 4, 2)) (none))
 (cond (Nat.beq pc 5) (some (.iload 4, 2)) (none)))))
 (cond (Nat.blt pc 14)
 (cond (Nat.blt pc 8)
 (cond (Nat.beq pc 7) (some (.aload 0, 1)) (none))
 (cond (Nat.blt pc 11)
 (cond (Nat.beq pc 8) (some (.getfield 201, 3)) (none))
 (cond (Nat.beq pc 11) (some (.if_icmp .ge 73, 3)) (none))))
 (cond (Nat.blt pc 15)
 (cond (Nat.beq pc 14) (some (.iconst 1, 1)) (none))
 (cond (Nat.blt pc 16)
 (cond (Nat.beq pc 15) (some (.aload 0, 1)) (none))
 (cond (Nat.beq pc 16) (some (.getfield 209, 3)) (none))))))
 (cond (Nat.blt pc 25)
 (cond (Nat.blt pc 22)
 (cond (Nat.blt pc 21)
 (cond (Nat.beq pc 19) (some (.iload 4, 2)) (none))
 (cond (Nat.beq pc 21) (some (.iaload, 1)) (none)))
 (cond (Nat.blt pc 23)
 (cond (Nat.beq pc 22) (some (.iload 2, 1)) (none))
 (cond (Nat.blt pc 24)
 (cond (Nat.beq pc 23) (some (.iand, 1)) (none))
 (cond (Nat.beq pc 24) (some (.ishl, 1)) (none)))))
 (cond (Nat.blt pc 30)
 (cond (Nat.blt pc 27)
 (cond (Nat.beq pc 25) (some (.istore 5, 2)) (none))
 (cond (Nat.blt pc 28)
 (cond (Nat.beq pc 27) (some (.iload 1, 1)) (none))
 (cond (Nat.beq pc 28) (some (.iload 4, 2)) (none))))
 (cond (Nat.blt pc 31)
 (cond (Nat.beq pc 30) (some (.ishr, 1)) (none))
 (cond (Nat.blt pc 32)
 (cond (Nat.beq pc 31) (some (.iconst 1, 1)) (none))
 (cond (Nat.beq pc 32) (some (.iand, 1)) (none)))))))
 (cond (Nat.blt pc 55)
 (cond (Nat.blt pc 43)
 (cond (Nat.blt pc 37)
 (cond (Nat.blt pc 36)
 (cond (Nat.beq pc 33) (some (.ifCond .eq 40, 3)) (none))
 (cond (Nat.beq pc 36) (some (.iconst 1, 1)) (none)))
 (cond (Nat.blt pc 40)
 (cond (Nat.beq pc 37) (some (.goto 41, 3)) (none))
 (cond (Nat.blt pc 41)
 (cond (Nat.beq pc 40) (some (.iconst 0, 1)) (none))
 (cond (Nat.beq pc 41) (some (.istore 6, 2)) (none)))))
 (cond (Nat.blt pc 49)
 (cond (Nat.blt pc 45)
 (cond (Nat.beq pc 43) (some (.iload 6, 2)) (none))
 (cond (Nat.blt pc 48)
 (cond (Nat.beq pc 45) (some (.ifCond .eq 57, 3)) (none))
 (cond (Nat.beq pc 48) (some (.iload 3, 1)) (none))))
 (cond (Nat.blt pc 51)
 (cond (Nat.beq pc 49) (some (.iload 5, 2)) (none))
 (cond (Nat.blt pc 52)
 (cond (Nat.beq pc 51) (some (.iand, 1)) (none))
 (cond (Nat.beq pc 52) (some (.ifCond .eq 57, 3)) (none))))))
 (cond (Nat.blt pc 65)
 (cond (Nat.blt pc 59)
 (cond (Nat.blt pc 56)
 (cond (Nat.beq pc 55) (some (.iconst 0, 1)) (none))
 (cond (Nat.blt pc 57)
 (cond (Nat.beq pc 56) (some (.freturn, 1)) (none))
 (cond (Nat.beq pc 57) (some (.iload 6, 2)) (none))))
 (cond (Nat.blt pc 62)
 (cond (Nat.beq pc 59) (some (.ifCond .eq 67, 3)) (none))
 (cond (Nat.blt pc 63)
 (cond (Nat.beq pc 62) (some (.iload 3, 1)) (none))
 (cond (Nat.beq pc 63) (some (.iload 5, 2)) (none)))))
 (cond (Nat.blt pc 70)
 (cond (Nat.blt pc 66)
 (cond (Nat.beq pc 65) (some (.ior, 1)) (none))
 (cond (Nat.blt pc 67)
 (cond (Nat.beq pc 66) (some (.istore 3, 1)) (none))
 (cond (Nat.beq pc 67) (some (.iinc 4 1, 3)) (none))))
 (cond (Nat.blt pc 73)
 (cond (Nat.beq pc 70) (some (.goto 5, 3)) (none))
 (cond (Nat.blt pc 74)
 (cond (Nat.beq pc 73) (some (.iconst 1, 1)) (none))
 (cond (Nat.beq pc 74) (some (.freturn, 1)) (none)))))))
-- AlwaysThere$Land.canHaveBeen(III)Z
noncomputable def qc_25 (pc : Nat) : Option (Instr × Nat) := cond (Nat.blt pc 40)
 (cond (Nat.blt pc 19)
 (cond (Nat.blt pc 8)
 (cond (Nat.blt pc 5)
 (cond (Nat.blt pc 1)
 (cond (Nat.beq pc 0) (some (.iload 2, 1)) (none))
 (cond (Nat.blt pc 2)
 (cond (Nat.beq pc 1) (some (.aload 0, 1)) (none))
 (cond (Nat.beq pc 2) (some (.getfield 209, 3)) (none))))
 (cond (Nat.blt pc 6)
 (cond (Nat.beq pc 5) (some (.iload 1, 1)) (none))
 (cond (Nat.blt pc 7)
 (cond (Nat.beq pc 6) (some (.iaload, 1)) (none))
 (cond (Nat.beq pc 7) (some (.iconst (-1), 1)) (none)))))
 (cond (Nat.blt pc 13)
 (cond (Nat.blt pc 9)
 (cond (Nat.beq pc 8) (some (.ixor, 1)) (none))
 (cond (Nat.blt pc 10)
 (cond (Nat.beq pc 9) (some (.iand, 1)) (none))
 (cond (Nat.beq pc 10) (some (.ifCond .eq 15, 3)) (none))))
 (cond (Nat.blt pc 15)
 (cond (Nat.blt pc 14)
 (cond (Nat.beq pc 13) (some (.iconst 0, 1)) (none))
 (cond (Nat.beq pc 14) (some (.freturn, 1)) (none)))
 (cond (Nat.blt pc 16)
 (cond (Nat.beq pc 15) (some (.aload 0, 1)) (none))
 (cond (Nat.beq pc 16) (some (.getfield 209, 3)) (none))))))
 (cond (Nat.blt pc 27)
 (cond (Nat.blt pc 22)
 (cond (Nat.blt pc 20)
 (cond (Nat.beq pc 19) (some (.iload 1, 1)) (none))
 (cond (Nat.blt pc 21)
 (cond (Nat.beq pc 20) (some (.iaload, 1)) (none))
 (cond (Nat.beq pc 21) (some (.iload 2, 1)) (none))))
 (cond (Nat.blt pc 24)
 (cond (Nat.blt pc 23)
 (cond (Nat.beq pc 22) (some (.iconst (-1), 1)) (none))
 (cond (Nat.beq pc 23) (some (.ixor, 1)) (none)))
 (cond (Nat.blt pc 25)
 (cond (Nat.beq pc 24) (some (.iand, 1)) (none))
 (cond (Nat.beq pc 25) (some (.istore 4, 2)) (none)))))
 (cond (Nat.blt pc 32)
 (cond (Nat.blt pc 28)
 (cond (Nat.beq pc 27) (some (.iconst 0, 1)) (none))
 (cond (Nat.blt pc 30)
 (cond (Nat.beq pc 28) (some (.istore 5, 2)) (none))
 (cond (Nat.beq pc 30) (some (.iload 5, 2)) (none))))
 (cond (Nat.blt pc 36)
 (cond (Nat.blt pc 33)
 (cond (Nat.beq pc 32) (some (.iconst 4, 1)) (none))
 (cond (Nat.beq pc 33) (some (.if_icmp .ge 86, 3)) (none)))
 (cond (Nat.blt pc 37)
 (cond (Nat.beq pc 36) (some (.aload 0, 1)) (none))
 (cond (Nat.beq pc 37) (some (.getfield 205, 3)) (none)))))))
 (cond (Nat.blt pc 63)
 (cond (Nat.blt pc 51)
 (cond (Nat.blt pc 45)
 (cond (Nat.blt pc 43)
 (cond (Nat.beq pc 40) (some (.ifCond .le 60, 3)) (none))
 (cond (Nat.blt pc 44)
 (cond (Nat.beq pc 43) (some (.iload 3, 1)) (none))
 (cond (Nat.beq pc 44) (some (.aload 0, 1)) (none))))
 (cond (Nat.blt pc 48)
 (cond (Nat.beq pc 45) (some (.getfield 205, 3)) (none))
 (cond (Nat.blt pc 50)
 (cond (Nat.beq pc 48) (some (.iload 5, 2)) (none))
 (cond (Nat.beq pc 50) (some (.iconst 1, 1)) (none)))))
 (cond (Nat.blt pc 56)
 (cond (Nat.blt pc 52)
 (cond (Nat.beq pc 51) (some (.iadd, 1)) (none))
 (cond (Nat.blt pc 53)
 (cond (Nat.beq pc 52) (some (.imul, 1)) (none))
 (cond (Nat.beq pc 53) (some (.if_icmp .lt 60, 3)) (none))))
 (cond (Nat.blt pc 60)
 (cond (Nat.blt pc 57)
 (cond (Nat.beq pc 56) (some (.iconst 1, 1)) (none))
 (cond (Nat.beq pc 57) (some (.goto 61, 3)) (none)))
 (cond (Nat.blt pc 61)
 (cond (Nat.beq pc 60) (some (.iconst 0, 1)) (none))
 (cond (Nat.beq pc 61) (some (.istore 6, 2)) (none))))))
 (cond (Nat.blt pc 75)
 (cond (Nat.blt pc 68)
 (cond (Nat.blt pc 65)
 (cond (Nat.beq pc 63) (some (.iload 4, 2)) (none))
 (cond (Nat.blt pc 67)
 (cond (Nat.beq pc 65) (some (.iload 5, 2)) (none))
 (cond (Nat.beq pc 67) (some (.ishr, 1)) (none))))
 (cond (Nat.blt pc 70)
 (cond (Nat.blt pc 69)
 (cond (Nat.beq pc 68) (some (.iconst 1, 1)) (none))
 (cond (Nat.beq pc 69) (some (.iand, 1)) (none)))
 (cond (Nat.blt pc 73)
 (cond (Nat.beq pc 70) (some (.ifCond .eq 80, 3)) (none))
 (cond (Nat.beq pc 73) (some (.iload 6, 2)) (none)))))
 (cond (Nat.blt pc 80)
 (cond (Nat.blt pc 78)
 (cond (Nat.beq pc 75) (some (.ifCond .ne 80, 3)) (none))
 (cond (Nat.blt pc 79)
 (cond (Nat.beq pc 78) (some (.iconst 0, 1)) (none))
 (cond (Nat.beq pc 79) (some (.freturn, 1)) (none))))
 (cond (Nat.blt pc 86)
 (cond (Nat.blt pc 83)
 (cond (Nat.beq pc 80) (some (.iinc 5 1, 3)) (none))
 (cond (Nat.beq pc 83) (some (.goto 30, 3)) (none)))
 (cond (Nat.blt pc 87)
 (cond (Nat.beq pc 86) (some (.iconst 1, 1)) (none))
 (cond (Nat.beq pc 87) (some (.freturn, 1)) (none)))))))
-- AlwaysThere$Now.<init>()V
noncomputable def qc_26 (pc : Nat) : Option (Instr × Nat) := cond (Nat.blt pc 28)
 (cond (Nat.blt pc 13)
 (cond (Nat.blt pc 5)
 (cond (Nat.blt pc 1)
 (cond (Nat.beq pc 0) (some (.aload 0, 1)) (none))
 (cond (Nat.blt pc 4)
 (cond (Nat.beq pc 1) (some (.invokespecial 901, 3)) (none))
 (cond (Nat.beq pc 4) (some (.aload 0, 1)) (none))))
 (cond (Nat.blt pc 9)
 (cond (Nat.blt pc 7)
 (cond (Nat.beq pc 5) (some (.iconst 12, 2)) (none))
 (cond (Nat.beq pc 7) (some (.newarray .int, 2)) (none)))
 (cond (Nat.blt pc 12)
 (cond (Nat.beq pc 9) (some (.putfield 302, 3)) (none))
 (cond (Nat.beq pc 12) (some (.aload 0, 1)) (none)))))
 (cond (Nat.blt pc 20)
 (cond (Nat.blt pc 15)
 (cond (Nat.beq pc 13) (some (.iconst 12, 2)) (none))
 (cond (Nat.blt pc 17)
 (cond (Nat.beq pc 15) (some (.newarray .int, 2)) (none))
 (cond (Nat.beq pc 17) (some (.putfield 303, 3)) (none))))
 (cond (Nat.blt pc 23)
 (cond (Nat.blt pc 21)
 (cond (Nat.beq pc 20) (some (.aload 0, 1)) (none))
 (cond (Nat.beq pc 21) (some (.iconst 12, 2)) (none)))
 (cond (Nat.blt pc 25)
 (cond (Nat.beq pc 23) (some (.newarray .int, 2)) (none))
 (cond (Nat.beq pc 25) (some (.putfield 304, 3)) (none))))))
 (cond (Nat.blt pc 41)
 (cond (Nat.blt pc 33)
 (cond (Nat.blt pc 29)
 (cond (Nat.beq pc 28) (some (.aload 0, 1)) (none))
 (cond (Nat.blt pc 31)
 (cond (Nat.beq pc 29) (some (.iconst 12, 2)) (none))
 (cond (Nat.beq pc 31) (some (.newarray .int, 2)) (none))))
 (cond (Nat.blt pc 37)
 (cond (Nat.blt pc 36)
 (cond (Nat.beq pc 33) (some (.putfield 305, 3)) (none))
 (cond (Nat.beq pc 36) (some (.aload 0, 1)) (none)))
 (cond (Nat.blt pc 39)
 (cond (Nat.beq pc 37) (some (.iconst 8, 2)) (none))
 (cond (Nat.beq pc 39) (some (.newarray .int, 2)) (none)))))
 (cond (Nat.blt pc 49)
 (cond (Nat.blt pc 45)
 (cond (Nat.blt pc 44)
 (cond (Nat.beq pc 41) (some (.putfield 306, 3)) (none))
 (cond (Nat.beq pc 44) (some (.aload 0, 1)) (none)))
 (cond (Nat.blt pc 47)
 (cond (Nat.beq pc 45) (some (.iconst 8, 2)) (none))
 (cond (Nat.beq pc 47) (some (.newarray .int, 2)) (none))))
 (cond (Nat.blt pc 53)
 (cond (Nat.blt pc 52)
 (cond (Nat.beq pc 49) (some (.putfield 307, 3)) (none))
 (cond (Nat.beq pc 52) (some (.aload 0, 1)) (none)))
 (cond (Nat.blt pc 56)
 (cond (Nat.beq pc 53) (some (.invokevirtual 27, 3)) (none))
 (cond (Nat.beq pc 56) (some (.return_, 1)) (none))))))
-- AlwaysThere$Now.wipe()V
noncomputable def qc_27 (pc : Nat) : Option (Instr × Nat) := cond (Nat.blt pc 10)
 (cond (Nat.blt pc 5)
 (cond (Nat.blt pc 1)
 (cond (Nat.beq pc 0) (some (.aload 0, 1)) (none))
 (cond (Nat.blt pc 2)
 (cond (Nat.beq pc 1) (some (.iconst 0, 1)) (none))
 (cond (Nat.beq pc 2) (some (.putfield 301, 3)) (none))))
 (cond (Nat.blt pc 6)
 (cond (Nat.beq pc 5) (some (.aload 0, 1)) (none))
 (cond (Nat.blt pc 9)
 (cond (Nat.beq pc 6) (some (.getfield 306, 3)) (none))
 (cond (Nat.beq pc 9) (some (.iconst 0, 1)) (none)))))
 (cond (Nat.blt pc 17)
 (cond (Nat.blt pc 13)
 (cond (Nat.beq pc 10) (some (.invokestatic 169, 3)) (none))
 (cond (Nat.blt pc 14)
 (cond (Nat.beq pc 13) (some (.aload 0, 1)) (none))
 (cond (Nat.beq pc 14) (some (.getfield 307, 3)) (none))))
 (cond (Nat.blt pc 19)
 (cond (Nat.beq pc 17) (some (.iconst (-9), 2)) (none))
 (cond (Nat.blt pc 22)
 (cond (Nat.beq pc 19) (some (.invokestatic 169, 3)) (none))
 (cond (Nat.beq pc 22) (some (.return_, 1)) (none)))))
-- AlwaysThere$Now.become(LAlwaysThere$Now;)V
noncomputable def qc_28 (pc : Nat) : Option (Instr × Nat) := cond (Nat.blt pc 48)
 (cond (Nat.blt pc 24)
 (cond (Nat.blt pc 12)
 (cond (Nat.blt pc 5)
 (cond (Nat.blt pc 1)
 (cond (Nat.beq pc 0) (some (.aload 0, 1)) (none))
 (cond (Nat.blt pc 2)
 (cond (Nat.beq pc 1) (some (.aload 1, 1)) (none))
 (cond (Nat.beq pc 2) (some (.getfield 301, 3)) (none))))
 (cond (Nat.blt pc 8)
 (cond (Nat.beq pc 5) (some (.putfield 301, 3)) (none))
 (cond (Nat.blt pc 9)
 (cond (Nat.beq pc 8) (some (.aload 1, 1)) (none))
 (cond (Nat.beq pc 9) (some (.getfield 302, 3)) (none)))))
 (cond (Nat.blt pc 17)
 (cond (Nat.blt pc 13)
 (cond (Nat.beq pc 12) (some (.iconst 0, 1)) (none))
 (cond (Nat.blt pc 14)
 (cond (Nat.beq pc 13) (some (.aload 0, 1)) (none))
 (cond (Nat.beq pc 14) (some (.getfield 302, 3)) (none))))
 (cond (Nat.blt pc 20)
 (cond (Nat.blt pc 18)
 (cond (Nat.beq pc 17) (some (.iconst 0, 1)) (none))
 (cond (Nat.beq pc 18) (some (.iconst 12, 2)) (none)))
 (cond (Nat.blt pc 23)
 (cond (Nat.beq pc 20) (some (.invokestatic 900, 3)) (none))
 (cond (Nat.beq pc 23) (some (.aload 1, 1)) (none))))))
 (cond (Nat.blt pc 35)
 (cond (Nat.blt pc 29)
 (cond (Nat.blt pc 27)
 (cond (Nat.beq pc 24) (some (.getfield 303, 3)) (none))
 (cond (Nat.blt pc 28)
 (cond (Nat.beq pc 27) (some (.iconst 0, 1)) (none))
 (cond (Nat.beq pc 28) (some (.aload 0, 1)) (none))))
 (cond (Nat.blt pc 32)
 (cond (Nat.beq pc 29) (some (.getfield 303, 3)) (none))
 (cond (Nat.blt pc 33)
 (cond (Nat.beq pc 32) (some (.iconst 0, 1)) (none))
 (cond (Nat.beq pc 33) (some (.iconst 12, 2)) (none)))))
 (cond (Nat.blt pc 42)
 (cond (Nat.blt pc 38)
 (cond (Nat.beq pc 35) (some (.invokestatic 900, 3)) (none))
 (cond (Nat.blt pc 39)
 (cond (Nat.beq pc 38) (some (.aload 1, 1)) (none))
 (cond (Nat.beq pc 39) (some (.getfield 304, 3)) (none))))
 (cond (Nat.blt pc 44)
 (cond (Nat.blt pc 43)
 (cond (Nat.beq pc 42) (some (.iconst 0, 1)) (none))
 (cond (Nat.beq pc 43) (some (.aload 0, 1)) (none)))
 (cond (Nat.blt pc 47)
 (cond (Nat.beq pc 44) (some (.getfield 304, 3)) (none))
 (cond (Nat.beq pc 47) (some (.iconst 0, 1)) (none)))))))
 (cond (Nat.blt pc 73)
 (cond (Nat.blt pc 59)
 (cond (Nat.blt pc 54)
 (cond (Nat.blt pc 50)
 (cond (Nat.beq pc 48) (some (.iconst 12, 2)) (none))
 (cond (Nat.blt pc 53)
 (cond (Nat.beq pc 50) (some (.invokestatic 900, 3)) (none))
 (cond (Nat.beq pc 53) (some (.aload 1, 1)) (none))))
 (cond (Nat.blt pc 57)
 (cond (Nat.beq pc 54) (some (.getfield 305, 3)) (none))
 (cond (Nat.blt pc 58)
 (cond (Nat.beq pc 57) (some (.iconst 0, 1)) (none))
 (cond (Nat.beq pc 58) (some (.aload 0, 1)) (none)))))
 (cond (Nat.blt pc 65)
 (cond (Nat.blt pc 62)
 (cond (Nat.beq pc 59) (some (.getfield 305, 3)) (none))
 (cond (Nat.blt pc 63)
 (cond (Nat.beq pc 62) (some (.iconst 0, 1)) (none))
 (cond (Nat.beq pc 63) (some (.iconst 12, 2)) (none))))
 (cond (Nat.blt pc 69)
 (cond (Nat.blt pc 68)
 (cond (Nat.beq pc 65) (some (.invokestatic 900, 3)) (none))
 (cond (Nat.beq pc 68) (some (.aload 1, 1)) (none)))
 (cond (Nat.blt pc 72)
 (cond (Nat.beq pc 69) (some (.getfield 306, 3)) (none))
 (cond (Nat.beq pc 72) (some (.iconst 0, 1)) (none))))))
 (cond (Nat.blt pc 87)
 (cond (Nat.blt pc 78)
 (cond (Nat.blt pc 74)
 (cond (Nat.beq pc 73) (some (.aload 0, 1)) (none))
 (cond (Nat.blt pc 77)
 (cond (Nat.beq pc 74) (some (.getfield 306, 3)) (none))
 (cond (Nat.beq pc 77) (some (.iconst 0, 1)) (none))))
 (cond (Nat.blt pc 83)
 (cond (Nat.blt pc 80)
 (cond (Nat.beq pc 78) (some (.iconst 8, 2)) (none))
 (cond (Nat.beq pc 80) (some (.invokestatic 900, 3)) (none)))
 (cond (Nat.blt pc 84)
 (cond (Nat.beq pc 83) (some (.aload 1, 1)) (none))
 (cond (Nat.beq pc 84) (some (.getfield 307, 3)) (none)))))
 (cond (Nat.blt pc 92)
 (cond (Nat.blt pc 88)
 (cond (Nat.beq pc 87) (some (.iconst 0, 1)) (none))
 (cond (Nat.blt pc 89)
 (cond (Nat.beq pc 88) (some (.aload 0, 1)) (none))
 (cond (Nat.beq pc 89) (some (.getfield 307, 3)) (none))))
 (cond (Nat.blt pc 95)
 (cond (Nat.blt pc 93)
 (cond (Nat.beq pc 92) (some (.iconst 0, 1)) (none))
 (cond (Nat.beq pc 93) (some (.iconst 8, 2)) (none)))
 (cond (Nat.blt pc 98)
 (cond (Nat.beq pc 95) (some (.invokestatic 900, 3)) (none))
 (cond (Nat.beq pc 98) (some (.return_, 1)) (none)))))))
-- AlwaysThere$Now.addSits(IIII)V
noncomputable def qc_29 (pc : Nat) : Option (Instr × Nat) := cond (Nat.blt pc 31)
 (cond (Nat.blt pc 18)
 (cond (Nat.blt pc 9)
 (cond (Nat.blt pc 4)
 (cond (Nat.blt pc 1)
 (cond (Nat.beq pc 0) (some (.aload 0, 1)) (none))
 (cond (Nat.beq pc 1) (some (.getfield 301, 3)) (none)))
 (cond (Nat.blt pc 6)
 (cond (Nat.beq pc 4) (some (.iconst 12, 2)) (none))
 (cond (Nat.beq pc 6) (some (.if_icmp .lt 10, 3)) (none))))
 (cond (Nat.blt pc 11)
 (cond (Nat.blt pc 10)
 (cond (Nat.beq pc 9) (some (.return_, 1)) (none))
 (cond (Nat.beq pc 10) (some (.aload 0, 1)) (none)))
 (cond (Nat.blt pc 14)
 (cond (Nat.beq pc 11) (some (.getfield 302, 3)) (none))
 (cond (Nat.blt pc 15)
 (cond (Nat.beq pc 14) (some (.aload 0, 1)) (none))
 (cond (Nat.beq pc 15) (some (.getfield 301, 3)) (none))))))
 (cond (Nat.blt pc 24)
 (cond (Nat.blt pc 20)
 (cond (Nat.blt pc 19)
 (cond (Nat.beq pc 18) (some (.iload 1, 1)) (none))
 (cond (Nat.beq pc 19) (some (.iastore, 1)) (none)))
 (cond (Nat.blt pc 21)
 (cond (Nat.beq pc 20) (some (.aload 0, 1)) (none))
 (cond (Nat.beq pc 21) (some (.getfield 303, 3)) (none))))
 (cond (Nat.blt pc 28)
 (cond (Nat.blt pc 25)
 (cond (Nat.beq pc 24) (some (.aload 0, 1)) (none))
 (cond (Nat.beq pc 25) (some (.getfield 301, 3)) (none)))
 (cond (Nat.blt pc 29)
 (cond (Nat.beq pc 28) (some (.iload 2, 1)) (none))
 (cond (Nat.blt pc 30)
 (cond (Nat.beq pc 29) (some (.iastore, 1)) (none))
 (cond (Nat.beq pc 30) (some (.aload 0, 1)) (none)))))))
 (cond (Nat.blt pc 48)
 (cond (Nat.blt pc 39)
 (cond (Nat.blt pc 35)
 (cond (Nat.blt pc 34)
 (cond (Nat.beq pc 31) (some (.getfield 304, 3)) (none))
 (cond (Nat.beq pc 34) (some (.aload 0, 1)) (none)))
 (cond (Nat.blt pc 38)
 (cond (Nat.beq pc 35) (some (.getfield 301, 3)) (none))
 (cond (Nat.beq pc 38) (some (.iload 3, 1)) (none))))
 (cond (Nat.blt pc 41)
 (cond (Nat.blt pc 40)
 (cond (Nat.beq pc 39) (some (.iastore, 1)) (none))
 (cond (Nat.beq pc 40) (some (.aload 0, 1)) (none)))
 (cond (Nat.blt pc 44)
 (cond (Nat.beq pc 41) (some (.getfield 305, 3)) (none))
 (cond (Nat.blt pc 45)
 (cond (Nat.beq pc 44) (some (.aload 0, 1)) (none))
 (cond (Nat.beq pc 45) (some (.getfield 301, 3)) (none))))))
 (cond (Nat.blt pc 53)
 (cond (Nat.blt pc 51)
 (cond (Nat.blt pc 50)
 (cond (Nat.beq pc 48) (some (.iload 4, 2)) (none))
 (cond (Nat.beq pc 50) (some (.iastore, 1)) (none)))
 (cond (Nat.blt pc 52)
 (cond (Nat.beq pc 51) (some (.aload 0, 1)) (none))
 (cond (Nat.beq pc 52) (some (.dup, 1)) (none))))
 (cond (Nat.blt pc 57)
 (cond (Nat.blt pc 56)
 (cond (Nat.beq pc 53) (some (.getfield 301, 3)) (none))
 (cond (Nat.beq pc 56) (some (.iconst 1, 1)) (none)))
 (cond (Nat.blt pc 58)
 (cond (Nat.beq pc 57) (some (.iadd, 1)) (none))
 (cond (Nat.blt pc 61)
 (cond (Nat.beq pc 58) (some (.putfield 301, 3)) (none))
 (cond (Nat.beq pc 61) (some (.return_, 1)) (none)))))))
-- AlwaysThere$Now.dropLastSits()V
noncomputable def qc_30 (pc : Nat) : Option (Instr × Nat) := cond (Nat.blt pc 9)
 (cond (Nat.blt pc 4)
 (cond (Nat.blt pc 1)
 (cond (Nat.beq pc 0) (some (.aload 0, 1)) (none))
 (cond (Nat.beq pc 1) (some (.getfield 301, 3)) (none)))
 (cond (Nat.blt pc 7)
 (cond (Nat.beq pc 4) (some (.ifCond .le 17, 3)) (none))
 (cond (Nat.blt pc 8)
 (cond (Nat.beq pc 7) (some (.aload 0, 1)) (none))
 (cond (Nat.beq pc 8) (some (.dup, 1)) (none)))))
 (cond (Nat.blt pc 13)
 (cond (Nat.blt pc 12)
 (cond (Nat.beq pc 9) (some (.getfield 301, 3)) (none))
 (cond (Nat.beq pc 12) (some (.iconst 1, 1)) (none)))
 (cond (Nat.blt pc 14)
 (cond (Nat.beq pc 13) (some (.isub, 1)) (none))
 (cond (Nat.blt pc 17)
 (cond (Nat.beq pc 14) (some (.putfield 301, 3)) (none))
 (cond (Nat.beq pc 17) (some (.return_, 1)) (none)))))
-- AlwaysThere$Now.agrees(IIII)Z
noncomputable def qc_31 (pc : Nat) : Option (Instr × Nat) := cond (Nat.blt pc 48)
 (cond (Nat.blt pc 22)
 (cond (Nat.blt pc 10)
 (cond (Nat.blt pc 5)
 (cond (Nat.blt pc 1)
 (cond (Nat.beq pc 0) (some (.iload 3, 1)) (none))
 (cond (Nat.blt pc 2)
 (cond (Nat.beq pc 1) (some (.aload 0, 1)) (none))
 (cond (Nat.beq pc 2) (some (.getfield 305, 3)) (none))))
 (cond (Nat.blt pc 6)
 (cond (Nat.beq pc 5) (some (.iload 1, 1)) (none))
 (cond (Nat.blt pc 7)
 (cond (Nat.beq pc 6) (some (.iaload, 1)) (none))
 (cond (Nat.beq pc 7) (some (.if_icmp .gt 25, 3)) (none)))))
 (cond (Nat.blt pc 15)
 (cond (Nat.blt pc 11)
 (cond (Nat.beq pc 10) (some (.aload 0, 1)) (none))
 (cond (Nat.blt pc 14)
 (cond (Nat.beq pc 11) (some (.getfield 304, 3)) (none))
 (cond (Nat.beq pc 14) (some (.iload 1, 1)) (none))))
 (cond (Nat.blt pc 18)
 (cond (Nat.blt pc 16)
 (cond (Nat.beq pc 15) (some (.iaload, 1)) (none))
 (cond (Nat.beq pc 16) (some (.iload 4, 2)) (none)))
 (cond (Nat.blt pc 21)
 (cond (Nat.beq pc 18) (some (.if_icmp .gt 25, 3)) (none))
 (cond (Nat.beq pc 21) (some (.iconst 1, 1)) (none))))))
 (cond (Nat.blt pc 37)
 (cond (Nat.blt pc 28)
 (cond (Nat.blt pc 25)
 (cond (Nat.beq pc 22) (some (.goto 26, 3)) (none))
 (cond (Nat.blt pc 26)
 (cond (Nat.beq pc 25) (some (.iconst 0, 1)) (none))
 (cond (Nat.beq pc 26) (some (.istore 5, 2)) (none))))
 (cond (Nat.blt pc 33)
 (cond (Nat.blt pc 30)
 (cond (Nat.beq pc 28) (some (.iload 5, 2)) (none))
 (cond (Nat.beq pc 30) (some (.ifCond .eq 43, 3)) (none)))
 (cond (Nat.blt pc 34)
 (cond (Nat.beq pc 33) (some (.iload 2, 1)) (none))
 (cond (Nat.beq pc 34) (some (.ifCond .ne 41, 3)) (none)))))
 (cond (Nat.blt pc 42)
 (cond (Nat.blt pc 38)
 (cond (Nat.beq pc 37) (some (.iconst 1, 1)) (none))
 (cond (Nat.blt pc 41)
 (cond (Nat.beq pc 38) (some (.goto 42, 3)) (none))
 (cond (Nat.beq pc 41) (some (.iconst 0, 1)) (none))))
 (cond (Nat.blt pc 44)
 (cond (Nat.blt pc 43)
 (cond (Nat.beq pc 42) (some (.freturn, 1)) (none))
 (cond (Nat.beq pc 43) (some (.iload 3, 1)) (none)))
 (cond (Nat.blt pc 45)
 (cond (Nat.beq pc 44) (some (.aload 0, 1)) (none))
 (cond (Nat.beq pc 45) (some (.getfield 305, 3)) (none)))))))
 (cond (Nat.blt pc 69)
 (cond (Nat.blt pc 58)
 (cond (Nat.blt pc 53)
 (cond (Nat.blt pc 49)
 (cond (Nat.beq pc 48) (some (.iload 1, 1)) (none))
 (cond (Nat.blt pc 50)
 (cond (Nat.beq pc 49) (some (.iaload, 1)) (none))
 (cond (Nat.beq pc 50) (some (.if_icmp .le 64, 3)) (none))))
 (cond (Nat.blt pc 54)
 (cond (Nat.beq pc 53) (some (.iload 3, 1)) (none))
 (cond (Nat.blt pc 55)
 (cond (Nat.beq pc 54) (some (.aload 0, 1)) (none))
 (cond (Nat.beq pc 55) (some (.getfield 305, 3)) (none)))))
 (cond (Nat.blt pc 61)
 (cond (Nat.blt pc 59)
 (cond (Nat.beq pc 58) (some (.iload 1, 1)) (none))
 (cond (Nat.blt pc 60)
 (cond (Nat.beq pc 59) (some (.iaload, 1)) (none))
 (cond (Nat.beq pc 60) (some (.isub, 1)) (none))))
 (cond (Nat.blt pc 65)
 (cond (Nat.blt pc 64)
 (cond (Nat.beq pc 61) (some (.goto 73, 3)) (none))
 (cond (Nat.beq pc 64) (some (.aload 0, 1)) (none)))
 (cond (Nat.blt pc 68)
 (cond (Nat.beq pc 65) (some (.getfield 304, 3)) (none))
 (cond (Nat.beq pc 68) (some (.iload 1, 1)) (none))))))
 (cond (Nat.blt pc 81)
 (cond (Nat.blt pc 73)
 (cond (Nat.blt pc 70)
 (cond (Nat.beq pc 69) (some (.iaload, 1)) (none))
 (cond (Nat.blt pc 72)
 (cond (Nat.beq pc 70) (some (.iload 4, 2)) (none))
 (cond (Nat.beq pc 72) (some (.isub, 1)) (none))))
 (cond (Nat.blt pc 76)
 (cond (Nat.blt pc 75)
 (cond (Nat.beq pc 73) (some (.istore 6, 2)) (none))
 (cond (Nat.beq pc 75) (some (.iload 2, 1)) (none)))
 (cond (Nat.blt pc 78)
 (cond (Nat.beq pc 76) (some (.iconst (-9), 2)) (none))
 (cond (Nat.beq pc 78) (some (.if_icmp .eq 91, 3)) (none)))))
 (cond (Nat.blt pc 87)
 (cond (Nat.blt pc 82)
 (cond (Nat.beq pc 81) (some (.iload 2, 1)) (none))
 (cond (Nat.blt pc 84)
 (cond (Nat.beq pc 82) (some (.iload 6, 2)) (none))
 (cond (Nat.beq pc 84) (some (.if_icmp .gt 91, 3)) (none))))
 (cond (Nat.blt pc 91)
 (cond (Nat.blt pc 88)
 (cond (Nat.beq pc 87) (some (.iconst 1, 1)) (none))
 (cond (Nat.beq pc 88) (some (.goto 92, 3)) (none)))
 (cond (Nat.blt pc 92)
 (cond (Nat.beq pc 91) (some (.iconst 0, 1)) (none))
 (cond (Nat.beq pc 92) (some (.freturn, 1)) (none)))))))
-- AlwaysThere$Now.sittersAt(II)I
noncomputable def qc_32 (pc : Nat) : Option (Instr × Nat) := cond (Nat.blt pc 41)
 (cond (Nat.blt pc 21)
 (cond (Nat.blt pc 8)
 (cond (Nat.blt pc 3)
 (cond (Nat.blt pc 1)
 (cond (Nat.beq pc 0) (some (.iconst 0, 1)) (none))
 (cond (Nat.blt pc 2)
 (cond (Nat.beq pc 1) (some (.istore 3, 1)) (none))
 (cond (Nat.beq pc 2) (some (.iconst 0, 1)) (none))))
 (cond (Nat.blt pc 5)
 (cond (Nat.beq pc 3) (some (.istore 4, 2)) (none))
 (cond (Nat.blt pc 7)
 (cond (Nat.beq pc 5) (some (.iload 4, 2)) (none))
 (cond (Nat.beq pc 7) (some (.aload 0, 1)) (none)))))
 (cond (Nat.blt pc 15)
 (cond (Nat.blt pc 11)
 (cond (Nat.beq pc 8) (some (.getfield 301, 3)) (none))
 (cond (Nat.blt pc 14)
 (cond (Nat.beq pc 11) (some (.if_icmp .ge 80, 3)) (none))
 (cond (Nat.beq pc 14) (some (.iload 1, 1)) (none))))
 (cond (Nat.blt pc 16)
 (cond (Nat.beq pc 15) (some (.aload 0, 1)) (none))
 (cond (Nat.blt pc 19)
 (cond (Nat.beq pc 16) (some (.getfield 303, 3)) (none))
 (cond (Nat.beq pc 19) (some (.iload 4, 2)) (none))))))
 (cond (Nat.blt pc 29)
 (cond (Nat.blt pc 24)
 (cond (Nat.blt pc 22)
 (cond (Nat.beq pc 21) (some (.iaload, 1)) (none))
 (cond (Nat.blt pc 23)
 (cond (Nat.beq pc 22) (some (.ishr, 1)) (none))
 (cond (Nat.beq pc 23) (some (.iconst 1, 1)) (none))))
 (cond (Nat.blt pc 25)
 (cond (Nat.beq pc 24) (some (.iand, 1)) (none))
 (cond (Nat.blt pc 28)
 (cond (Nat.beq pc 25) (some (.ifCond .eq 32, 3)) (none))
 (cond (Nat.beq pc 28) (some (.iconst 1, 1)) (none)))))
 (cond (Nat.blt pc 35)
 (cond (Nat.blt pc 32)
 (cond (Nat.beq pc 29) (some (.goto 33, 3)) (none))
 (cond (Nat.blt pc 33)
 (cond (Nat.beq pc 32) (some (.iconst 0, 1)) (none))
 (cond (Nat.beq pc 33) (some (.istore 5, 2)) (none))))
 (cond (Nat.blt pc 37)
 (cond (Nat.beq pc 35) (some (.iload 5, 2)) (none))
 (cond (Nat.blt pc 40)
 (cond (Nat.beq pc 37) (some (.ifCond .eq 74, 3)) (none))
 (cond (Nat.beq pc 40) (some (.aload 0, 1)) (none)))))))
 (cond (Nat.blt pc 63)
 (cond (Nat.blt pc 52)
 (cond (Nat.blt pc 47)
 (cond (Nat.blt pc 44)
 (cond (Nat.beq pc 41) (some (.getfield 304, 3)) (none))
 (cond (Nat.blt pc 46)
 (cond (Nat.beq pc 44) (some (.iload 4, 2)) (none))
 (cond (Nat.beq pc 46) (some (.iaload, 1)) (none))))
 (cond (Nat.blt pc 48)
 (cond (Nat.beq pc 47) (some (.iload 2, 1)) (none))
 (cond (Nat.blt pc 51)
 (cond (Nat.beq pc 48) (some (.if_icmp .gt 74, 3)) (none))
 (cond (Nat.beq pc 51) (some (.iload 2, 1)) (none)))))
 (cond (Nat.blt pc 58)
 (cond (Nat.blt pc 53)
 (cond (Nat.beq pc 52) (some (.aload 0, 1)) (none))
 (cond (Nat.blt pc 56)
 (cond (Nat.beq pc 53) (some (.getfield 305, 3)) (none))
 (cond (Nat.beq pc 56) (some (.iload 4, 2)) (none))))
 (cond (Nat.blt pc 59)
 (cond (Nat.beq pc 58) (some (.iaload, 1)) (none))
 (cond (Nat.blt pc 62)
 (cond (Nat.beq pc 59) (some (.if_icmp .gt 74, 3)) (none))
 (cond (Nat.beq pc 62) (some (.iload 3, 1)) (none))))))
 (cond (Nat.blt pc 72)
 (cond (Nat.blt pc 68)
 (cond (Nat.blt pc 64)
 (cond (Nat.beq pc 63) (some (.iconst 1, 1)) (none))
 (cond (Nat.blt pc 65)
 (cond (Nat.beq pc 64) (some (.aload 0, 1)) (none))
 (cond (Nat.beq pc 65) (some (.getfield 302, 3)) (none))))
 (cond (Nat.blt pc 70)
 (cond (Nat.beq pc 68) (some (.iload 4, 2)) (none))
 (cond (Nat.blt pc 71)
 (cond (Nat.beq pc 70) (some (.iaload, 1)) (none))
 (cond (Nat.beq pc 71) (some (.ishl, 1)) (none)))))
 (cond (Nat.blt pc 77)
 (cond (Nat.blt pc 73)
 (cond (Nat.beq pc 72) (some (.ior, 1)) (none))
 (cond (Nat.blt pc 74)
 (cond (Nat.beq pc 73) (some (.istore 3, 1)) (none))
 (cond (Nat.beq pc 74) (some (.iinc 4 1, 3)) (none))))
 (cond (Nat.blt pc 80)
 (cond (Nat.beq pc 77) (some (.goto 5, 3)) (none))
 (cond (Nat.blt pc 81)
 (cond (Nat.beq pc 80) (some (.iload 3, 1)) (none))
 (cond (Nat.beq pc 81) (some (.ireturn, 1)) (none)))))))
-- AlwaysThere$Now.sittersAnywhere()I
noncomputable def qc_33 (pc : Nat) : Option (Instr × Nat) := cond (Nat.blt pc 14)
 (cond (Nat.blt pc 5)
 (cond (Nat.blt pc 2)
 (cond (Nat.blt pc 1)
 (cond (Nat.beq pc 0) (some (.iconst 0, 1)) (none))
 (cond (Nat.beq pc 1) (some (.istore 1, 1)) (none)))
 (cond (Nat.blt pc 3)
 (cond (Nat.beq pc 2) (some (.iconst 0, 1)) (none))
 (cond (Nat.blt pc 4)
 (cond (Nat.beq pc 3) (some (.istore 2, 1)) (none))
 (cond (Nat.beq pc 4) (some (.iload 2, 1)) (none)))))
 (cond (Nat.blt pc 9)
 (cond (Nat.blt pc 6)
 (cond (Nat.beq pc 5) (some (.aload 0, 1)) (none))
 (cond (Nat.beq pc 6) (some (.getfield 301, 3)) (none)))
 (cond (Nat.blt pc 12)
 (cond (Nat.beq pc 9) (some (.if_icmp .ge 29, 3)) (none))
 (cond (Nat.blt pc 13)
 (cond (Nat.beq pc 12) (some (.iload 1, 1)) (none))
 (cond (Nat.beq pc 13) (some (.iconst 1, 1)) (none))))))
 (cond (Nat.blt pc 21)
 (cond (Nat.blt pc 18)
 (cond (Nat.blt pc 15)
 (cond (Nat.beq pc 14) (some (.aload 0, 1)) (none))
 (cond (Nat.beq pc 15) (some (.getfield 302, 3)) (none)))
 (cond (Nat.blt pc 19)
 (cond (Nat.beq pc 18) (some (.iload 2, 1)) (none))
 (cond (Nat.blt pc 20)
 (cond (Nat.beq pc 19) (some (.iaload, 1)) (none))
 (cond (Nat.beq pc 20) (some (.ishl, 1)) (none)))))
 (cond (Nat.blt pc 26)
 (cond (Nat.blt pc 22)
 (cond (Nat.beq pc 21) (some (.ior, 1)) (none))
 (cond (Nat.blt pc 23)
 (cond (Nat.beq pc 22) (some (.istore 1, 1)) (none))
 (cond (Nat.beq pc 23) (some (.iinc 2 1, 3)) (none))))
 (cond (Nat.blt pc 29)
 (cond (Nat.beq pc 26) (some (.goto 4, 3)) (none))
 (cond (Nat.blt pc 30)
 (cond (Nat.beq pc 29) (some (.iload 1, 1)) (none))
 (cond (Nat.beq pc 30) (some (.ireturn, 1)) (none))))))
-- AlwaysThere$Now.sitsOf(I)I
noncomputable def qc_34 (pc : Nat) : Option (Instr × Nat) := cond (Nat.blt pc 13)
 (cond (Nat.blt pc 4)
 (cond (Nat.blt pc 2)
 (cond (Nat.blt pc 1)
 (cond (Nat.beq pc 0) (some (.iconst 0, 1)) (none))
 (cond (Nat.beq pc 1) (some (.istore 2, 1)) (none)))
 (cond (Nat.blt pc 3)
 (cond (Nat.beq pc 2) (some (.iconst 0, 1)) (none))
 (cond (Nat.beq pc 3) (some (.istore 3, 1)) (none))))
 (cond (Nat.blt pc 6)
 (cond (Nat.blt pc 5)
 (cond (Nat.beq pc 4) (some (.iload 3, 1)) (none))
 (cond (Nat.beq pc 5) (some (.aload 0, 1)) (none)))
 (cond (Nat.blt pc 9)
 (cond (Nat.beq pc 6) (some (.getfield 301, 3)) (none))
 (cond (Nat.blt pc 12)
 (cond (Nat.beq pc 9) (some (.if_icmp .ge 31, 3)) (none))
 (cond (Nat.beq pc 12) (some (.aload 0, 1)) (none))))))
 (cond (Nat.blt pc 22)
 (cond (Nat.blt pc 17)
 (cond (Nat.blt pc 16)
 (cond (Nat.beq pc 13) (some (.getfield 302, 3)) (none))
 (cond (Nat.beq pc 16) (some (.iload 3, 1)) (none)))
 (cond (Nat.blt pc 18)
 (cond (Nat.beq pc 17) (some (.iaload, 1)) (none))
 (cond (Nat.blt pc 19)
 (cond (Nat.beq pc 18) (some (.iload 1, 1)) (none))
 (cond (Nat.beq pc 19) (some (.if_icmp .ne 25, 3)) (none)))))
 (cond (Nat.blt pc 28)
 (cond (Nat.blt pc 25)
 (cond (Nat.beq pc 22) (some (.iinc 2 1, 3)) (none))
 (cond (Nat.beq pc 25) (some (.iinc 3 1, 3)) (none)))
 (cond (Nat.blt pc 31)
 (cond (Nat.beq pc 28) (some (.goto 4, 3)) (none))
 (cond (Nat.blt pc 32)
 (cond (Nat.beq pc 31) (some (.iload 2, 1)) (none))
 (cond (Nat.beq pc 32) (some (.ireturn, 1)) (none))))))
-- AlwaysThere$Reader.<init>()V
noncomputable def qc_35 (pc : Nat) : Option (Instr × Nat) := cond (Nat.blt pc 13)
 (cond (Nat.blt pc 5)
 (cond (Nat.blt pc 1)
 (cond (Nat.beq pc 0) (some (.aload 0, 1)) (none))
 (cond (Nat.blt pc 4)
 (cond (Nat.beq pc 1) (some (.invokespecial 901, 3)) (none))
 (cond (Nat.beq pc 4) (some (.aload 0, 1)) (none))))
 (cond (Nat.blt pc 8)
 (cond (Nat.beq pc 5) (some (.iconst 200, 3)) (none))
 (cond (Nat.blt pc 10)
 (cond (Nat.beq pc 8) (some (.newarray .char, 2)) (none))
 (cond (Nat.beq pc 10) (some (.putfield 400, 3)) (none)))))
 (cond (Nat.blt pc 18)
 (cond (Nat.blt pc 14)
 (cond (Nat.beq pc 13) (some (.aload 0, 1)) (none))
 (cond (Nat.blt pc 17)
 (cond (Nat.beq pc 14) (some (.new 2, 3)) (none))
 (cond (Nat.beq pc 17) (some (.dup, 1)) (none))))
 (cond (Nat.blt pc 21)
 (cond (Nat.beq pc 18) (some (.invokespecial 12, 3)) (none))
 (cond (Nat.blt pc 24)
 (cond (Nat.beq pc 21) (some (.putfield 402, 3)) (none))
 (cond (Nat.beq pc 24) (some (.return_, 1)) (none)))))
-- AlwaysThere$Reader.readAll()I
noncomputable def qc_36 (pc : Nat) : Option (Instr × Nat) := cond (Nat.blt pc 37)
 (cond (Nat.blt pc 17)
 (cond (Nat.blt pc 8)
 (cond (Nat.blt pc 4)
 (cond (Nat.blt pc 1)
 (cond (Nat.beq pc 0) (some (.aload 0, 1)) (none))
 (cond (Nat.beq pc 1) (some (.getfield 402, 3)) (none)))
 (cond (Nat.blt pc 7)
 (cond (Nat.beq pc 4) (some (.invokevirtual 13, 3)) (none))
 (cond (Nat.beq pc 7) (some (.aload 0, 1)) (none))))
 (cond (Nat.blt pc 12)
 (cond (Nat.blt pc 9)
 (cond (Nat.beq pc 8) (some (.iconst 0, 1)) (none))
 (cond (Nat.beq pc 9) (some (.putfield 407, 3)) (none)))
 (cond (Nat.blt pc 13)
 (cond (Nat.beq pc 12) (some (.aload 0, 1)) (none))
 (cond (Nat.blt pc 14)
 (cond (Nat.beq pc 13) (some (.iconst 0, 1)) (none))
 (cond (Nat.beq pc 14) (some (.putfield 406, 3)) (none))))))
 (cond (Nat.blt pc 24)
 (cond (Nat.blt pc 21)
 (cond (Nat.blt pc 18)
 (cond (Nat.beq pc 17) (some (.aload 0, 1)) (none))
 (cond (Nat.beq pc 18) (some (.invokevirtual 49, 3)) (none)))
 (cond (Nat.blt pc 22)
 (cond (Nat.beq pc 21) (some (.iconst 0, 1)) (none))
 (cond (Nat.blt pc 23)
 (cond (Nat.beq pc 22) (some (.istore 1, 1)) (none))
 (cond (Nat.beq pc 23) (some (.iload 1, 1)) (none)))))
 (cond (Nat.blt pc 30)
 (cond (Nat.blt pc 27)
 (cond (Nat.beq pc 24) (some (.iconst 200, 3)) (none))
 (cond (Nat.beq pc 27) (some (.if_icmp .gt 67, 3)) (none)))
 (cond (Nat.blt pc 31)
 (cond (Nat.beq pc 30) (some (.aload 0, 1)) (none))
 (cond (Nat.blt pc 34)
 (cond (Nat.beq pc 31) (some (.getfield 403, 3)) (none))
 (cond (Nat.beq pc 34) (some (.iconst 257, 3)) (none)))))))
 (cond (Nat.blt pc 52)
 (cond (Nat.blt pc 43)
 (cond (Nat.blt pc 41)
 (cond (Nat.blt pc 40)
 (cond (Nat.beq pc 37) (some (.if_icmp .ne 42, 3)) (none))
 (cond (Nat.beq pc 40) (some (.iload 1, 1)) (none)))
 (cond (Nat.blt pc 42)
 (cond (Nat.beq pc 41) (some (.ireturn, 1)) (none))
 (cond (Nat.beq pc 42) (some (.aload 0, 1)) (none))))
 (cond (Nat.blt pc 47)
 (cond (Nat.blt pc 44)
 (cond (Nat.beq pc 43) (some (.iload 1, 1)) (none))
 (cond (Nat.beq pc 44) (some (.ifCond .ne 51, 3)) (none)))
 (cond (Nat.blt pc 48)
 (cond (Nat.beq pc 47) (some (.iconst 1, 1)) (none))
 (cond (Nat.blt pc 51)
 (cond (Nat.beq pc 48) (some (.goto 52, 3)) (none))
 (cond (Nat.beq pc 51) (some (.iconst 0, 1)) (none))))))
 (cond (Nat.blt pc 67)
 (cond (Nat.blt pc 58)
 (cond (Nat.blt pc 55)
 (cond (Nat.beq pc 52) (some (.invokevirtual 37, 3)) (none))
 (cond (Nat.beq pc 55) (some (.ifCond .ne 61, 3)) (none)))
 (cond (Nat.blt pc 61)
 (cond (Nat.beq pc 58) (some (.goto 67, 3)) (none))
 (cond (Nat.blt pc 64)
 (cond (Nat.beq pc 61) (some (.iinc 1 1, 3)) (none))
 (cond (Nat.beq pc 64) (some (.goto 23, 3)) (none)))))
 (cond (Nat.blt pc 70)
 (cond (Nat.blt pc 69)
 (cond (Nat.beq pc 67) (some (.iconst (-10), 2)) (none))
 (cond (Nat.beq pc 69) (some (.aload 0, 1)) (none)))
 (cond (Nat.blt pc 73)
 (cond (Nat.beq pc 70) (some (.getfield 405, 3)) (none))
 (cond (Nat.blt pc 74)
 (cond (Nat.beq pc 73) (some (.isub, 1)) (none))
 (cond (Nat.beq pc 74) (some (.ireturn, 1)) (none)))))))
-- AlwaysThere$Reader.readItem(Z)Z
noncomputable def qc_37 (pc : Nat) : Option (Instr × Nat) := cond (Nat.blt pc 26)
 (cond (Nat.blt pc 14)
 (cond (Nat.blt pc 6)
 (cond (Nat.blt pc 4)
 (cond (Nat.blt pc 1)
 (cond (Nat.beq pc 0) (some (.aload 0, 1)) (none))
 (cond (Nat.beq pc 1) (some (.getfield 403, 3)) (none)))
 (cond (Nat.blt pc 5)
 (cond (Nat.beq pc 4) (some (.istore 2, 1)) (none))
 (cond (Nat.beq pc 5) (some (.aload 0, 1)) (none))))
 (cond (Nat.blt pc 8)
 (cond (Nat.blt pc 7)
 (cond (Nat.beq pc 6) (some (.iload 2, 1)) (none))
 (cond (Nat.beq pc 7) (some (.iload 1, 1)) (none)))
 (cond (Nat.blt pc 11)
 (cond (Nat.beq pc 8) (some (.invokevirtual 38, 3)) (none))
 (cond (Nat.beq pc 11) (some (.ifCond .ne 16, 3)) (none)))))
 (cond (Nat.blt pc 18)
 (cond (Nat.blt pc 16)
 (cond (Nat.blt pc 15)
 (cond (Nat.beq pc 14) (some (.iconst 0, 1)) (none))
 (cond (Nat.beq pc 15) (some (.freturn, 1)) (none)))
 (cond (Nat.blt pc 17)
 (cond (Nat.beq pc 16) (some (.aload 0, 1)) (none))
 (cond (Nat.beq pc 17) (some (.dup, 1)) (none))))
 (cond (Nat.blt pc 22)
 (cond (Nat.blt pc 21)
 (cond (Nat.beq pc 18) (some (.getfield 407, 3)) (none))
 (cond (Nat.beq pc 21) (some (.iload 2, 1)) (none)))
 (cond (Nat.blt pc 25)
 (cond (Nat.beq pc 22) (some (.invokestatic 39, 3)) (none))
 (cond (Nat.beq pc 25) (some (.ior, 1)) (none))))))
 (cond (Nat.blt pc 42)
 (cond (Nat.blt pc 34)
 (cond (Nat.blt pc 30)
 (cond (Nat.blt pc 29)
 (cond (Nat.beq pc 26) (some (.putfield 407, 3)) (none))
 (cond (Nat.beq pc 29) (some (.aload 0, 1)) (none)))
 (cond (Nat.blt pc 33)
 (cond (Nat.beq pc 30) (some (.invokevirtual 49, 3)) (none))
 (cond (Nat.beq pc 33) (some (.aload 0, 1)) (none))))
 (cond (Nat.blt pc 38)
 (cond (Nat.blt pc 35)
 (cond (Nat.beq pc 34) (some (.iload 2, 1)) (none))
 (cond (Nat.beq pc 35) (some (.invokevirtual 40, 3)) (none)))
 (cond (Nat.blt pc 41)
 (cond (Nat.beq pc 38) (some (.ifCond .eq 50, 3)) (none))
 (cond (Nat.beq pc 41) (some (.aload 0, 1)) (none)))))
 (cond (Nat.blt pc 51)
 (cond (Nat.blt pc 47)
 (cond (Nat.blt pc 45)
 (cond (Nat.beq pc 42) (some (.getfield 403, 3)) (none))
 (cond (Nat.beq pc 45) (some (.iconst 59, 2)) (none)))
 (cond (Nat.blt pc 50)
 (cond (Nat.beq pc 47) (some (.if_icmp .eq 52, 3)) (none))
 (cond (Nat.beq pc 50) (some (.iconst 0, 1)) (none))))
 (cond (Nat.blt pc 53)
 (cond (Nat.blt pc 52)
 (cond (Nat.beq pc 51) (some (.freturn, 1)) (none))
 (cond (Nat.beq pc 52) (some (.aload 0, 1)) (none)))
 (cond (Nat.blt pc 56)
 (cond (Nat.beq pc 53) (some (.invokevirtual 49, 3)) (none))
 (cond (Nat.blt pc 57)
 (cond (Nat.beq pc 56) (some (.iconst 1, 1)) (none))
 (cond (Nat.beq pc 57) (some (.freturn, 1)) (none)))))))
-- AlwaysThere$Reader.canBegin(IZ)Z
noncomputable def qc_38 (pc : Nat) : Option (Instr × Nat) := cond (Nat.blt pc 115)
 (cond (Nat.blt pc 100)
 (cond (Nat.blt pc 97)
 (cond (Nat.blt pc 1)
 (cond (Nat.beq pc 0) (some (.iload 1, 1)) (none))
 (cond (Nat.blt pc 96)
 (cond (Nat.beq pc 1) (some (.tableswitch 135 99 118 #[117, 135, 135, 98, 135, 100, 135, 135, 135, 135, 135, 96, 135, 135, 135, 117, 117, 117, 135, 98], 95)) (none))
 (cond (Nat.beq pc 96) (some (.iload 2, 1)) (none))))
 (cond (Nat.blt pc 98)
 (cond (Nat.beq pc 97) (some (.freturn, 1)) (none))
 (cond (Nat.blt pc 99)
 (cond (Nat.beq pc 98) (some (.iconst 1, 1)) (none))
 (cond (Nat.beq pc 99) (some (.freturn, 1)) (none)))))
 (cond (Nat.blt pc 107)
 (cond (Nat.blt pc 101)
 (cond (Nat.beq pc 100) (some (.aload 0, 1)) (none))
 (cond (Nat.blt pc 104)
 (cond (Nat.beq pc 101) (some (.getfield 402, 3)) (none))
 (cond (Nat.beq pc 104) (some (.getfield 201, 3)) (none))))
 (cond (Nat.blt pc 111)
 (cond (Nat.blt pc 108)
 (cond (Nat.beq pc 107) (some (.iconst 5, 1)) (none))
 (cond (Nat.beq pc 108) (some (.if_icmp .ge 115, 3)) (none)))
 (cond (Nat.blt pc 112)
 (cond (Nat.beq pc 111) (some (.iconst 1, 1)) (none))
 (cond (Nat.beq pc 112) (some (.goto 116, 3)) (none))))))
 (cond (Nat.blt pc 126)
 (cond (Nat.blt pc 118)
 (cond (Nat.blt pc 116)
 (cond (Nat.beq pc 115) (some (.iconst 0, 1)) (none))
 (cond (Nat.blt pc 117)
 (cond (Nat.beq pc 116) (some (.freturn, 1)) (none))
 (cond (Nat.beq pc 117) (some (.aload 0, 1)) (none))))
 (cond (Nat.blt pc 122)
 (cond (Nat.blt pc 121)
 (cond (Nat.beq pc 118) (some (.getfield 407, 3)) (none))
 (cond (Nat.beq pc 121) (some (.iload 1, 1)) (none)))
 (cond (Nat.blt pc 125)
 (cond (Nat.beq pc 122) (some (.invokestatic 39, 3)) (none))
 (cond (Nat.beq pc 125) (some (.iand, 1)) (none)))))
 (cond (Nat.blt pc 133)
 (cond (Nat.blt pc 129)
 (cond (Nat.beq pc 126) (some (.ifCond .ne 133, 3)) (none))
 (cond (Nat.blt pc 130)
 (cond (Nat.beq pc 129) (some (.iconst 1, 1)) (none))
 (cond (Nat.beq pc 130) (some (.goto 134, 3)) (none))))
 (cond (Nat.blt pc 135)
 (cond (Nat.blt pc 134)
 (cond (Nat.beq pc 133) (some (.iconst 0, 1)) (none))
 (cond (Nat.beq pc 134) (some (.freturn, 1)) (none)))
 (cond (Nat.blt pc 136)
 (cond (Nat.beq pc 135) (some (.iconst 0, 1)) (none))
 (cond (Nat.beq pc 136) (some (.freturn, 1)) (none))))))
-- AlwaysThere$Reader.bitOf(I)I
noncomputable def qc_39 (pc : Nat) : Option (Instr × Nat) := cond (Nat.blt pc 4)
 (cond (Nat.blt pc 1)
 (cond (Nat.beq pc 0) (some (.iconst 1, 1)) (none))
 (cond (Nat.blt pc 2)
 (cond (Nat.beq pc 1) (some (.iload 0, 1)) (none))
 (cond (Nat.beq pc 2) (some (.iconst 97, 2)) (none))))
 (cond (Nat.blt pc 5)
 (cond (Nat.beq pc 4) (some (.isub, 1)) (none))
 (cond (Nat.blt pc 6)
 (cond (Nat.beq pc 5) (some (.ishl, 1)) (none))
 (cond (Nat.beq pc 6) (some (.ireturn, 1)) (none))))
-- AlwaysThere$Reader.readBody(I)Z
noncomputable def qc_40 (pc : Nat) : Option (Instr × Nat) := cond (Nat.blt pc 157)
 (cond (Nat.blt pc 117)
 (cond (Nat.blt pc 98)
 (cond (Nat.blt pc 88)
 (cond (Nat.blt pc 84)
 (cond (Nat.blt pc 1)
 (cond (Nat.beq pc 0) (some (.iload 1, 1)) (none))
 (cond (Nat.beq pc 1) (some (.tableswitch 226 102 118 #[116, 226, 126, 226, 226, 226, 226, 226, 84, 226, 226, 226, 194, 131, 163, 226, 121], 83)) (none)))
 (cond (Nat.blt pc 85)
 (cond (Nat.beq pc 84) (some (.aload 0, 1)) (none))
 (cond (Nat.beq pc 85) (some (.getfield 402, 3)) (none))))
 (cond (Nat.blt pc 90)
 (cond (Nat.blt pc 89)
 (cond (Nat.beq pc 88) (some (.aload 0, 1)) (none))
 (cond (Nat.beq pc 89) (some (.iconst 2, 1)) (none)))
 (cond (Nat.blt pc 92)
 (cond (Nat.beq pc 90) (some (.iconst 8, 2)) (none))
 (cond (Nat.blt pc 95)
 (cond (Nat.beq pc 92) (some (.invokevirtual 48, 3)) (none))
 (cond (Nat.beq pc 95) (some (.putfield 200, 3)) (none))))))
 (cond (Nat.blt pc 110)
 (cond (Nat.blt pc 102)
 (cond (Nat.blt pc 99)
 (cond (Nat.beq pc 98) (some (.aload 0, 1)) (none))
 (cond (Nat.beq pc 99) (some (.getfield 402, 3)) (none)))
 (cond (Nat.blt pc 105)
 (cond (Nat.beq pc 102) (some (.getfield 200, 3)) (none))
 (cond (Nat.blt pc 107)
 (cond (Nat.beq pc 105) (some (.iconst (-9), 2)) (none))
 (cond (Nat.beq pc 107) (some (.if_icmp .eq 114, 3)) (none)))))
 (cond (Nat.blt pc 114)
 (cond (Nat.blt pc 111)
 (cond (Nat.beq pc 110) (some (.iconst 1, 1)) (none))
 (cond (Nat.beq pc 111) (some (.goto 115, 3)) (none)))
 (cond (Nat.blt pc 115)
 (cond (Nat.beq pc 114) (some (.iconst 0, 1)) (none))
 (cond (Nat.blt pc 116)
 (cond (Nat.beq pc 115) (some (.freturn, 1)) (none))
 (cond (Nat.beq pc 116) (some (.aload 0, 1)) (none)))))))
 (cond (Nat.blt pc 135)
 (cond (Nat.blt pc 126)
 (cond (Nat.blt pc 121)
 (cond (Nat.blt pc 120)
 (cond (Nat.beq pc 117) (some (.invokevirtual 41, 3)) (none))
 (cond (Nat.beq pc 120) (some (.freturn, 1)) (none)))
 (cond (Nat.blt pc 122)
 (cond (Nat.beq pc 121) (some (.aload 0, 1)) (none))
 (cond (Nat.blt pc 125)
 (cond (Nat.beq pc 122) (some (.invokevirtual 42, 3)) (none))
 (cond (Nat.beq pc 125) (some (.freturn, 1)) (none)))))
 (cond (Nat.blt pc 130)
 (cond (Nat.blt pc 127)
 (cond (Nat.beq pc 126) (some (.aload 0, 1)) (none))
 (cond (Nat.beq pc 127) (some (.invokevirtual 43, 3)) (none)))
 (cond (Nat.blt pc 131)
 (cond (Nat.beq pc 130) (some (.freturn, 1)) (none))
 (cond (Nat.blt pc 132)
 (cond (Nat.beq pc 131) (some (.aload 0, 1)) (none))
 (cond (Nat.beq pc 132) (some (.getfield 402, 3)) (none))))))
 (cond (Nat.blt pc 145)
 (cond (Nat.blt pc 137)
 (cond (Nat.blt pc 136)
 (cond (Nat.beq pc 135) (some (.aload 0, 1)) (none))
 (cond (Nat.beq pc 136) (some (.iconst 1, 1)) (none)))
 (cond (Nat.blt pc 139)
 (cond (Nat.beq pc 137) (some (.iconst 9, 2)) (none))
 (cond (Nat.blt pc 142)
 (cond (Nat.beq pc 139) (some (.invokevirtual 48, 3)) (none))
 (cond (Nat.beq pc 142) (some (.putfield 203, 3)) (none)))))
 (cond (Nat.blt pc 149)
 (cond (Nat.blt pc 146)
 (cond (Nat.beq pc 145) (some (.aload 0, 1)) (none))
 (cond (Nat.beq pc 146) (some (.getfield 402, 3)) (none)))
 (cond (Nat.blt pc 152)
 (cond (Nat.beq pc 149) (some (.getfield 203, 3)) (none))
 (cond (Nat.blt pc 154)
 (cond (Nat.beq pc 152) (some (.iconst (-9), 2)) (none))
 (cond (Nat.beq pc 154) (some (.if_icmp .eq 161, 3)) (none))))))))
 (cond (Nat.blt pc 193)
 (cond (Nat.blt pc 170)
 (cond (Nat.blt pc 163)
 (cond (Nat.blt pc 161)
 (cond (Nat.blt pc 158)
 (cond (Nat.beq pc 157) (some (.iconst 1, 1)) (none))
 (cond (Nat.beq pc 158) (some (.goto 162, 3)) (none)))
 (cond (Nat.blt pc 162)
 (cond (Nat.beq pc 161) (some (.iconst 0, 1)) (none))
 (cond (Nat.beq pc 162) (some (.freturn, 1)) (none))))
 (cond (Nat.blt pc 167)
 (cond (Nat.blt pc 164)
 (cond (Nat.beq pc 163) (some (.aload 0, 1)) (none))
 (cond (Nat.beq pc 164) (some (.getfield 402, 3)) (none)))
 (cond (Nat.blt pc 168)
 (cond (Nat.beq pc 167) (some (.aload 0, 1)) (none))
 (cond (Nat.blt pc 169)
 (cond (Nat.beq pc 168) (some (.iconst 0, 1)) (none))
 (cond (Nat.beq pc 169) (some (.iconst 3, 1)) (none))))))
 (cond (Nat.blt pc 183)
 (cond (Nat.blt pc 176)
 (cond (Nat.blt pc 173)
 (cond (Nat.beq pc 170) (some (.invokevirtual 48, 3)) (none))
 (cond (Nat.beq pc 173) (some (.putfield 204, 3)) (none)))
 (cond (Nat.blt pc 177)
 (cond (Nat.beq pc 176) (some (.aload 0, 1)) (none))
 (cond (Nat.blt pc 180)
 (cond (Nat.beq pc 177) (some (.getfield 402, 3)) (none))
 (cond (Nat.beq pc 180) (some (.getfield 204, 3)) (none)))))
 (cond (Nat.blt pc 188)
 (cond (Nat.blt pc 185)
 (cond (Nat.beq pc 183) (some (.iconst (-9), 2)) (none))
 (cond (Nat.beq pc 185) (some (.if_icmp .eq 192, 3)) (none)))
 (cond (Nat.blt pc 189)
 (cond (Nat.beq pc 188) (some (.iconst 1, 1)) (none))
 (cond (Nat.blt pc 192)
 (cond (Nat.beq pc 189) (some (.goto 193, 3)) (none))
 (cond (Nat.beq pc 192) (some (.iconst 0, 1)) (none)))))))
 (cond (Nat.blt pc 212)
 (cond (Nat.blt pc 200)
 (cond (Nat.blt pc 195)
 (cond (Nat.blt pc 194)
 (cond (Nat.beq pc 193) (some (.freturn, 1)) (none))
 (cond (Nat.beq pc 194) (some (.aload 0, 1)) (none)))
 (cond (Nat.blt pc 198)
 (cond (Nat.beq pc 195) (some (.getfield 402, 3)) (none))
 (cond (Nat.blt pc 199)
 (cond (Nat.beq pc 198) (some (.aload 0, 1)) (none))
 (cond (Nat.beq pc 199) (some (.iconst 0, 1)) (none)))))
 (cond (Nat.blt pc 205)
 (cond (Nat.blt pc 202)
 (cond (Nat.beq pc 200) (some (.iconst 99, 2)) (none))
 (cond (Nat.beq pc 202) (some (.invokevirtual 48, 3)) (none)))
 (cond (Nat.blt pc 208)
 (cond (Nat.beq pc 205) (some (.putfield 205, 3)) (none))
 (cond (Nat.blt pc 209)
 (cond (Nat.beq pc 208) (some (.aload 0, 1)) (none))
 (cond (Nat.beq pc 209) (some (.getfield 402, 3)) (none))))))
 (cond (Nat.blt pc 224)
 (cond (Nat.blt pc 217)
 (cond (Nat.blt pc 215)
 (cond (Nat.beq pc 212) (some (.getfield 205, 3)) (none))
 (cond (Nat.beq pc 215) (some (.iconst (-9), 2)) (none)))
 (cond (Nat.blt pc 220)
 (cond (Nat.beq pc 217) (some (.if_icmp .eq 224, 3)) (none))
 (cond (Nat.blt pc 221)
 (cond (Nat.beq pc 220) (some (.iconst 1, 1)) (none))
 (cond (Nat.beq pc 221) (some (.goto 225, 3)) (none)))))
 (cond (Nat.blt pc 226)
 (cond (Nat.blt pc 225)
 (cond (Nat.beq pc 224) (some (.iconst 0, 1)) (none))
 (cond (Nat.beq pc 225) (some (.freturn, 1)) (none)))
 (cond (Nat.blt pc 227)
 (cond (Nat.beq pc 226) (some (.aload 0, 1)) (none))
 (cond (Nat.blt pc 230)
 (cond (Nat.beq pc 227) (some (.invokevirtual 44, 3)) (none))
 (cond (Nat.beq pc 230) (some (.freturn, 1)) (none))))))))
-- AlwaysThere$Reader.readFurrow()Z
noncomputable def qc_41 (pc : Nat) : Option (Instr × Nat) := cond (Nat.blt pc 33)
 (cond (Nat.blt pc 16)
 (cond (Nat.blt pc 6)
 (cond (Nat.blt pc 4)
 (cond (Nat.blt pc 1)
 (cond (Nat.beq pc 0) (some (.aload 0, 1)) (none))
 (cond (Nat.beq pc 1) (some (.invokevirtual 45, 3)) (none)))
 (cond (Nat.blt pc 5)
 (cond (Nat.beq pc 4) (some (.istore 1, 1)) (none))
 (cond (Nat.beq pc 5) (some (.iload 1, 1)) (none))))
 (cond (Nat.blt pc 11)
 (cond (Nat.blt pc 8)
 (cond (Nat.beq pc 6) (some (.iconst (-9), 2)) (none))
 (cond (Nat.beq pc 8) (some (.if_icmp .ne 16, 3)) (none)))
 (cond (Nat.blt pc 13)
 (cond (Nat.beq pc 11) (some (.iconst (-9), 2)) (none))
 (cond (Nat.beq pc 13) (some (.goto 21, 3)) (none)))))
 (cond (Nat.blt pc 22)
 (cond (Nat.blt pc 18)
 (cond (Nat.blt pc 17)
 (cond (Nat.beq pc 16) (some (.aload 0, 1)) (none))
 (cond (Nat.beq pc 17) (some (.iload 1, 1)) (none)))
 (cond (Nat.blt pc 21)
 (cond (Nat.beq pc 18) (some (.invokevirtual 46, 3)) (none))
 (cond (Nat.beq pc 21) (some (.istore 2, 1)) (none))))
 (cond (Nat.blt pc 25)
 (cond (Nat.blt pc 23)
 (cond (Nat.beq pc 22) (some (.iload 2, 1)) (none))
 (cond (Nat.beq pc 23) (some (.iconst (-9), 2)) (none)))
 (cond (Nat.blt pc 28)
 (cond (Nat.beq pc 25) (some (.if_icmp .ne 33, 3)) (none))
 (cond (Nat.blt pc 30)
 (cond (Nat.beq pc 28) (some (.iconst (-9), 2)) (none))
 (cond (Nat.beq pc 30) (some (.goto 40, 3)) (none)))))))
 (cond (Nat.blt pc 48)
 (cond (Nat.blt pc 40)
 (cond (Nat.blt pc 35)
 (cond (Nat.blt pc 34)
 (cond (Nat.beq pc 33) (some (.aload 0, 1)) (none))
 (cond (Nat.beq pc 34) (some (.iconst 1, 1)) (none)))
 (cond (Nat.blt pc 37)
 (cond (Nat.beq pc 35) (some (.iconst 9, 2)) (none))
 (cond (Nat.beq pc 37) (some (.invokevirtual 48, 3)) (none))))
 (cond (Nat.blt pc 42)
 (cond (Nat.blt pc 41)
 (cond (Nat.beq pc 40) (some (.istore 3, 1)) (none))
 (cond (Nat.beq pc 41) (some (.iload 3, 1)) (none)))
 (cond (Nat.blt pc 44)
 (cond (Nat.beq pc 42) (some (.iconst (-9), 2)) (none))
 (cond (Nat.blt pc 47)
 (cond (Nat.beq pc 44) (some (.if_icmp .ne 49, 3)) (none))
 (cond (Nat.beq pc 47) (some (.iconst 0, 1)) (none))))))
 (cond (Nat.blt pc 54)
 (cond (Nat.blt pc 50)
 (cond (Nat.blt pc 49)
 (cond (Nat.beq pc 48) (some (.freturn, 1)) (none))
 (cond (Nat.beq pc 49) (some (.aload 0, 1)) (none)))
 (cond (Nat.blt pc 53)
 (cond (Nat.beq pc 50) (some (.getfield 402, 3)) (none))
 (cond (Nat.beq pc 53) (some (.iload 1, 1)) (none))))
 (cond (Nat.blt pc 56)
 (cond (Nat.blt pc 55)
 (cond (Nat.beq pc 54) (some (.iload 2, 1)) (none))
 (cond (Nat.beq pc 55) (some (.iload 3, 1)) (none)))
 (cond (Nat.blt pc 59)
 (cond (Nat.beq pc 56) (some (.invokevirtual 19, 3)) (none))
 (cond (Nat.blt pc 60)
 (cond (Nat.beq pc 59) (some (.iconst 1, 1)) (none))
 (cond (Nat.beq pc 60) (some (.freturn, 1)) (none)))))))
-- AlwaysThere$Reader.readSight()Z
noncomputable def qc_42 (pc : Nat) : Option (Instr × Nat) := cond (Nat.blt pc 22)
 (cond (Nat.blt pc 11)
 (cond (Nat.blt pc 5)
 (cond (Nat.blt pc 1)
 (cond (Nat.beq pc 0) (some (.aload 0, 1)) (none))
 (cond (Nat.blt pc 4)
 (cond (Nat.beq pc 1) (some (.invokevirtual 45, 3)) (none))
 (cond (Nat.beq pc 4) (some (.istore 1, 1)) (none))))
 (cond (Nat.blt pc 6)
 (cond (Nat.beq pc 5) (some (.iload 1, 1)) (none))
 (cond (Nat.blt pc 8)
 (cond (Nat.beq pc 6) (some (.iconst (-9), 2)) (none))
 (cond (Nat.beq pc 8) (some (.if_icmp .ne 16, 3)) (none)))))
 (cond (Nat.blt pc 17)
 (cond (Nat.blt pc 13)
 (cond (Nat.beq pc 11) (some (.iconst (-9), 2)) (none))
 (cond (Nat.blt pc 16)
 (cond (Nat.beq pc 13) (some (.goto 21, 3)) (none))
 (cond (Nat.beq pc 16) (some (.aload 0, 1)) (none))))
 (cond (Nat.blt pc 18)
 (cond (Nat.beq pc 17) (some (.iload 1, 1)) (none))
 (cond (Nat.blt pc 21)
 (cond (Nat.beq pc 18) (some (.invokevirtual 46, 3)) (none))
 (cond (Nat.beq pc 21) (some (.istore 2, 1)) (none))))))
 (cond (Nat.blt pc 31)
 (cond (Nat.blt pc 28)
 (cond (Nat.blt pc 23)
 (cond (Nat.beq pc 22) (some (.iload 2, 1)) (none))
 (cond (Nat.blt pc 25)
 (cond (Nat.beq pc 23) (some (.iconst (-9), 2)) (none))
 (cond (Nat.beq pc 25) (some (.if_icmp .ne 30, 3)) (none))))
 (cond (Nat.blt pc 29)
 (cond (Nat.beq pc 28) (some (.iconst 0, 1)) (none))
 (cond (Nat.blt pc 30)
 (cond (Nat.beq pc 29) (some (.freturn, 1)) (none))
 (cond (Nat.beq pc 30) (some (.aload 0, 1)) (none)))))
 (cond (Nat.blt pc 36)
 (cond (Nat.blt pc 34)
 (cond (Nat.beq pc 31) (some (.getfield 402, 3)) (none))
 (cond (Nat.blt pc 35)
 (cond (Nat.beq pc 34) (some (.iload 1, 1)) (none))
 (cond (Nat.beq pc 35) (some (.iload 2, 1)) (none))))
 (cond (Nat.blt pc 39)
 (cond (Nat.beq pc 36) (some (.invokevirtual 20, 3)) (none))
 (cond (Nat.blt pc 40)
 (cond (Nat.beq pc 39) (some (.iconst 1, 1)) (none))
 (cond (Nat.beq pc 40) (some (.freturn, 1)) (none))))))
-- AlwaysThere$Reader.readHedgehog()Z
noncomputable def qc_43 (pc : Nat) : Option (Instr × Nat) := cond (Nat.blt pc 28)
 (cond (Nat.blt pc 14)
 (cond (Nat.blt pc 7)
 (cond (Nat.blt pc 2)
 (cond (Nat.blt pc 1)
 (cond (Nat.beq pc 0) (some (.aload 0, 1)) (none))
 (cond (Nat.beq pc 1) (some (.iconst 0, 1)) (none)))
 (cond (Nat.blt pc 4)
 (cond (Nat.beq pc 2) (some (.iconst 15, 2)) (none))
 (cond (Nat.beq pc 4) (some (.invokevirtual 48, 3)) (none))))
 (cond (Nat.blt pc 9)
 (cond (Nat.blt pc 8)
 (cond (Nat.beq pc 7) (some (.istore 1, 1)) (none))
 (cond (Nat.beq pc 8) (some (.iload 1, 1)) (none)))
 (cond (Nat.blt pc 11)
 (cond (Nat.beq pc 9) (some (.iconst (-9), 2)) (none))
 (cond (Nat.beq pc 11) (some (.if_icmp .eq 25, 3)) (none)))))
 (cond (Nat.blt pc 22)
 (cond (Nat.blt pc 18)
 (cond (Nat.blt pc 15)
 (cond (Nat.beq pc 14) (some (.aload 0, 1)) (none))
 (cond (Nat.beq pc 15) (some (.getfield 402, 3)) (none)))
 (cond (Nat.blt pc 21)
 (cond (Nat.beq pc 18) (some (.getfield 201, 3)) (none))
 (cond (Nat.beq pc 21) (some (.iconst 5, 1)) (none))))
 (cond (Nat.blt pc 26)
 (cond (Nat.blt pc 25)
 (cond (Nat.beq pc 22) (some (.if_icmp .lt 27, 3)) (none))
 (cond (Nat.beq pc 25) (some (.iconst 0, 1)) (none)))
 (cond (Nat.blt pc 27)
 (cond (Nat.beq pc 26) (some (.freturn, 1)) (none))
 (cond (Nat.beq pc 27) (some (.aload 0, 1)) (none))))))
 (cond (Nat.blt pc 44)
 (cond (Nat.blt pc 38)
 (cond (Nat.blt pc 34)
 (cond (Nat.blt pc 31)
 (cond (Nat.beq pc 28) (some (.getfield 402, 3)) (none))
 (cond (Nat.beq pc 31) (some (.getfield 209, 3)) (none)))
 (cond (Nat.blt pc 35)
 (cond (Nat.beq pc 34) (some (.aload 0, 1)) (none))
 (cond (Nat.beq pc 35) (some (.getfield 402, 3)) (none))))
 (cond (Nat.blt pc 42)
 (cond (Nat.blt pc 41)
 (cond (Nat.beq pc 38) (some (.getfield 201, 3)) (none))
 (cond (Nat.beq pc 41) (some (.iload 1, 1)) (none)))
 (cond (Nat.blt pc 43)
 (cond (Nat.beq pc 42) (some (.iastore, 1)) (none))
 (cond (Nat.beq pc 43) (some (.aload 0, 1)) (none)))))
 (cond (Nat.blt pc 52)
 (cond (Nat.blt pc 48)
 (cond (Nat.blt pc 47)
 (cond (Nat.beq pc 44) (some (.getfield 402, 3)) (none))
 (cond (Nat.beq pc 47) (some (.dup, 1)) (none)))
 (cond (Nat.blt pc 51)
 (cond (Nat.beq pc 48) (some (.getfield 201, 3)) (none))
 (cond (Nat.beq pc 51) (some (.iconst 1, 1)) (none))))
 (cond (Nat.blt pc 56)
 (cond (Nat.blt pc 53)
 (cond (Nat.beq pc 52) (some (.iadd, 1)) (none))
 (cond (Nat.beq pc 53) (some (.putfield 201, 3)) (none)))
 (cond (Nat.blt pc 57)
 (cond (Nat.beq pc 56) (some (.iconst 1, 1)) (none))
 (cond (Nat.beq pc 57) (some (.freturn, 1)) (none))))))
-- AlwaysThere$Reader.readCourse()Z
noncomputable def qc_44 (pc : Nat) : Option (Instr × Nat) := cond (Nat.blt pc 35)
 (cond (Nat.blt pc 16)
 (cond (Nat.blt pc 7)
 (cond (Nat.blt pc 4)
 (cond (Nat.blt pc 1)
 (cond (Nat.beq pc 0) (some (.aload 0, 1)) (none))
 (cond (Nat.beq pc 1) (some (.invokevirtual 45, 3)) (none)))
 (cond (Nat.blt pc 5)
 (cond (Nat.beq pc 4) (some (.istore 1, 1)) (none))
 (cond (Nat.blt pc 6)
 (cond (Nat.beq pc 5) (some (.iconst 0, 1)) (none))
 (cond (Nat.beq pc 6) (some (.istore 2, 1)) (none)))))
 (cond (Nat.blt pc 10)
 (cond (Nat.blt pc 8)
 (cond (Nat.beq pc 7) (some (.iload 2, 1)) (none))
 (cond (Nat.beq pc 8) (some (.iconst 8, 2)) (none)))
 (cond (Nat.blt pc 13)
 (cond (Nat.beq pc 10) (some (.if_icmp .ge 74, 3)) (none))
 (cond (Nat.blt pc 14)
 (cond (Nat.beq pc 13) (some (.iload 1, 1)) (none))
 (cond (Nat.beq pc 14) (some (.iconst (-9), 2)) (none))))))
 (cond (Nat.blt pc 27)
 (cond (Nat.blt pc 20)
 (cond (Nat.blt pc 19)
 (cond (Nat.beq pc 16) (some (.if_icmp .eq 74, 3)) (none))
 (cond (Nat.beq pc 19) (some (.aload 0, 1)) (none)))
 (cond (Nat.blt pc 23)
 (cond (Nat.beq pc 20) (some (.getfield 402, 3)) (none))
 (cond (Nat.blt pc 26)
 (cond (Nat.beq pc 23) (some (.getfield 210, 3)) (none))
 (cond (Nat.beq pc 26) (some (.iload 2, 1)) (none)))))
 (cond (Nat.blt pc 30)
 (cond (Nat.blt pc 28)
 (cond (Nat.beq pc 27) (some (.iload 1, 1)) (none))
 (cond (Nat.blt pc 29)
 (cond (Nat.beq pc 28) (some (.iastore, 1)) (none))
 (cond (Nat.beq pc 29) (some (.aload 0, 1)) (none))))
 (cond (Nat.blt pc 33)
 (cond (Nat.beq pc 30) (some (.getfield 402, 3)) (none))
 (cond (Nat.blt pc 34)
 (cond (Nat.beq pc 33) (some (.iload 2, 1)) (none))
 (cond (Nat.beq pc 34) (some (.iconst 1, 1)) (none)))))))
 (cond (Nat.blt pc 57)
 (cond (Nat.blt pc 45)
 (cond (Nat.blt pc 39)
 (cond (Nat.blt pc 36)
 (cond (Nat.beq pc 35) (some (.iadd, 1)) (none))
 (cond (Nat.beq pc 36) (some (.putfield 202, 3)) (none)))
 (cond (Nat.blt pc 40)
 (cond (Nat.beq pc 39) (some (.aload 0, 1)) (none))
 (cond (Nat.blt pc 43)
 (cond (Nat.beq pc 40) (some (.getfield 403, 3)) (none))
 (cond (Nat.beq pc 43) (some (.iconst 59, 2)) (none)))))
 (cond (Nat.blt pc 49)
 (cond (Nat.blt pc 48)
 (cond (Nat.beq pc 45) (some (.if_icmp .eq 60, 3)) (none))
 (cond (Nat.beq pc 48) (some (.aload 0, 1)) (none)))
 (cond (Nat.blt pc 52)
 (cond (Nat.beq pc 49) (some (.getfield 402, 3)) (none))
 (cond (Nat.blt pc 55)
 (cond (Nat.beq pc 52) (some (.getfield 202, 3)) (none))
 (cond (Nat.beq pc 55) (some (.iconst 8, 2)) (none))))))
 (cond (Nat.blt pc 64)
 (cond (Nat.blt pc 61)
 (cond (Nat.blt pc 60)
 (cond (Nat.beq pc 57) (some (.if_icmp .ne 62, 3)) (none))
 (cond (Nat.beq pc 60) (some (.iconst 1, 1)) (none)))
 (cond (Nat.blt pc 62)
 (cond (Nat.beq pc 61) (some (.freturn, 1)) (none))
 (cond (Nat.blt pc 63)
 (cond (Nat.beq pc 62) (some (.aload 0, 1)) (none))
 (cond (Nat.beq pc 63) (some (.iload 1, 1)) (none)))))
 (cond (Nat.blt pc 71)
 (cond (Nat.blt pc 67)
 (cond (Nat.beq pc 64) (some (.invokevirtual 47, 3)) (none))
 (cond (Nat.blt pc 68)
 (cond (Nat.beq pc 67) (some (.istore 1, 1)) (none))
 (cond (Nat.beq pc 68) (some (.iinc 2 1, 3)) (none))))
 (cond (Nat.blt pc 74)
 (cond (Nat.beq pc 71) (some (.goto 7, 3)) (none))
 (cond (Nat.blt pc 75)
 (cond (Nat.beq pc 74) (some (.iconst 0, 1)) (none))
 (cond (Nat.beq pc 75) (some (.freturn, 1)) (none)))))))
-- AlwaysThere$Reader.takePlace()I
noncomputable def qc_45 (pc : Nat) : Option (Instr × Nat) := cond (Nat.blt pc 6)
 (cond (Nat.blt pc 2)
 (cond (Nat.blt pc 1)
 (cond (Nat.beq pc 0) (some (.aload 0, 1)) (none))
 (cond (Nat.beq pc 1) (some (.iconst 0, 1)) (none)))
 (cond (Nat.blt pc 3)
 (cond (Nat.beq pc 2) (some (.aload 0, 1)) (none))
 (cond (Nat.beq pc 3) (some (.getfield 402, 3)) (none))))
 (cond (Nat.blt pc 10)
 (cond (Nat.blt pc 9)
 (cond (Nat.beq pc 6) (some (.getfield 200, 3)) (none))
 (cond (Nat.beq pc 9) (some (.iconst 1, 1)) (none)))
 (cond (Nat.blt pc 11)
 (cond (Nat.beq pc 10) (some (.isub, 1)) (none))
 (cond (Nat.blt pc 14)
 (cond (Nat.beq pc 11) (some (.invokevirtual 48, 3)) (none))
 (cond (Nat.beq pc 14) (some (.ireturn, 1)) (none)))))
-- AlwaysThere$Reader.takePlaceUnlike(I)I
noncomputable def qc_46 (pc : Nat) : Option (Instr × Nat) := cond (Nat.blt pc 14)
 (cond (Nat.blt pc 7)
 (cond (Nat.blt pc 1)
 (cond (Nat.beq pc 0) (some (.aload 0, 1)) (none))
 (cond (Nat.blt pc 4)
 (cond (Nat.beq pc 1) (some (.getfield 403, 3)) (none))
 (cond (Nat.beq pc 4) (some (.iconst 256, 3)) (none))))
 (cond (Nat.blt pc 10)
 (cond (Nat.beq pc 7) (some (.if_icmp .ne 23, 3)) (none))
 (cond (Nat.blt pc 11)
 (cond (Nat.beq pc 10) (some (.aload 0, 1)) (none))
 (cond (Nat.beq pc 11) (some (.getfield 404, 3)) (none)))))
 (cond (Nat.blt pc 20)
 (cond (Nat.blt pc 15)
 (cond (Nat.beq pc 14) (some (.iload 1, 1)) (none))
 (cond (Nat.blt pc 18)
 (cond (Nat.beq pc 15) (some (.if_icmp .ne 23, 3)) (none))
 (cond (Nat.beq pc 18) (some (.iconst (-9), 2)) (none))))
 (cond (Nat.blt pc 24)
 (cond (Nat.blt pc 23)
 (cond (Nat.beq pc 20) (some (.goto 27, 3)) (none))
 (cond (Nat.beq pc 23) (some (.aload 0, 1)) (none)))
 (cond (Nat.blt pc 27)
 (cond (Nat.beq pc 24) (some (.invokevirtual 45, 3)) (none))
 (cond (Nat.beq pc 27) (some (.ireturn, 1)) (none)))))
-- AlwaysThere$Reader.takePlaceBeyondFurrow(I)I
noncomputable def qc_47 (pc : Nat) : Option (Instr × Nat) := cond (Nat.blt pc 30)
 (cond (Nat.blt pc 15)
 (cond (Nat.blt pc 7)
 (cond (Nat.blt pc 1)
 (cond (Nat.beq pc 0) (some (.aload 0, 1)) (none))
 (cond (Nat.blt pc 4)
 (cond (Nat.beq pc 1) (some (.getfield 403, 3)) (none))
 (cond (Nat.beq pc 4) (some (.iconst 256, 3)) (none))))
 (cond (Nat.blt pc 11)
 (cond (Nat.blt pc 10)
 (cond (Nat.beq pc 7) (some (.if_icmp .ne 43, 3)) (none))
 (cond (Nat.beq pc 10) (some (.aload 0, 1)) (none)))
 (cond (Nat.blt pc 14)
 (cond (Nat.beq pc 11) (some (.getfield 402, 3)) (none))
 (cond (Nat.beq pc 14) (some (.aload 0, 1)) (none)))))
 (cond (Nat.blt pc 24)
 (cond (Nat.blt pc 18)
 (cond (Nat.beq pc 15) (some (.getfield 404, 3)) (none))
 (cond (Nat.blt pc 21)
 (cond (Nat.beq pc 18) (some (.invokevirtual 15, 3)) (none))
 (cond (Nat.beq pc 21) (some (.ifCond .eq 43, 3)) (none))))
 (cond (Nat.blt pc 28)
 (cond (Nat.blt pc 25)
 (cond (Nat.beq pc 24) (some (.aload 0, 1)) (none))
 (cond (Nat.beq pc 25) (some (.getfield 402, 3)) (none)))
 (cond (Nat.blt pc 29)
 (cond (Nat.beq pc 28) (some (.iload 1, 1)) (none))
 (cond (Nat.beq pc 29) (some (.aload 0, 1)) (none))))))
 (cond (Nat.blt pc 45)
 (cond (Nat.blt pc 39)
 (cond (Nat.blt pc 33)
 (cond (Nat.beq pc 30) (some (.getfield 404, 3)) (none))
 (cond (Nat.blt pc 36)
 (cond (Nat.beq pc 33) (some (.invokevirtual 18, 3)) (none))
 (cond (Nat.beq pc 36) (some (.ifCond .ne 43, 3)) (none))))
 (cond (Nat.blt pc 43)
 (cond (Nat.blt pc 40)
 (cond (Nat.beq pc 39) (some (.iconst 1, 1)) (none))
 (cond (Nat.beq pc 40) (some (.goto 44, 3)) (none)))
 (cond (Nat.blt pc 44)
 (cond (Nat.beq pc 43) (some (.iconst 0, 1)) (none))
 (cond (Nat.beq pc 44) (some (.istore 2, 1)) (none)))))
 (cond (Nat.blt pc 51)
 (cond (Nat.blt pc 46)
 (cond (Nat.beq pc 45) (some (.iload 2, 1)) (none))
 (cond (Nat.blt pc 49)
 (cond (Nat.beq pc 46) (some (.ifCond .eq 54, 3)) (none))
 (cond (Nat.beq pc 49) (some (.iconst (-9), 2)) (none))))
 (cond (Nat.blt pc 55)
 (cond (Nat.blt pc 54)
 (cond (Nat.beq pc 51) (some (.goto 58, 3)) (none))
 (cond (Nat.beq pc 54) (some (.aload 0, 1)) (none)))
 (cond (Nat.blt pc 58)
 (cond (Nat.beq pc 55) (some (.invokevirtual 45, 3)) (none))
 (cond (Nat.beq pc 58) (some (.ireturn, 1)) (none))))))
-- AlwaysThere$Reader.takeNumber(II)I
noncomputable def qc_48 (pc : Nat) : Option (Instr × Nat) := cond (Nat.blt pc 22)
 (cond (Nat.blt pc 11)
 (cond (Nat.blt pc 4)
 (cond (Nat.blt pc 1)
 (cond (Nat.beq pc 0) (some (.aload 0, 1)) (none))
 (cond (Nat.beq pc 1) (some (.getfield 403, 3)) (none)))
 (cond (Nat.blt pc 7)
 (cond (Nat.beq pc 4) (some (.iconst 256, 3)) (none))
 (cond (Nat.blt pc 10)
 (cond (Nat.beq pc 7) (some (.if_icmp .ne 26, 3)) (none))
 (cond (Nat.beq pc 10) (some (.aload 0, 1)) (none)))))
 (cond (Nat.blt pc 15)
 (cond (Nat.blt pc 14)
 (cond (Nat.beq pc 11) (some (.getfield 404, 3)) (none))
 (cond (Nat.beq pc 14) (some (.iload 1, 1)) (none)))
 (cond (Nat.blt pc 18)
 (cond (Nat.beq pc 15) (some (.if_icmp .lt 26, 3)) (none))
 (cond (Nat.blt pc 19)
 (cond (Nat.beq pc 18) (some (.aload 0, 1)) (none))
 (cond (Nat.beq pc 19) (some (.getfield 404, 3)) (none))))))
 (cond (Nat.blt pc 30)
 (cond (Nat.blt pc 26)
 (cond (Nat.blt pc 23)
 (cond (Nat.beq pc 22) (some (.iload 2, 1)) (none))
 (cond (Nat.beq pc 23) (some (.if_icmp .le 29, 3)) (none)))
 (cond (Nat.blt pc 28)
 (cond (Nat.beq pc 26) (some (.iconst (-9), 2)) (none))
 (cond (Nat.blt pc 29)
 (cond (Nat.beq pc 28) (some (.ireturn, 1)) (none))
 (cond (Nat.beq pc 29) (some (.aload 0, 1)) (none)))))
 (cond (Nat.blt pc 35)
 (cond (Nat.blt pc 33)
 (cond (Nat.beq pc 30) (some (.getfield 404, 3)) (none))
 (cond (Nat.blt pc 34)
 (cond (Nat.beq pc 33) (some (.istore 3, 1)) (none))
 (cond (Nat.beq pc 34) (some (.aload 0, 1)) (none))))
 (cond (Nat.blt pc 38)
 (cond (Nat.beq pc 35) (some (.invokevirtual 49, 3)) (none))
 (cond (Nat.blt pc 39)
 (cond (Nat.beq pc 38) (some (.iload 3, 1)) (none))
 (cond (Nat.beq pc 39) (some (.ireturn, 1)) (none))))))
-- AlwaysThere$Reader.goOn()V
noncomputable def qc_49 (pc : Nat) : Option (Instr × Nat) := cond (Nat.blt pc 58)
 (cond (Nat.blt pc 28)
 (cond (Nat.blt pc 13)
 (cond (Nat.blt pc 5)
 (cond (Nat.blt pc 1)
 (cond (Nat.beq pc 0) (some (.aload 0, 1)) (none))
 (cond (Nat.blt pc 2)
 (cond (Nat.beq pc 1) (some (.aload 0, 1)) (none))
 (cond (Nat.beq pc 2) (some (.getfield 406, 3)) (none))))
 (cond (Nat.blt pc 9)
 (cond (Nat.blt pc 8)
 (cond (Nat.beq pc 5) (some (.putfield 405, 3)) (none))
 (cond (Nat.beq pc 8) (some (.aload 0, 1)) (none)))
 (cond (Nat.blt pc 12)
 (cond (Nat.beq pc 9) (some (.getfield 405, 3)) (none))
 (cond (Nat.beq pc 12) (some (.aload 0, 1)) (none)))))
 (cond (Nat.blt pc 20)
 (cond (Nat.blt pc 16)
 (cond (Nat.beq pc 13) (some (.getfield 401, 3)) (none))
 (cond (Nat.blt pc 19)
 (cond (Nat.beq pc 16) (some (.if_icmp .ge 46, 3)) (none))
 (cond (Nat.beq pc 19) (some (.aload 0, 1)) (none))))
 (cond (Nat.blt pc 24)
 (cond (Nat.blt pc 23)
 (cond (Nat.beq pc 20) (some (.getfield 400, 3)) (none))
 (cond (Nat.beq pc 23) (some (.aload 0, 1)) (none)))
 (cond (Nat.blt pc 27)
 (cond (Nat.beq pc 24) (some (.getfield 405, 3)) (none))
 (cond (Nat.beq pc 27) (some (.caload, 1)) (none))))))
 (cond (Nat.blt pc 40)
 (cond (Nat.blt pc 34)
 (cond (Nat.blt pc 30)
 (cond (Nat.beq pc 28) (some (.iconst 32, 2)) (none))
 (cond (Nat.blt pc 33)
 (cond (Nat.beq pc 30) (some (.if_icmp .ne 46, 3)) (none))
 (cond (Nat.beq pc 33) (some (.aload 0, 1)) (none))))
 (cond (Nat.blt pc 38)
 (cond (Nat.blt pc 35)
 (cond (Nat.beq pc 34) (some (.dup, 1)) (none))
 (cond (Nat.beq pc 35) (some (.getfield 405, 3)) (none)))
 (cond (Nat.blt pc 39)
 (cond (Nat.beq pc 38) (some (.iconst 1, 1)) (none))
 (cond (Nat.beq pc 39) (some (.iadd, 1)) (none)))))
 (cond (Nat.blt pc 48)
 (cond (Nat.blt pc 46)
 (cond (Nat.blt pc 43)
 (cond (Nat.beq pc 40) (some (.putfield 405, 3)) (none))
 (cond (Nat.beq pc 43) (some (.goto 8, 3)) (none)))
 (cond (Nat.blt pc 47)
 (cond (Nat.beq pc 46) (some (.aload 0, 1)) (none))
 (cond (Nat.beq pc 47) (some (.aload 0, 1)) (none))))
 (cond (Nat.blt pc 54)
 (cond (Nat.blt pc 51)
 (cond (Nat.beq pc 48) (some (.getfield 405, 3)) (none))
 (cond (Nat.beq pc 51) (some (.putfield 406, 3)) (none)))
 (cond (Nat.blt pc 55)
 (cond (Nat.beq pc 54) (some (.aload 0, 1)) (none))
 (cond (Nat.beq pc 55) (some (.getfield 405, 3)) (none)))))))
 (cond (Nat.blt pc 90)
 (cond (Nat.blt pc 75)
 (cond (Nat.blt pc 65)
 (cond (Nat.blt pc 59)
 (cond (Nat.beq pc 58) (some (.aload 0, 1)) (none))
 (cond (Nat.blt pc 62)
 (cond (Nat.beq pc 59) (some (.getfield 401, 3)) (none))
 (cond (Nat.beq pc 62) (some (.if_icmp .lt 75, 3)) (none))))
 (cond (Nat.blt pc 69)
 (cond (Nat.blt pc 66)
 (cond (Nat.beq pc 65) (some (.aload 0, 1)) (none))
 (cond (Nat.beq pc 66) (some (.iconst 257, 3)) (none)))
 (cond (Nat.blt pc 72)
 (cond (Nat.beq pc 69) (some (.putfield 403, 3)) (none))
 (cond (Nat.beq pc 72) (some (.goto 116, 3)) (none)))))
 (cond (Nat.blt pc 80)
 (cond (Nat.blt pc 76)
 (cond (Nat.beq pc 75) (some (.aload 0, 1)) (none))
 (cond (Nat.blt pc 77)
 (cond (Nat.beq pc 76) (some (.aload 0, 1)) (none))
 (cond (Nat.beq pc 77) (some (.getfield 405, 3)) (none))))
 (cond (Nat.blt pc 86)
 (cond (Nat.blt pc 83)
 (cond (Nat.beq pc 80) (some (.invokevirtual 51, 3)) (none))
 (cond (Nat.beq pc 83) (some (.ifCond .eq 93, 3)) (none)))
 (cond (Nat.blt pc 87)
 (cond (Nat.beq pc 86) (some (.aload 0, 1)) (none))
 (cond (Nat.beq pc 87) (some (.invokevirtual 50, 3)) (none))))))
 (cond (Nat.blt pc 103)
 (cond (Nat.blt pc 95)
 (cond (Nat.blt pc 93)
 (cond (Nat.beq pc 90) (some (.goto 116, 3)) (none))
 (cond (Nat.blt pc 94)
 (cond (Nat.beq pc 93) (some (.aload 0, 1)) (none))
 (cond (Nat.beq pc 94) (some (.aload 0, 1)) (none))))
 (cond (Nat.blt pc 99)
 (cond (Nat.blt pc 98)
 (cond (Nat.beq pc 95) (some (.getfield 400, 3)) (none))
 (cond (Nat.beq pc 98) (some (.aload 0, 1)) (none)))
 (cond (Nat.blt pc 102)
 (cond (Nat.beq pc 99) (some (.getfield 405, 3)) (none))
 (cond (Nat.beq pc 102) (some (.caload, 1)) (none)))))
 (cond (Nat.blt pc 111)
 (cond (Nat.blt pc 107)
 (cond (Nat.blt pc 106)
 (cond (Nat.beq pc 103) (some (.putfield 403, 3)) (none))
 (cond (Nat.beq pc 106) (some (.aload 0, 1)) (none)))
 (cond (Nat.blt pc 108)
 (cond (Nat.beq pc 107) (some (.aload 0, 1)) (none))
 (cond (Nat.beq pc 108) (some (.getfield 405, 3)) (none))))
 (cond (Nat.blt pc 113)
 (cond (Nat.blt pc 112)
 (cond (Nat.beq pc 111) (some (.iconst 1, 1)) (none))
 (cond (Nat.beq pc 112) (some (.iadd, 1)) (none)))
 (cond (Nat.blt pc 116)
 (cond (Nat.beq pc 113) (some (.putfield 406, 3)) (none))
 (cond (Nat.beq pc 116) (some (.return_, 1)) (none)))))))
-- AlwaysThere$Reader.readDigits()V
noncomputable def qc_50 (pc : Nat) : Option (Instr × Nat) := cond (Nat.blt pc 66)
 (cond (Nat.blt pc 36)
 (cond (Nat.blt pc 17)
 (cond (Nat.blt pc 6)
 (cond (Nat.blt pc 2)
 (cond (Nat.blt pc 1)
 (cond (Nat.beq pc 0) (some (.aload 0, 1)) (none))
 (cond (Nat.beq pc 1) (some (.iconst 0, 1)) (none)))
 (cond (Nat.blt pc 5)
 (cond (Nat.beq pc 2) (some (.putfield 404, 3)) (none))
 (cond (Nat.beq pc 5) (some (.aload 0, 1)) (none))))
 (cond (Nat.blt pc 10)
 (cond (Nat.blt pc 9)
 (cond (Nat.beq pc 6) (some (.getfield 406, 3)) (none))
 (cond (Nat.beq pc 9) (some (.aload 0, 1)) (none)))
 (cond (Nat.blt pc 13)
 (cond (Nat.beq pc 10) (some (.getfield 401, 3)) (none))
 (cond (Nat.blt pc 16)
 (cond (Nat.beq pc 13) (some (.if_icmp .ge 77, 3)) (none))
 (cond (Nat.beq pc 16) (some (.aload 0, 1)) (none))))))
 (cond (Nat.blt pc 27)
 (cond (Nat.blt pc 21)
 (cond (Nat.blt pc 18)
 (cond (Nat.beq pc 17) (some (.aload 0, 1)) (none))
 (cond (Nat.beq pc 18) (some (.getfield 406, 3)) (none)))
 (cond (Nat.blt pc 24)
 (cond (Nat.beq pc 21) (some (.invokevirtual 51, 3)) (none))
 (cond (Nat.beq pc 24) (some (.ifCond .eq 77, 3)) (none))))
 (cond (Nat.blt pc 31)
 (cond (Nat.blt pc 28)
 (cond (Nat.beq pc 27) (some (.aload 0, 1)) (none))
 (cond (Nat.beq pc 28) (some (.getfield 406, 3)) (none)))
 (cond (Nat.blt pc 32)
 (cond (Nat.beq pc 31) (some (.aload 0, 1)) (none))
 (cond (Nat.blt pc 35)
 (cond (Nat.beq pc 32) (some (.getfield 405, 3)) (none))
 (cond (Nat.beq pc 35) (some (.isub, 1)) (none)))))))
 (cond (Nat.blt pc 52)
 (cond (Nat.blt pc 42)
 (cond (Nat.blt pc 40)
 (cond (Nat.blt pc 37)
 (cond (Nat.beq pc 36) (some (.iconst 2, 1)) (none))
 (cond (Nat.beq pc 37) (some (.if_icmp .ge 64, 3)) (none)))
 (cond (Nat.blt pc 41)
 (cond (Nat.beq pc 40) (some (.aload 0, 1)) (none))
 (cond (Nat.beq pc 41) (some (.aload 0, 1)) (none))))
 (cond (Nat.blt pc 47)
 (cond (Nat.blt pc 45)
 (cond (Nat.beq pc 42) (some (.getfield 404, 3)) (none))
 (cond (Nat.beq pc 45) (some (.iconst 10, 2)) (none)))
 (cond (Nat.blt pc 48)
 (cond (Nat.beq pc 47) (some (.imul, 1)) (none))
 (cond (Nat.blt pc 49)
 (cond (Nat.beq pc 48) (some (.aload 0, 1)) (none))
 (cond (Nat.beq pc 49) (some (.getfield 400, 3)) (none))))))
 (cond (Nat.blt pc 58)
 (cond (Nat.blt pc 56)
 (cond (Nat.blt pc 53)
 (cond (Nat.beq pc 52) (some (.aload 0, 1)) (none))
 (cond (Nat.beq pc 53) (some (.getfield 406, 3)) (none)))
 (cond (Nat.blt pc 57)
 (cond (Nat.beq pc 56) (some (.caload, 1)) (none))
 (cond (Nat.beq pc 57) (some (.iadd, 1)) (none))))
 (cond (Nat.blt pc 61)
 (cond (Nat.blt pc 60)
 (cond (Nat.beq pc 58) (some (.iconst 48, 2)) (none))
 (cond (Nat.beq pc 60) (some (.isub, 1)) (none)))
 (cond (Nat.blt pc 64)
 (cond (Nat.beq pc 61) (some (.putfield 404, 3)) (none))
 (cond (Nat.blt pc 65)
 (cond (Nat.beq pc 64) (some (.aload 0, 1)) (none))
 (cond (Nat.beq pc 65) (some (.dup, 1)) (none))))))))
 (cond (Nat.blt pc 100)
 (cond (Nat.blt pc 85)
 (cond (Nat.blt pc 74)
 (cond (Nat.blt pc 70)
 (cond (Nat.blt pc 69)
 (cond (Nat.beq pc 66) (some (.getfield 406, 3)) (none))
 (cond (Nat.beq pc 69) (some (.iconst 1, 1)) (none)))
 (cond (Nat.blt pc 71)
 (cond (Nat.beq pc 70) (some (.iadd, 1)) (none))
 (cond (Nat.beq pc 71) (some (.putfield 406, 3)) (none))))
 (cond (Nat.blt pc 78)
 (cond (Nat.blt pc 77)
 (cond (Nat.beq pc 74) (some (.goto 5, 3)) (none))
 (cond (Nat.beq pc 77) (some (.aload 0, 1)) (none)))
 (cond (Nat.blt pc 81)
 (cond (Nat.beq pc 78) (some (.getfield 406, 3)) (none))
 (cond (Nat.blt pc 82)
 (cond (Nat.beq pc 81) (some (.aload 0, 1)) (none))
 (cond (Nat.beq pc 82) (some (.getfield 405, 3)) (none))))))
 (cond (Nat.blt pc 89)
 (cond (Nat.blt pc 87)
 (cond (Nat.blt pc 86)
 (cond (Nat.beq pc 85) (some (.isub, 1)) (none))
 (cond (Nat.beq pc 86) (some (.istore 1, 1)) (none)))
 (cond (Nat.blt pc 88)
 (cond (Nat.beq pc 87) (some (.iload 1, 1)) (none))
 (cond (Nat.beq pc 88) (some (.iconst 1, 1)) (none))))
 (cond (Nat.blt pc 93)
 (cond (Nat.blt pc 92)
 (cond (Nat.beq pc 89) (some (.if_icmp .le 110, 3)) (none))
 (cond (Nat.beq pc 92) (some (.aload 0, 1)) (none)))
 (cond (Nat.blt pc 96)
 (cond (Nat.beq pc 93) (some (.getfield 400, 3)) (none))
 (cond (Nat.blt pc 97)
 (cond (Nat.beq pc 96) (some (.aload 0, 1)) (none))
 (cond (Nat.beq pc 97) (some (.getfield 405, 3)) (none)))))))
 (cond (Nat.blt pc 114)
 (cond (Nat.blt pc 107)
 (cond (Nat.blt pc 103)
 (cond (Nat.blt pc 101)
 (cond (Nat.beq pc 100) (some (.caload, 1)) (none))
 (cond (Nat.beq pc 101) (some (.iconst 48, 2)) (none)))
 (cond (Nat.blt pc 106)
 (cond (Nat.beq pc 103) (some (.if_icmp .ne 110, 3)) (none))
 (cond (Nat.beq pc 106) (some (.iconst 1, 1)) (none))))
 (cond (Nat.blt pc 111)
 (cond (Nat.blt pc 110)
 (cond (Nat.beq pc 107) (some (.goto 111, 3)) (none))
 (cond (Nat.beq pc 110) (some (.iconst 0, 1)) (none)))
 (cond (Nat.blt pc 112)
 (cond (Nat.beq pc 111) (some (.istore 2, 1)) (none))
 (cond (Nat.blt pc 113)
 (cond (Nat.beq pc 112) (some (.aload 0, 1)) (none))
 (cond (Nat.beq pc 113) (some (.iload 1, 1)) (none))))))
 (cond (Nat.blt pc 122)
 (cond (Nat.blt pc 118)
 (cond (Nat.blt pc 115)
 (cond (Nat.beq pc 114) (some (.iconst 2, 1)) (none))
 (cond (Nat.beq pc 115) (some (.if_icmp .gt 122, 3)) (none)))
 (cond (Nat.blt pc 119)
 (cond (Nat.beq pc 118) (some (.iload 2, 1)) (none))
 (cond (Nat.beq pc 119) (some (.ifCond .eq 128, 3)) (none))))
 (cond (Nat.blt pc 128)
 (cond (Nat.blt pc 125)
 (cond (Nat.beq pc 122) (some (.iconst 258, 3)) (none))
 (cond (Nat.beq pc 125) (some (.goto 131, 3)) (none)))
 (cond (Nat.blt pc 131)
 (cond (Nat.beq pc 128) (some (.iconst 256, 3)) (none))
 (cond (Nat.blt pc 134)
 (cond (Nat.beq pc 131) (some (.putfield 403, 3)) (none))
 (cond (Nat.beq pc 134) (some (.return_, 1)) (none))))))))
-- AlwaysThere$Reader.isDigit(I)Z
noncomputable def qc_51 (pc : Nat) : Option (Instr × Nat) := cond (Nat.blt pc 15)
 (cond (Nat.blt pc 6)
 (cond (Nat.blt pc 4)
 (cond (Nat.blt pc 1)
 (cond (Nat.beq pc 0) (some (.aload 0, 1)) (none))
 (cond (Nat.beq pc 1) (some (.getfield 400, 3)) (none)))
 (cond (Nat.blt pc 5)
 (cond (Nat.beq pc 4) (some (.iload 1, 1)) (none))
 (cond (Nat.beq pc 5) (some (.caload, 1)) (none))))
 (cond (Nat.blt pc 11)
 (cond (Nat.blt pc 8)
 (cond (Nat.beq pc 6) (some (.iconst 48, 2)) (none))
 (cond (Nat.beq pc 8) (some (.if_icmp .lt 26, 3)) (none)))
 (cond (Nat.blt pc 12)
 (cond (Nat.beq pc 11) (some (.aload 0, 1)) (none))
 (cond (Nat.beq pc 12) (some (.getfield 400, 3)) (none)))))
 (cond (Nat.blt pc 22)
 (cond (Nat.blt pc 17)
 (cond (Nat.blt pc 16)
 (cond (Nat.beq pc 15) (some (.iload 1, 1)) (none))
 (cond (Nat.beq pc 16) (some (.caload, 1)) (none)))
 (cond (Nat.blt pc 19)
 (cond (Nat.beq pc 17) (some (.iconst 57, 2)) (none))
 (cond (Nat.beq pc 19) (some (.if_icmp .gt 26, 3)) (none))))
 (cond (Nat.blt pc 26)
 (cond (Nat.blt pc 23)
 (cond (Nat.beq pc 22) (some (.iconst 1, 1)) (none))
 (cond (Nat.beq pc 23) (some (.goto 27, 3)) (none)))
 (cond (Nat.blt pc 27)
 (cond (Nat.beq pc 26) (some (.iconst 0, 1)) (none))
 (cond (Nat.beq pc 27) (some (.freturn, 1)) (none)))))
-- AlwaysThere$Run.<init>()V
noncomputable def qc_52 (pc : Nat) : Option (Instr × Nat) := cond (Nat.blt pc 21)
 (cond (Nat.blt pc 9)
 (cond (Nat.blt pc 4)
 (cond (Nat.blt pc 1)
 (cond (Nat.beq pc 0) (some (.aload 0, 1)) (none))
 (cond (Nat.beq pc 1) (some (.invokespecial 901, 3)) (none)))
 (cond (Nat.blt pc 5)
 (cond (Nat.beq pc 4) (some (.aload 0, 1)) (none))
 (cond (Nat.blt pc 7)
 (cond (Nat.beq pc 5) (some (.iconst 8, 2)) (none))
 (cond (Nat.beq pc 7) (some (.newarray .int, 2)) (none)))))
 (cond (Nat.blt pc 15)
 (cond (Nat.blt pc 12)
 (cond (Nat.beq pc 9) (some (.putfield 501, 3)) (none))
 (cond (Nat.blt pc 13)
 (cond (Nat.beq pc 12) (some (.aload 0, 1)) (none))
 (cond (Nat.beq pc 13) (some (.iconst 8, 2)) (none))))
 (cond (Nat.blt pc 17)
 (cond (Nat.beq pc 15) (some (.newarray .int, 2)) (none))
 (cond (Nat.blt pc 20)
 (cond (Nat.beq pc 17) (some (.putfield 502, 3)) (none))
 (cond (Nat.beq pc 20) (some (.aload 0, 1)) (none))))))
 (cond (Nat.blt pc 33)
 (cond (Nat.blt pc 28)
 (cond (Nat.blt pc 23)
 (cond (Nat.beq pc 21) (some (.iconst 8, 2)) (none))
 (cond (Nat.blt pc 25)
 (cond (Nat.beq pc 23) (some (.newarray .int, 2)) (none))
 (cond (Nat.beq pc 25) (some (.putfield 503, 3)) (none))))
 (cond (Nat.blt pc 29)
 (cond (Nat.beq pc 28) (some (.aload 0, 1)) (none))
 (cond (Nat.blt pc 31)
 (cond (Nat.beq pc 29) (some (.iconst 8, 2)) (none))
 (cond (Nat.beq pc 31) (some (.newarray .int, 2)) (none)))))
 (cond (Nat.blt pc 39)
 (cond (Nat.blt pc 36)
 (cond (Nat.beq pc 33) (some (.putfield 504, 3)) (none))
 (cond (Nat.blt pc 37)
 (cond (Nat.beq pc 36) (some (.aload 0, 1)) (none))
 (cond (Nat.beq pc 37) (some (.iconst 8, 2)) (none))))
 (cond (Nat.blt pc 41)
 (cond (Nat.beq pc 39) (some (.newarray .int, 2)) (none))
 (cond (Nat.blt pc 44)
 (cond (Nat.beq pc 41) (some (.putfield 505, 3)) (none))
 (cond (Nat.beq pc 44) (some (.return_, 1)) (none))))))
-- AlwaysThere$Run.hasPoint(I)Z
noncomputable def qc_53 (pc : Nat) : Option (Instr × Nat) := cond (Nat.blt pc 9)
 (cond (Nat.blt pc 4)
 (cond (Nat.blt pc 1)
 (cond (Nat.beq pc 0) (some (.iload 1, 1)) (none))
 (cond (Nat.beq pc 1) (some (.ifCond .lt 16, 3)) (none)))
 (cond (Nat.blt pc 5)
 (cond (Nat.beq pc 4) (some (.iload 1, 1)) (none))
 (cond (Nat.blt pc 6)
 (cond (Nat.beq pc 5) (some (.aload 0, 1)) (none))
 (cond (Nat.beq pc 6) (some (.getfield 500, 3)) (none)))))
 (cond (Nat.blt pc 13)
 (cond (Nat.blt pc 12)
 (cond (Nat.beq pc 9) (some (.if_icmp .ge 16, 3)) (none))
 (cond (Nat.beq pc 12) (some (.iconst 1, 1)) (none)))
 (cond (Nat.blt pc 16)
 (cond (Nat.beq pc 13) (some (.goto 17, 3)) (none))
 (cond (Nat.blt pc 17)
 (cond (Nat.beq pc 16) (some (.iconst 0, 1)) (none))
 (cond (Nat.beq pc 17) (some (.freturn, 1)) (none)))))
-- AlwaysThere$Run.comesLast()I
noncomputable def qc_54 (pc : Nat) : Option (Instr × Nat) := cond (Nat.blt pc 12)
 (cond (Nat.blt pc 7)
 (cond (Nat.blt pc 1)
 (cond (Nat.beq pc 0) (some (.aload 0, 1)) (none))
 (cond (Nat.blt pc 4)
 (cond (Nat.beq pc 1) (some (.getfield 500, 3)) (none))
 (cond (Nat.beq pc 4) (some (.ifCond .le 21, 3)) (none))))
 (cond (Nat.blt pc 8)
 (cond (Nat.beq pc 7) (some (.aload 0, 1)) (none))
 (cond (Nat.blt pc 11)
 (cond (Nat.beq pc 8) (some (.getfield 502, 3)) (none))
 (cond (Nat.beq pc 11) (some (.aload 0, 1)) (none)))))
 (cond (Nat.blt pc 17)
 (cond (Nat.blt pc 15)
 (cond (Nat.beq pc 12) (some (.getfield 500, 3)) (none))
 (cond (Nat.blt pc 16)
 (cond (Nat.beq pc 15) (some (.iconst 1, 1)) (none))
 (cond (Nat.beq pc 16) (some (.isub, 1)) (none))))
 (cond (Nat.blt pc 21)
 (cond (Nat.blt pc 18)
 (cond (Nat.beq pc 17) (some (.iaload, 1)) (none))
 (cond (Nat.beq pc 18) (some (.goto 23, 3)) (none)))
 (cond (Nat.blt pc 23)
 (cond (Nat.beq pc 21) (some (.iconst (-9), 2)) (none))
 (cond (Nat.beq pc 23) (some (.ireturn, 1)) (none)))))
-- AlwaysThere$Run.follow(LAlwaysThere$Land;[I)V
noncomputable def qc_55 (pc : Nat) : Option (Instr × Nat) := cond (Nat.blt pc 22)
 (cond (Nat.blt pc 9)
 (cond (Nat.blt pc 5)
 (cond (Nat.blt pc 1)
 (cond (Nat.beq pc 0) (some (.aload 0, 1)) (none))
 (cond (Nat.blt pc 2)
 (cond (Nat.beq pc 1) (some (.iconst 0, 1)) (none))
 (cond (Nat.beq pc 2) (some (.putfield 500, 3)) (none))))
 (cond (Nat.blt pc 7)
 (cond (Nat.blt pc 6)
 (cond (Nat.beq pc 5) (some (.iconst 0, 1)) (none))
 (cond (Nat.beq pc 6) (some (.istore 3, 1)) (none)))
 (cond (Nat.blt pc 8)
 (cond (Nat.beq pc 7) (some (.iload 3, 1)) (none))
 (cond (Nat.beq pc 8) (some (.aload 1, 1)) (none)))))
 (cond (Nat.blt pc 16)
 (cond (Nat.blt pc 12)
 (cond (Nat.beq pc 9) (some (.getfield 202, 3)) (none))
 (cond (Nat.blt pc 15)
 (cond (Nat.beq pc 12) (some (.if_icmp .ge 45, 3)) (none))
 (cond (Nat.beq pc 15) (some (.aload 0, 1)) (none))))
 (cond (Nat.blt pc 18)
 (cond (Nat.blt pc 17)
 (cond (Nat.beq pc 16) (some (.aload 1, 1)) (none))
 (cond (Nat.beq pc 17) (some (.aload 1, 1)) (none)))
 (cond (Nat.blt pc 21)
 (cond (Nat.beq pc 18) (some (.getfield 210, 3)) (none))
 (cond (Nat.beq pc 21) (some (.iload 3, 1)) (none))))))
 (cond (Nat.blt pc 31)
 (cond (Nat.blt pc 27)
 (cond (Nat.blt pc 23)
 (cond (Nat.beq pc 22) (some (.iaload, 1)) (none))
 (cond (Nat.blt pc 24)
 (cond (Nat.beq pc 23) (some (.iload 3, 1)) (none))
 (cond (Nat.beq pc 24) (some (.ifCond .le 35, 3)) (none))))
 (cond (Nat.blt pc 29)
 (cond (Nat.blt pc 28)
 (cond (Nat.beq pc 27) (some (.aload 2, 1)) (none))
 (cond (Nat.beq pc 28) (some (.iload 3, 1)) (none)))
 (cond (Nat.blt pc 30)
 (cond (Nat.beq pc 29) (some (.iconst 1, 1)) (none))
 (cond (Nat.beq pc 30) (some (.isub, 1)) (none)))))
 (cond (Nat.blt pc 36)
 (cond (Nat.blt pc 32)
 (cond (Nat.beq pc 31) (some (.iaload, 1)) (none))
 (cond (Nat.blt pc 35)
 (cond (Nat.beq pc 32) (some (.goto 36, 3)) (none))
 (cond (Nat.beq pc 35) (some (.iconst 0, 1)) (none))))
 (cond (Nat.blt pc 42)
 (cond (Nat.blt pc 39)
 (cond (Nat.beq pc 36) (some (.invokevirtual 56, 3)) (none))
 (cond (Nat.beq pc 39) (some (.iinc 3 1, 3)) (none)))
 (cond (Nat.blt pc 45)
 (cond (Nat.beq pc 42) (some (.goto 7, 3)) (none))
 (cond (Nat.beq pc 45) (some (.return_, 1)) (none))))))
-- AlwaysThere$Run.stepTo(LAlwaysThere$Land;II)V
noncomputable def qc_56 (pc : Nat) : Option (Instr × Nat) := cond (Nat.blt pc 87)
 (cond (Nat.blt pc 44)
 (cond (Nat.blt pc 24)
 (cond (Nat.blt pc 11)
 (cond (Nat.blt pc 6)
 (cond (Nat.blt pc 1)
 (cond (Nat.beq pc 0) (some (.aload 0, 1)) (none))
 (cond (Nat.blt pc 4)
 (cond (Nat.beq pc 1) (some (.getfield 500, 3)) (none))
 (cond (Nat.beq pc 4) (some (.iconst 8, 2)) (none))))
 (cond (Nat.blt pc 9)
 (cond (Nat.beq pc 6) (some (.if_icmp .lt 10, 3)) (none))
 (cond (Nat.blt pc 10)
 (cond (Nat.beq pc 9) (some (.return_, 1)) (none))
 (cond (Nat.beq pc 10) (some (.iconst 0, 1)) (none)))))
 (cond (Nat.blt pc 17)
 (cond (Nat.blt pc 13)
 (cond (Nat.beq pc 11) (some (.istore 4, 2)) (none))
 (cond (Nat.blt pc 14)
 (cond (Nat.beq pc 13) (some (.aload 0, 1)) (none))
 (cond (Nat.beq pc 14) (some (.getfield 500, 3)) (none))))
 (cond (Nat.blt pc 20)
 (cond (Nat.beq pc 17) (some (.ifCond .le 72, 3)) (none))
 (cond (Nat.blt pc 21)
 (cond (Nat.beq pc 20) (some (.aload 0, 1)) (none))
 (cond (Nat.beq pc 21) (some (.getfield 500, 3)) (none))))))
 (cond (Nat.blt pc 33)
 (cond (Nat.blt pc 28)
 (cond (Nat.blt pc 25)
 (cond (Nat.beq pc 24) (some (.iconst 1, 1)) (none))
 (cond (Nat.blt pc 26)
 (cond (Nat.beq pc 25) (some (.isub, 1)) (none))
 (cond (Nat.beq pc 26) (some (.istore 5, 2)) (none))))
 (cond (Nat.blt pc 29)
 (cond (Nat.beq pc 28) (some (.aload 1, 1)) (none))
 (cond (Nat.blt pc 30)
 (cond (Nat.beq pc 29) (some (.aload 0, 1)) (none))
 (cond (Nat.beq pc 30) (some (.getfield 501, 3)) (none)))))
 (cond (Nat.blt pc 38)
 (cond (Nat.blt pc 34)
 (cond (Nat.beq pc 33) (some (.aload 0, 1)) (none))
 (cond (Nat.blt pc 37)
 (cond (Nat.beq pc 34) (some (.getfield 500, 3)) (none))
 (cond (Nat.beq pc 37) (some (.iconst 1, 1)) (none))))
 (cond (Nat.blt pc 40)
 (cond (Nat.blt pc 39)
 (cond (Nat.beq pc 38) (some (.isub, 1)) (none))
 (cond (Nat.beq pc 39) (some (.iaload, 1)) (none)))
 (cond (Nat.blt pc 41)
 (cond (Nat.beq pc 40) (some (.iload 2, 1)) (none))
 (cond (Nat.beq pc 41) (some (.invokevirtual 18, 3)) (none)))))))
 (cond (Nat.blt pc 63)
 (cond (Nat.blt pc 55)
 (cond (Nat.blt pc 50)
 (cond (Nat.blt pc 46)
 (cond (Nat.beq pc 44) (some (.istore 6, 2)) (none))
 (cond (Nat.blt pc 47)
 (cond (Nat.beq pc 46) (some (.aload 0, 1)) (none))
 (cond (Nat.beq pc 47) (some (.getfield 502, 3)) (none))))
 (cond (Nat.blt pc 51)
 (cond (Nat.beq pc 50) (some (.aload 0, 1)) (none))
 (cond (Nat.blt pc 54)
 (cond (Nat.beq pc 51) (some (.getfield 500, 3)) (none))
 (cond (Nat.beq pc 54) (some (.iconst 1, 1)) (none)))))
 (cond (Nat.blt pc 58)
 (cond (Nat.blt pc 56)
 (cond (Nat.beq pc 55) (some (.isub, 1)) (none))
 (cond (Nat.blt pc 57)
 (cond (Nat.beq pc 56) (some (.iaload, 1)) (none))
 (cond (Nat.beq pc 57) (some (.iload 3, 1)) (none))))
 (cond (Nat.blt pc 61)
 (cond (Nat.blt pc 59)
 (cond (Nat.beq pc 58) (some (.iadd, 1)) (none))
 (cond (Nat.beq pc 59) (some (.iload 6, 2)) (none)))
 (cond (Nat.blt pc 62)
 (cond (Nat.beq pc 61) (some (.iadd, 1)) (none))
 (cond (Nat.beq pc 62) (some (.aload 1, 1)) (none))))))
 (cond (Nat.blt pc 73)
 (cond (Nat.blt pc 69)
 (cond (Nat.blt pc 66)
 (cond (Nat.beq pc 63) (some (.getfield 204, 3)) (none))
 (cond (Nat.blt pc 68)
 (cond (Nat.beq pc 66) (some (.iload 5, 2)) (none))
 (cond (Nat.beq pc 68) (some (.imul, 1)) (none))))
 (cond (Nat.blt pc 70)
 (cond (Nat.beq pc 69) (some (.iadd, 1)) (none))
 (cond (Nat.blt pc 72)
 (cond (Nat.beq pc 70) (some (.istore 4, 2)) (none))
 (cond (Nat.beq pc 72) (some (.iconst 0, 1)) (none)))))
 (cond (Nat.blt pc 78)
 (cond (Nat.blt pc 75)
 (cond (Nat.beq pc 73) (some (.istore 5, 2)) (none))
 (cond (Nat.blt pc 76)
 (cond (Nat.beq pc 75) (some (.iconst 0, 1)) (none))
 (cond (Nat.beq pc 76) (some (.istore 6, 2)) (none))))
 (cond (Nat.blt pc 81)
 (cond (Nat.blt pc 80)
 (cond (Nat.beq pc 78) (some (.iload 6, 2)) (none))
 (cond (Nat.beq pc 80) (some (.aload 0, 1)) (none)))
 (cond (Nat.blt pc 84)
 (cond (Nat.beq pc 81) (some (.getfield 500, 3)) (none))
 (cond (Nat.beq pc 84) (some (.if_icmp .ge 138, 3)) (none))))))))
 (cond (Nat.blt pc 135)
 (cond (Nat.blt pc 112)
 (cond (Nat.blt pc 96)
 (cond (Nat.blt pc 92)
 (cond (Nat.blt pc 88)
 (cond (Nat.beq pc 87) (some (.aload 1, 1)) (none))
 (cond (Nat.blt pc 89)
 (cond (Nat.beq pc 88) (some (.aload 0, 1)) (none))
 (cond (Nat.beq pc 89) (some (.getfield 501, 3)) (none))))
 (cond (Nat.blt pc 94)
 (cond (Nat.beq pc 92) (some (.iload 6, 2)) (none))
 (cond (Nat.blt pc 95)
 (cond (Nat.beq pc 94) (some (.iaload, 1)) (none))
 (cond (Nat.beq pc 95) (some (.iload 2, 1)) (none)))))
 (cond (Nat.blt pc 103)
 (cond (Nat.blt pc 99)
 (cond (Nat.beq pc 96) (some (.invokevirtual 21, 3)) (none))
 (cond (Nat.blt pc 101)
 (cond (Nat.beq pc 99) (some (.istore 7, 2)) (none))
 (cond (Nat.beq pc 101) (some (.iload 7, 2)) (none))))
 (cond (Nat.blt pc 108)
 (cond (Nat.blt pc 105)
 (cond (Nat.beq pc 103) (some (.iconst (-9), 2)) (none))
 (cond (Nat.beq pc 105) (some (.if_icmp .eq 132, 3)) (none)))
 (cond (Nat.blt pc 110)
 (cond (Nat.beq pc 108) (some (.iload 7, 2)) (none))
 (cond (Nat.beq pc 110) (some (.iload 4, 2)) (none))))))
 (cond (Nat.blt pc 123)
 (cond (Nat.blt pc 118)
 (cond (Nat.blt pc 113)
 (cond (Nat.beq pc 112) (some (.aload 0, 1)) (none))
 (cond (Nat.blt pc 116)
 (cond (Nat.beq pc 113) (some (.getfield 502, 3)) (none))
 (cond (Nat.beq pc 116) (some (.iload 6, 2)) (none))))
 (cond (Nat.blt pc 119)
 (cond (Nat.beq pc 118) (some (.iaload, 1)) (none))
 (cond (Nat.blt pc 120)
 (cond (Nat.beq pc 119) (some (.isub, 1)) (none))
 (cond (Nat.beq pc 120) (some (.if_icmp .gt 132, 3)) (none)))))
 (cond (Nat.blt pc 128)
 (cond (Nat.blt pc 125)
 (cond (Nat.beq pc 123) (some (.iload 5, 2)) (none))
 (cond (Nat.blt pc 126)
 (cond (Nat.beq pc 125) (some (.iconst 1, 1)) (none))
 (cond (Nat.beq pc 126) (some (.iload 6, 2)) (none))))
 (cond (Nat.blt pc 130)
 (cond (Nat.blt pc 129)
 (cond (Nat.beq pc 128) (some (.ishl, 1)) (none))
 (cond (Nat.beq pc 129) (some (.ior, 1)) (none)))
 (cond (Nat.blt pc 132)
 (cond (Nat.beq pc 130) (some (.istore 5, 2)) (none))
 (cond (Nat.beq pc 132) (some (.iinc 6 1, 3)) (none)))))))
 (cond (Nat.blt pc 159)
 (cond (Nat.blt pc 147)
 (cond (Nat.blt pc 142)
 (cond (Nat.blt pc 138)
 (cond (Nat.beq pc 135) (some (.goto 78, 3)) (none))
 (cond (Nat.blt pc 139)
 (cond (Nat.beq pc 138) (some (.aload 0, 1)) (none))
 (cond (Nat.beq pc 139) (some (.getfield 501, 3)) (none))))
 (cond (Nat.blt pc 143)
 (cond (Nat.beq pc 142) (some (.aload 0, 1)) (none))
 (cond (Nat.blt pc 146)
 (cond (Nat.beq pc 143) (some (.getfield 500, 3)) (none))
 (cond (Nat.beq pc 146) (some (.iload 2, 1)) (none)))))
 (cond (Nat.blt pc 152)
 (cond (Nat.blt pc 148)
 (cond (Nat.beq pc 147) (some (.iastore, 1)) (none))
 (cond (Nat.blt pc 149)
 (cond (Nat.beq pc 148) (some (.aload 0, 1)) (none))
 (cond (Nat.beq pc 149) (some (.getfield 502, 3)) (none))))
 (cond (Nat.blt pc 156)
 (cond (Nat.blt pc 153)
 (cond (Nat.beq pc 152) (some (.aload 0, 1)) (none))
 (cond (Nat.beq pc 153) (some (.getfield 500, 3)) (none)))
 (cond (Nat.blt pc 158)
 (cond (Nat.beq pc 156) (some (.iload 4, 2)) (none))
 (cond (Nat.beq pc 158) (some (.iastore, 1)) (none))))))
 (cond (Nat.blt pc 170)
 (cond (Nat.blt pc 164)
 (cond (Nat.blt pc 160)
 (cond (Nat.beq pc 159) (some (.aload 0, 1)) (none))
 (cond (Nat.blt pc 163)
 (cond (Nat.beq pc 160) (some (.getfield 503, 3)) (none))
 (cond (Nat.beq pc 163) (some (.aload 0, 1)) (none))))
 (cond (Nat.blt pc 167)
 (cond (Nat.beq pc 164) (some (.getfield 500, 3)) (none))
 (cond (Nat.blt pc 169)
 (cond (Nat.beq pc 167) (some (.iload 5, 2)) (none))
 (cond (Nat.beq pc 169) (some (.iastore, 1)) (none)))))
 (cond (Nat.blt pc 175)
 (cond (Nat.blt pc 171)
 (cond (Nat.beq pc 170) (some (.aload 0, 1)) (none))
 (cond (Nat.blt pc 172)
 (cond (Nat.beq pc 171) (some (.dup, 1)) (none))
 (cond (Nat.beq pc 172) (some (.getfield 500, 3)) (none))))
 (cond (Nat.blt pc 177)
 (cond (Nat.blt pc 176)
 (cond (Nat.beq pc 175) (some (.iconst 1, 1)) (none))
 (cond (Nat.beq pc 176) (some (.iadd, 1)) (none)))
 (cond (Nat.blt pc 180)
 (cond (Nat.beq pc 177) (some (.putfield 500, 3)) (none))
 (cond (Nat.beq pc 180) (some (.return_, 1)) (none))))))))
-- AlwaysThere$Run.stepBack()V
noncomputable def qc_57 (pc : Nat) : Option (Instr × Nat) := cond (Nat.blt pc 9)
 (cond (Nat.blt pc 4)
 (cond (Nat.blt pc 1)
 (cond (Nat.beq pc 0) (some (.aload 0, 1)) (none))
 (cond (Nat.beq pc 1) (some (.getfield 500, 3)) (none)))
 (cond (Nat.blt pc 7)
 (cond (Nat.beq pc 4) (some (.ifCond .le 17, 3)) (none))
 (cond (Nat.blt pc 8)
 (cond (Nat.beq pc 7) (some (.aload 0, 1)) (none))
 (cond (Nat.beq pc 8) (some (.dup, 1)) (none)))))
 (cond (Nat.blt pc 13)
 (cond (Nat.blt pc 12)
 (cond (Nat.beq pc 9) (some (.getfield 500, 3)) (none))
 (cond (Nat.beq pc 12) (some (.iconst 1, 1)) (none)))
 (cond (Nat.blt pc 14)
 (cond (Nat.beq pc 13) (some (.isub, 1)) (none))
 (cond (Nat.blt pc 17)
 (cond (Nat.beq pc 14) (some (.putfield 500, 3)) (none))
 (cond (Nat.beq pc 17) (some (.return_, 1)) (none)))))
-- AlwaysThere$Run.fewest()I
noncomputable def qc_58 (pc : Nat) : Option (Instr × Nat) := cond (Nat.blt pc 19)
 (cond (Nat.blt pc 7)
 (cond (Nat.blt pc 2)
 (cond (Nat.blt pc 1)
 (cond (Nat.beq pc 0) (some (.iconst 0, 1)) (none))
 (cond (Nat.beq pc 1) (some (.istore 1, 1)) (none)))
 (cond (Nat.blt pc 3)
 (cond (Nat.beq pc 2) (some (.iload 1, 1)) (none))
 (cond (Nat.blt pc 4)
 (cond (Nat.beq pc 3) (some (.aload 0, 1)) (none))
 (cond (Nat.beq pc 4) (some (.getfield 500, 3)) (none)))))
 (cond (Nat.blt pc 12)
 (cond (Nat.blt pc 10)
 (cond (Nat.beq pc 7) (some (.if_icmp .ge 26, 3)) (none))
 (cond (Nat.blt pc 11)
 (cond (Nat.beq pc 10) (some (.aload 0, 1)) (none))
 (cond (Nat.beq pc 11) (some (.iload 1, 1)) (none))))
 (cond (Nat.blt pc 15)
 (cond (Nat.beq pc 12) (some (.invokevirtual 59, 3)) (none))
 (cond (Nat.blt pc 18)
 (cond (Nat.beq pc 15) (some (.ifCond .eq 20, 3)) (none))
 (cond (Nat.beq pc 18) (some (.iload 1, 1)) (none))))))
 (cond (Nat.blt pc 28)
 (cond (Nat.blt pc 23)
 (cond (Nat.blt pc 20)
 (cond (Nat.beq pc 19) (some (.ireturn, 1)) (none))
 (cond (Nat.beq pc 20) (some (.iinc 1 1, 3)) (none)))
 (cond (Nat.blt pc 26)
 (cond (Nat.beq pc 23) (some (.goto 2, 3)) (none))
 (cond (Nat.blt pc 27)
 (cond (Nat.beq pc 26) (some (.aload 0, 1)) (none))
 (cond (Nat.beq pc 27) (some (.aload 0, 1)) (none)))))
 (cond (Nat.blt pc 35)
 (cond (Nat.blt pc 31)
 (cond (Nat.beq pc 28) (some (.getfield 500, 3)) (none))
 (cond (Nat.blt pc 34)
 (cond (Nat.beq pc 31) (some (.invokevirtual 59, 3)) (none))
 (cond (Nat.beq pc 34) (some (.pop, 1)) (none))))
 (cond (Nat.blt pc 36)
 (cond (Nat.beq pc 35) (some (.aload 0, 1)) (none))
 (cond (Nat.blt pc 39)
 (cond (Nat.beq pc 36) (some (.getfield 500, 3)) (none))
 (cond (Nat.beq pc 39) (some (.ireturn, 1)) (none))))))
-- AlwaysThere$Run.canBeDoneBy(I)Z
noncomputable def qc_59 (pc : Nat) : Option (Instr × Nat) := cond (Nat.blt pc 3)
 (cond (Nat.blt pc 1)
 (cond (Nat.beq pc 0) (some (.aload 0, 1)) (none))
 (cond (Nat.blt pc 2)
 (cond (Nat.beq pc 1) (some (.iconst 0, 1)) (none))
 (cond (Nat.beq pc 2) (some (.iconst 0, 1)) (none))))
 (cond (Nat.blt pc 4)
 (cond (Nat.beq pc 3) (some (.iload 1, 1)) (none))
 (cond (Nat.blt pc 7)
 (cond (Nat.beq pc 4) (some (.invokevirtual 60, 3)) (none))
 (cond (Nat.beq pc 7) (some (.freturn, 1)) (none))))
-- AlwaysThere$Run.tellFrom(III)Z
noncomputable def qc_60 (pc : Nat) : Option (Instr × Nat) := cond (Nat.blt pc 72)
 (cond (Nat.blt pc 35)
 (cond (Nat.blt pc 15)
 (cond (Nat.blt pc 8)
 (cond (Nat.blt pc 2)
 (cond (Nat.blt pc 1)
 (cond (Nat.beq pc 0) (some (.iload 1, 1)) (none))
 (cond (Nat.beq pc 1) (some (.aload 0, 1)) (none)))
 (cond (Nat.blt pc 5)
 (cond (Nat.beq pc 2) (some (.getfield 500, 3)) (none))
 (cond (Nat.beq pc 5) (some (.if_icmp .lt 10, 3)) (none))))
 (cond (Nat.blt pc 10)
 (cond (Nat.blt pc 9)
 (cond (Nat.beq pc 8) (some (.iconst 1, 1)) (none))
 (cond (Nat.beq pc 9) (some (.freturn, 1)) (none)))
 (cond (Nat.blt pc 11)
 (cond (Nat.beq pc 10) (some (.iconst 0, 1)) (none))
 (cond (Nat.blt pc 13)
 (cond (Nat.beq pc 11) (some (.istore 4, 2)) (none))
 (cond (Nat.beq pc 13) (some (.iload 4, 2)) (none))))))
 (cond (Nat.blt pc 25)
 (cond (Nat.blt pc 19)
 (cond (Nat.blt pc 16)
 (cond (Nat.beq pc 15) (some (.iload 2, 1)) (none))
 (cond (Nat.beq pc 16) (some (.if_icmp .gt 137, 3)) (none)))
 (cond (Nat.blt pc 21)
 (cond (Nat.beq pc 19) (some (.iload 4, 2)) (none))
 (cond (Nat.blt pc 22)
 (cond (Nat.beq pc 21) (some (.iload 3, 1)) (none))
 (cond (Nat.beq pc 22) (some (.if_icmp .ge 137, 3)) (none)))))
 (cond (Nat.blt pc 29)
 (cond (Nat.blt pc 27)
 (cond (Nat.beq pc 25) (some (.iload 4, 2)) (none))
 (cond (Nat.beq pc 27) (some (.iconst 8, 2)) (none)))
 (cond (Nat.blt pc 32)
 (cond (Nat.beq pc 29) (some (.if_icmp .ge 137, 3)) (none))
 (cond (Nat.blt pc 34)
 (cond (Nat.beq pc 32) (some (.iload 4, 2)) (none))
 (cond (Nat.beq pc 34) (some (.iload 2, 1)) (none)))))))
 (cond (Nat.blt pc 55)
 (cond (Nat.blt pc 45)
 (cond (Nat.blt pc 39)
 (cond (Nat.blt pc 38)
 (cond (Nat.beq pc 35) (some (.if_icmp .ne 42, 3)) (none))
 (cond (Nat.beq pc 38) (some (.iconst 1, 1)) (none)))
 (cond (Nat.blt pc 42)
 (cond (Nat.beq pc 39) (some (.goto 43, 3)) (none))
 (cond (Nat.blt pc 43)
 (cond (Nat.beq pc 42) (some (.iconst 0, 1)) (none))
 (cond (Nat.beq pc 43) (some (.istore 5, 2)) (none)))))
 (cond (Nat.blt pc 50)
 (cond (Nat.blt pc 47)
 (cond (Nat.beq pc 45) (some (.iload 5, 2)) (none))
 (cond (Nat.beq pc 47) (some (.ifCond .ne 72, 3)) (none)))
 (cond (Nat.blt pc 51)
 (cond (Nat.beq pc 50) (some (.aload 0, 1)) (none))
 (cond (Nat.blt pc 54)
 (cond (Nat.beq pc 51) (some (.getfield 503, 3)) (none))
 (cond (Nat.beq pc 54) (some (.iload 1, 1)) (none))))))
 (cond (Nat.blt pc 63)
 (cond (Nat.blt pc 57)
 (cond (Nat.blt pc 56)
 (cond (Nat.beq pc 55) (some (.iaload, 1)) (none))
 (cond (Nat.beq pc 56) (some (.aload 0, 1)) (none)))
 (cond (Nat.blt pc 60)
 (cond (Nat.beq pc 57) (some (.getfield 505, 3)) (none))
 (cond (Nat.blt pc 62)
 (cond (Nat.beq pc 60) (some (.iload 4, 2)) (none))
 (cond (Nat.beq pc 62) (some (.iaload, 1)) (none)))))
 (cond (Nat.blt pc 65)
 (cond (Nat.blt pc 64)
 (cond (Nat.beq pc 63) (some (.ishr, 1)) (none))
 (cond (Nat.beq pc 64) (some (.iconst 1, 1)) (none)))
 (cond (Nat.blt pc 66)
 (cond (Nat.beq pc 65) (some (.iand, 1)) (none))
 (cond (Nat.blt pc 69)
 (cond (Nat.beq pc 66) (some (.ifCond .ne 72, 3)) (none))
 (cond (Nat.beq pc 69) (some (.goto 131, 3)) (none))))))))
 (cond (Nat.blt pc 103)
 (cond (Nat.blt pc 89)
 (cond (Nat.blt pc 81)
 (cond (Nat.blt pc 76)
 (cond (Nat.blt pc 73)
 (cond (Nat.beq pc 72) (some (.aload 0, 1)) (none))
 (cond (Nat.beq pc 73) (some (.getfield 505, 3)) (none)))
 (cond (Nat.blt pc 78)
 (cond (Nat.beq pc 76) (some (.iload 4, 2)) (none))
 (cond (Nat.blt pc 79)
 (cond (Nat.beq pc 78) (some (.iaload, 1)) (none))
 (cond (Nat.beq pc 79) (some (.istore 6, 2)) (none)))))
 (cond (Nat.blt pc 85)
 (cond (Nat.blt pc 82)
 (cond (Nat.beq pc 81) (some (.aload 0, 1)) (none))
 (cond (Nat.beq pc 82) (some (.getfield 504, 3)) (none)))
 (cond (Nat.blt pc 86)
 (cond (Nat.beq pc 85) (some (.iload 1, 1)) (none))
 (cond (Nat.blt pc 88)
 (cond (Nat.beq pc 86) (some (.iload 4, 2)) (none))
 (cond (Nat.beq pc 88) (some (.iastore, 1)) (none))))))
 (cond (Nat.blt pc 97)
 (cond (Nat.blt pc 93)
 (cond (Nat.blt pc 90)
 (cond (Nat.beq pc 89) (some (.aload 0, 1)) (none))
 (cond (Nat.beq pc 90) (some (.getfield 505, 3)) (none)))
 (cond (Nat.blt pc 95)
 (cond (Nat.beq pc 93) (some (.iload 4, 2)) (none))
 (cond (Nat.blt pc 96)
 (cond (Nat.beq pc 95) (some (.iload 1, 1)) (none))
 (cond (Nat.beq pc 96) (some (.iastore, 1)) (none)))))
 (cond (Nat.blt pc 99)
 (cond (Nat.blt pc 98)
 (cond (Nat.beq pc 97) (some (.aload 0, 1)) (none))
 (cond (Nat.beq pc 98) (some (.iload 1, 1)) (none)))
 (cond (Nat.blt pc 100)
 (cond (Nat.beq pc 99) (some (.iconst 1, 1)) (none))
 (cond (Nat.blt pc 101)
 (cond (Nat.beq pc 100) (some (.iadd, 1)) (none))
 (cond (Nat.beq pc 101) (some (.iload 5, 2)) (none)))))))
 (cond (Nat.blt pc 121)
 (cond (Nat.blt pc 112)
 (cond (Nat.blt pc 107)
 (cond (Nat.blt pc 106)
 (cond (Nat.beq pc 103) (some (.ifCond .eq 112, 3)) (none))
 (cond (Nat.beq pc 106) (some (.iload 2, 1)) (none)))
 (cond (Nat.blt pc 108)
 (cond (Nat.beq pc 107) (some (.iconst 1, 1)) (none))
 (cond (Nat.blt pc 109)
 (cond (Nat.beq pc 108) (some (.iadd, 1)) (none))
 (cond (Nat.beq pc 109) (some (.goto 113, 3)) (none)))))
 (cond (Nat.blt pc 114)
 (cond (Nat.blt pc 113)
 (cond (Nat.beq pc 112) (some (.iload 2, 1)) (none))
 (cond (Nat.beq pc 113) (some (.iload 3, 1)) (none)))
 (cond (Nat.blt pc 117)
 (cond (Nat.beq pc 114) (some (.invokevirtual 60, 3)) (none))
 (cond (Nat.blt pc 120)
 (cond (Nat.beq pc 117) (some (.ifCond .eq 122, 3)) (none))
 (cond (Nat.beq pc 120) (some (.iconst 1, 1)) (none))))))
 (cond (Nat.blt pc 130)
 (cond (Nat.blt pc 123)
 (cond (Nat.blt pc 122)
 (cond (Nat.beq pc 121) (some (.freturn, 1)) (none))
 (cond (Nat.beq pc 122) (some (.aload 0, 1)) (none)))
 (cond (Nat.blt pc 126)
 (cond (Nat.beq pc 123) (some (.getfield 505, 3)) (none))
 (cond (Nat.blt pc 128)
 (cond (Nat.beq pc 126) (some (.iload 4, 2)) (none))
 (cond (Nat.beq pc 128) (some (.iload 6, 2)) (none)))))
 (cond (Nat.blt pc 134)
 (cond (Nat.blt pc 131)
 (cond (Nat.beq pc 130) (some (.iastore, 1)) (none))
 (cond (Nat.beq pc 131) (some (.iinc 4 1, 3)) (none)))
 (cond (Nat.blt pc 137)
 (cond (Nat.beq pc 134) (some (.goto 13, 3)) (none))
 (cond (Nat.blt pc 138)
 (cond (Nat.beq pc 137) (some (.iconst 0, 1)) (none))
 (cond (Nat.beq pc 138) (some (.freturn, 1)) (none))))))))
-- AlwaysThere$Run.figures()I
noncomputable def qc_61 (pc : Nat) : Option (Instr × Nat) := cond (Nat.blt pc 16)
 (cond (Nat.blt pc 5)
 (cond (Nat.blt pc 2)
 (cond (Nat.blt pc 1)
 (cond (Nat.beq pc 0) (some (.iconst 0, 1)) (none))
 (cond (Nat.beq pc 1) (some (.istore 1, 1)) (none)))
 (cond (Nat.blt pc 3)
 (cond (Nat.beq pc 2) (some (.iconst 0, 1)) (none))
 (cond (Nat.blt pc 4)
 (cond (Nat.beq pc 3) (some (.istore 2, 1)) (none))
 (cond (Nat.beq pc 4) (some (.iload 2, 1)) (none)))))
 (cond (Nat.blt pc 12)
 (cond (Nat.blt pc 6)
 (cond (Nat.beq pc 5) (some (.aload 0, 1)) (none))
 (cond (Nat.blt pc 9)
 (cond (Nat.beq pc 6) (some (.getfield 500, 3)) (none))
 (cond (Nat.beq pc 9) (some (.if_icmp .ge 32, 3)) (none))))
 (cond (Nat.blt pc 13)
 (cond (Nat.beq pc 12) (some (.iload 1, 1)) (none))
 (cond (Nat.blt pc 15)
 (cond (Nat.beq pc 13) (some (.iconst 10, 2)) (none))
 (cond (Nat.beq pc 15) (some (.imul, 1)) (none))))))
 (cond (Nat.blt pc 24)
 (cond (Nat.blt pc 21)
 (cond (Nat.blt pc 17)
 (cond (Nat.beq pc 16) (some (.aload 0, 1)) (none))
 (cond (Nat.blt pc 20)
 (cond (Nat.beq pc 17) (some (.getfield 501, 3)) (none))
 (cond (Nat.beq pc 20) (some (.iload 2, 1)) (none))))
 (cond (Nat.blt pc 22)
 (cond (Nat.beq pc 21) (some (.iaload, 1)) (none))
 (cond (Nat.blt pc 23)
 (cond (Nat.beq pc 22) (some (.iadd, 1)) (none))
 (cond (Nat.beq pc 23) (some (.iconst 1, 1)) (none)))))
 (cond (Nat.blt pc 29)
 (cond (Nat.blt pc 25)
 (cond (Nat.beq pc 24) (some (.iadd, 1)) (none))
 (cond (Nat.blt pc 26)
 (cond (Nat.beq pc 25) (some (.istore 1, 1)) (none))
 (cond (Nat.beq pc 26) (some (.iinc 2 1, 3)) (none))))
 (cond (Nat.blt pc 32)
 (cond (Nat.beq pc 29) (some (.goto 4, 3)) (none))
 (cond (Nat.blt pc 33)
 (cond (Nat.beq pc 32) (some (.iload 1, 1)) (none))
 (cond (Nat.beq pc 33) (some (.ireturn, 1)) (none))))))
-- AlwaysThere$Worst.<init>()V
noncomputable def qc_62 (pc : Nat) : Option (Instr × Nat) := cond (Nat.blt pc 8)
 (cond (Nat.blt pc 4)
 (cond (Nat.blt pc 1)
 (cond (Nat.beq pc 0) (some (.aload 0, 1)) (none))
 (cond (Nat.beq pc 1) (some (.invokespecial 901, 3)) (none)))
 (cond (Nat.blt pc 5)
 (cond (Nat.beq pc 4) (some (.aload 0, 1)) (none))
 (cond (Nat.beq pc 5) (some (.new 5, 3)) (none))))
 (cond (Nat.blt pc 12)
 (cond (Nat.blt pc 9)
 (cond (Nat.beq pc 8) (some (.dup, 1)) (none))
 (cond (Nat.beq pc 9) (some (.invokespecial 52, 3)) (none)))
 (cond (Nat.blt pc 15)
 (cond (Nat.beq pc 12) (some (.putfield 602, 3)) (none))
 (cond (Nat.beq pc 15) (some (.return_, 1)) (none))))
-- AlwaysThere$Worst.lookFrom(LAlwaysThere$Land;II)V
noncomputable def qc_63 (pc : Nat) : Option (Instr × Nat) := cond (Nat.blt pc 20)
 (cond (Nat.blt pc 9)
 (cond (Nat.blt pc 3)
 (cond (Nat.blt pc 1)
 (cond (Nat.beq pc 0) (some (.aload 0, 1)) (none))
 (cond (Nat.beq pc 1) (some (.iconst (-9), 2)) (none)))
 (cond (Nat.blt pc 6)
 (cond (Nat.beq pc 3) (some (.putfield 600, 3)) (none))
 (cond (Nat.blt pc 7)
 (cond (Nat.beq pc 6) (some (.aload 0, 1)) (none))
 (cond (Nat.beq pc 7) (some (.iconst (-9), 2)) (none)))))
 (cond (Nat.blt pc 13)
 (cond (Nat.blt pc 12)
 (cond (Nat.beq pc 9) (some (.putfield 601, 3)) (none))
 (cond (Nat.beq pc 12) (some (.aload 0, 1)) (none)))
 (cond (Nat.blt pc 16)
 (cond (Nat.beq pc 13) (some (.getfield 602, 3)) (none))
 (cond (Nat.blt pc 17)
 (cond (Nat.beq pc 16) (some (.iconst 0, 1)) (none))
 (cond (Nat.beq pc 17) (some (.putfield 500, 3)) (none))))))
 (cond (Nat.blt pc 27)
 (cond (Nat.blt pc 24)
 (cond (Nat.blt pc 21)
 (cond (Nat.beq pc 20) (some (.aload 0, 1)) (none))
 (cond (Nat.beq pc 21) (some (.getfield 602, 3)) (none)))
 (cond (Nat.blt pc 25)
 (cond (Nat.beq pc 24) (some (.aload 1, 1)) (none))
 (cond (Nat.blt pc 26)
 (cond (Nat.beq pc 25) (some (.iload 2, 1)) (none))
 (cond (Nat.beq pc 26) (some (.iconst 0, 1)) (none)))))
 (cond (Nat.blt pc 32)
 (cond (Nat.blt pc 30)
 (cond (Nat.beq pc 27) (some (.invokevirtual 56, 3)) (none))
 (cond (Nat.blt pc 31)
 (cond (Nat.beq pc 30) (some (.aload 0, 1)) (none))
 (cond (Nat.beq pc 31) (some (.aload 1, 1)) (none))))
 (cond (Nat.blt pc 33)
 (cond (Nat.beq pc 32) (some (.iload 3, 1)) (none))
 (cond (Nat.blt pc 36)
 (cond (Nat.beq pc 33) (some (.invokevirtual 64, 3)) (none))
 (cond (Nat.beq pc 36) (some (.return_, 1)) (none))))))
-- AlwaysThere$Worst.tryAll(LAlwaysThere$Land;I)V
noncomputable def qc_64 (pc : Nat) : Option (Instr × Nat) := cond (Nat.blt pc 44)
 (cond (Nat.blt pc 24)
 (cond (Nat.blt pc 10)
 (cond (Nat.blt pc 5)
 (cond (Nat.blt pc 1)
 (cond (Nat.beq pc 0) (some (.iload 2, 1)) (none))
 (cond (Nat.blt pc 4)
 (cond (Nat.beq pc 1) (some (.ifCond .gt 9, 3)) (none))
 (cond (Nat.beq pc 4) (some (.aload 0, 1)) (none))))
 (cond (Nat.blt pc 8)
 (cond (Nat.beq pc 5) (some (.invokevirtual 65, 3)) (none))
 (cond (Nat.blt pc 9)
 (cond (Nat.beq pc 8) (some (.return_, 1)) (none))
 (cond (Nat.beq pc 9) (some (.aload 0, 1)) (none)))))
 (cond (Nat.blt pc 19)
 (cond (Nat.blt pc 13)
 (cond (Nat.beq pc 10) (some (.getfield 602, 3)) (none))
 (cond (Nat.blt pc 16)
 (cond (Nat.beq pc 13) (some (.getfield 500, 3)) (none))
 (cond (Nat.beq pc 16) (some (.ifCond .gt 20, 3)) (none))))
 (cond (Nat.blt pc 20)
 (cond (Nat.beq pc 19) (some (.return_, 1)) (none))
 (cond (Nat.blt pc 21)
 (cond (Nat.beq pc 20) (some (.aload 0, 1)) (none))
 (cond (Nat.beq pc 21) (some (.getfield 602, 3)) (none))))))
 (cond (Nat.blt pc 36)
 (cond (Nat.blt pc 31)
 (cond (Nat.blt pc 27)
 (cond (Nat.beq pc 24) (some (.getfield 501, 3)) (none))
 (cond (Nat.blt pc 28)
 (cond (Nat.beq pc 27) (some (.aload 0, 1)) (none))
 (cond (Nat.beq pc 28) (some (.getfield 602, 3)) (none))))
 (cond (Nat.blt pc 34)
 (cond (Nat.beq pc 31) (some (.getfield 500, 3)) (none))
 (cond (Nat.blt pc 35)
 (cond (Nat.beq pc 34) (some (.iconst 1, 1)) (none))
 (cond (Nat.beq pc 35) (some (.isub, 1)) (none)))))
 (cond (Nat.blt pc 39)
 (cond (Nat.blt pc 37)
 (cond (Nat.beq pc 36) (some (.iaload, 1)) (none))
 (cond (Nat.blt pc 38)
 (cond (Nat.beq pc 37) (some (.istore 3, 1)) (none))
 (cond (Nat.beq pc 38) (some (.iconst 0, 1)) (none))))
 (cond (Nat.blt pc 41)
 (cond (Nat.beq pc 39) (some (.istore 4, 2)) (none))
 (cond (Nat.blt pc 43)
 (cond (Nat.beq pc 41) (some (.iload 4, 2)) (none))
 (cond (Nat.beq pc 43) (some (.aload 1, 1)) (none)))))))
 (cond (Nat.blt pc 68)
 (cond (Nat.blt pc 57)
 (cond (Nat.blt pc 51)
 (cond (Nat.blt pc 47)
 (cond (Nat.beq pc 44) (some (.getfield 200, 3)) (none))
 (cond (Nat.blt pc 50)
 (cond (Nat.beq pc 47) (some (.if_icmp .ge 92, 3)) (none))
 (cond (Nat.beq pc 50) (some (.aload 1, 1)) (none))))
 (cond (Nat.blt pc 52)
 (cond (Nat.beq pc 51) (some (.iload 3, 1)) (none))
 (cond (Nat.blt pc 54)
 (cond (Nat.beq pc 52) (some (.iload 4, 2)) (none))
 (cond (Nat.beq pc 54) (some (.invokevirtual 18, 3)) (none)))))
 (cond (Nat.blt pc 64)
 (cond (Nat.blt pc 60)
 (cond (Nat.beq pc 57) (some (.ifCond .le 86, 3)) (none))
 (cond (Nat.blt pc 61)
 (cond (Nat.beq pc 60) (some (.aload 0, 1)) (none))
 (cond (Nat.beq pc 61) (some (.getfield 602, 3)) (none))))
 (cond (Nat.blt pc 65)
 (cond (Nat.beq pc 64) (some (.aload 1, 1)) (none))
 (cond (Nat.blt pc 67)
 (cond (Nat.beq pc 65) (some (.iload 4, 2)) (none))
 (cond (Nat.beq pc 67) (some (.iconst 0, 1)) (none))))))
 (cond (Nat.blt pc 76)
 (cond (Nat.blt pc 73)
 (cond (Nat.blt pc 71)
 (cond (Nat.beq pc 68) (some (.invokevirtual 56, 3)) (none))
 (cond (Nat.blt pc 72)
 (cond (Nat.beq pc 71) (some (.aload 0, 1)) (none))
 (cond (Nat.beq pc 72) (some (.aload 1, 1)) (none))))
 (cond (Nat.blt pc 74)
 (cond (Nat.beq pc 73) (some (.iload 2, 1)) (none))
 (cond (Nat.blt pc 75)
 (cond (Nat.beq pc 74) (some (.iconst 1, 1)) (none))
 (cond (Nat.beq pc 75) (some (.isub, 1)) (none)))))
 (cond (Nat.blt pc 83)
 (cond (Nat.blt pc 79)
 (cond (Nat.beq pc 76) (some (.invokevirtual 64, 3)) (none))
 (cond (Nat.blt pc 80)
 (cond (Nat.beq pc 79) (some (.aload 0, 1)) (none))
 (cond (Nat.beq pc 80) (some (.getfield 602, 3)) (none))))
 (cond (Nat.blt pc 89)
 (cond (Nat.blt pc 86)
 (cond (Nat.beq pc 83) (some (.invokevirtual 57, 3)) (none))
 (cond (Nat.beq pc 86) (some (.iinc 4 1, 3)) (none)))
 (cond (Nat.blt pc 92)
 (cond (Nat.beq pc 89) (some (.goto 41, 3)) (none))
 (cond (Nat.beq pc 92) (some (.return_, 1)) (none)))))))
-- AlwaysThere$Worst.weigh()V
noncomputable def qc_65 (pc : Nat) : Option (Instr × Nat) := cond (Nat.blt pc 23)
 (cond (Nat.blt pc 10)
 (cond (Nat.blt pc 4)
 (cond (Nat.blt pc 1)
 (cond (Nat.beq pc 0) (some (.aload 0, 1)) (none))
 (cond (Nat.beq pc 1) (some (.getfield 600, 3)) (none)))
 (cond (Nat.blt pc 6)
 (cond (Nat.beq pc 4) (some (.iconst (-9), 2)) (none))
 (cond (Nat.blt pc 9)
 (cond (Nat.beq pc 6) (some (.if_icmp .eq 23, 3)) (none))
 (cond (Nat.beq pc 9) (some (.aload 0, 1)) (none)))))
 (cond (Nat.blt pc 14)
 (cond (Nat.blt pc 13)
 (cond (Nat.beq pc 10) (some (.getfield 602, 3)) (none))
 (cond (Nat.beq pc 13) (some (.aload 0, 1)) (none)))
 (cond (Nat.blt pc 17)
 (cond (Nat.beq pc 14) (some (.getfield 600, 3)) (none))
 (cond (Nat.blt pc 20)
 (cond (Nat.beq pc 17) (some (.invokevirtual 59, 3)) (none))
 (cond (Nat.beq pc 20) (some (.ifCond .ne 45, 3)) (none))))))
 (cond (Nat.blt pc 34)
 (cond (Nat.blt pc 25)
 (cond (Nat.blt pc 24)
 (cond (Nat.beq pc 23) (some (.aload 0, 1)) (none))
 (cond (Nat.beq pc 24) (some (.aload 0, 1)) (none)))
 (cond (Nat.blt pc 28)
 (cond (Nat.beq pc 25) (some (.getfield 602, 3)) (none))
 (cond (Nat.blt pc 31)
 (cond (Nat.beq pc 28) (some (.invokevirtual 58, 3)) (none))
 (cond (Nat.beq pc 31) (some (.putfield 600, 3)) (none)))))
 (cond (Nat.blt pc 39)
 (cond (Nat.blt pc 35)
 (cond (Nat.beq pc 34) (some (.aload 0, 1)) (none))
 (cond (Nat.blt pc 36)
 (cond (Nat.beq pc 35) (some (.aload 0, 1)) (none))
 (cond (Nat.beq pc 36) (some (.getfield 602, 3)) (none))))
 (cond (Nat.blt pc 42)
 (cond (Nat.beq pc 39) (some (.invokevirtual 61, 3)) (none))
 (cond (Nat.blt pc 45)
 (cond (Nat.beq pc 42) (some (.putfield 601, 3)) (none))
 (cond (Nat.beq pc 45) (some (.return_, 1)) (none))))))
-- AlwaysThere.<init>()V
noncomputable def qc_66 (pc : Nat) : Option (Instr × Nat) := cond (Nat.blt pc 53)
 (cond (Nat.blt pc 26)
 (cond (Nat.blt pc 12)
 (cond (Nat.blt pc 5)
 (cond (Nat.blt pc 1)
 (cond (Nat.beq pc 0) (some (.aload 0, 1)) (none))
 (cond (Nat.blt pc 4)
 (cond (Nat.beq pc 1) (some (.invokespecial 901, 3)) (none))
 (cond (Nat.beq pc 4) (some (.aload 0, 1)) (none))))
 (cond (Nat.blt pc 8)
 (cond (Nat.beq pc 5) (some (.new 4, 3)) (none))
 (cond (Nat.blt pc 9)
 (cond (Nat.beq pc 8) (some (.dup, 1)) (none))
 (cond (Nat.beq pc 9) (some (.invokespecial 35, 3)) (none)))))
 (cond (Nat.blt pc 19)
 (cond (Nat.blt pc 15)
 (cond (Nat.beq pc 12) (some (.putfield 700, 3)) (none))
 (cond (Nat.blt pc 16)
 (cond (Nat.beq pc 15) (some (.aload 0, 1)) (none))
 (cond (Nat.beq pc 16) (some (.new 2, 3)) (none))))
 (cond (Nat.blt pc 20)
 (cond (Nat.beq pc 19) (some (.dup, 1)) (none))
 (cond (Nat.blt pc 23)
 (cond (Nat.beq pc 20) (some (.invokespecial 12, 3)) (none))
 (cond (Nat.beq pc 23) (some (.putfield 701, 3)) (none))))))
 (cond (Nat.blt pc 38)
 (cond (Nat.blt pc 31)
 (cond (Nat.blt pc 27)
 (cond (Nat.beq pc 26) (some (.aload 0, 1)) (none))
 (cond (Nat.blt pc 30)
 (cond (Nat.beq pc 27) (some (.new 3, 3)) (none))
 (cond (Nat.beq pc 30) (some (.dup, 1)) (none))))
 (cond (Nat.blt pc 34)
 (cond (Nat.beq pc 31) (some (.invokespecial 26, 3)) (none))
 (cond (Nat.blt pc 37)
 (cond (Nat.beq pc 34) (some (.putfield 702, 3)) (none))
 (cond (Nat.beq pc 37) (some (.aload 0, 1)) (none)))))
 (cond (Nat.blt pc 45)
 (cond (Nat.blt pc 41)
 (cond (Nat.beq pc 38) (some (.new 3, 3)) (none))
 (cond (Nat.blt pc 42)
 (cond (Nat.beq pc 41) (some (.dup, 1)) (none))
 (cond (Nat.beq pc 42) (some (.invokespecial 26, 3)) (none))))
 (cond (Nat.blt pc 49)
 (cond (Nat.blt pc 48)
 (cond (Nat.beq pc 45) (some (.putfield 703, 3)) (none))
 (cond (Nat.beq pc 48) (some (.aload 0, 1)) (none)))
 (cond (Nat.blt pc 52)
 (cond (Nat.beq pc 49) (some (.new 3, 3)) (none))
 (cond (Nat.beq pc 52) (some (.dup, 1)) (none)))))))
 (cond (Nat.blt pc 82)
 (cond (Nat.blt pc 67)
 (cond (Nat.blt pc 60)
 (cond (Nat.blt pc 56)
 (cond (Nat.beq pc 53) (some (.invokespecial 26, 3)) (none))
 (cond (Nat.blt pc 59)
 (cond (Nat.beq pc 56) (some (.putfield 704, 3)) (none))
 (cond (Nat.beq pc 59) (some (.aload 0, 1)) (none))))
 (cond (Nat.blt pc 63)
 (cond (Nat.beq pc 60) (some (.new 1, 3)) (none))
 (cond (Nat.blt pc 64)
 (cond (Nat.beq pc 63) (some (.dup, 1)) (none))
 (cond (Nat.beq pc 64) (some (.invokespecial 7, 3)) (none)))))
 (cond (Nat.blt pc 74)
 (cond (Nat.blt pc 70)
 (cond (Nat.beq pc 67) (some (.putfield 705, 3)) (none))
 (cond (Nat.blt pc 71)
 (cond (Nat.beq pc 70) (some (.aload 0, 1)) (none))
 (cond (Nat.beq pc 71) (some (.new 5, 3)) (none))))
 (cond (Nat.blt pc 78)
 (cond (Nat.blt pc 75)
 (cond (Nat.beq pc 74) (some (.dup, 1)) (none))
 (cond (Nat.beq pc 75) (some (.invokespecial 52, 3)) (none)))
 (cond (Nat.blt pc 81)
 (cond (Nat.beq pc 78) (some (.putfield 706, 3)) (none))
 (cond (Nat.beq pc 81) (some (.aload 0, 1)) (none))))))
 (cond (Nat.blt pc 96)
 (cond (Nat.blt pc 89)
 (cond (Nat.blt pc 85)
 (cond (Nat.beq pc 82) (some (.new 6, 3)) (none))
 (cond (Nat.blt pc 86)
 (cond (Nat.beq pc 85) (some (.dup, 1)) (none))
 (cond (Nat.beq pc 86) (some (.invokespecial 62, 3)) (none))))
 (cond (Nat.blt pc 92)
 (cond (Nat.beq pc 89) (some (.putfield 707, 3)) (none))
 (cond (Nat.blt pc 93)
 (cond (Nat.beq pc 92) (some (.aload 0, 1)) (none))
 (cond (Nat.beq pc 93) (some (.new 0, 3)) (none)))))
 (cond (Nat.blt pc 103)
 (cond (Nat.blt pc 97)
 (cond (Nat.beq pc 96) (some (.dup, 1)) (none))
 (cond (Nat.blt pc 100)
 (cond (Nat.beq pc 97) (some (.invokespecial 0, 3)) (none))
 (cond (Nat.beq pc 100) (some (.putfield 708, 3)) (none))))
 (cond (Nat.blt pc 105)
 (cond (Nat.blt pc 104)
 (cond (Nat.beq pc 103) (some (.aload 0, 1)) (none))
 (cond (Nat.beq pc 104) (some (.bipush 0, 1)) (none)))
 (cond (Nat.blt pc 108)
 (cond (Nat.beq pc 105) (some (.putfield 709, 3)) (none))
 (cond (Nat.beq pc 108) (some (.return_, 1)) (none)))))))
-- AlwaysThere.type(I)I
noncomputable def qc_67 (pc : Nat) : Option (Instr × Nat) := cond (Nat.blt pc 36)
 (cond (Nat.blt pc 14)
 (cond (Nat.blt pc 8)
 (cond (Nat.blt pc 4)
 (cond (Nat.blt pc 1)
 (cond (Nat.beq pc 0) (some (.iload 1, 1)) (none))
 (cond (Nat.beq pc 1) (some (.ifCond .lt 11, 3)) (none)))
 (cond (Nat.blt pc 5)
 (cond (Nat.beq pc 4) (some (.iload 1, 1)) (none))
 (cond (Nat.beq pc 5) (some (.iconst 255, 3)) (none))))
 (cond (Nat.blt pc 12)
 (cond (Nat.blt pc 11)
 (cond (Nat.beq pc 8) (some (.if_icmp .le 13, 3)) (none))
 (cond (Nat.beq pc 11) (some (.iconst (-1), 1)) (none)))
 (cond (Nat.blt pc 13)
 (cond (Nat.beq pc 12) (some (.ireturn, 1)) (none))
 (cond (Nat.beq pc 13) (some (.aload 0, 1)) (none)))))
 (cond (Nat.blt pc 26)
 (cond (Nat.blt pc 20)
 (cond (Nat.blt pc 17)
 (cond (Nat.beq pc 14) (some (.getfield 700, 3)) (none))
 (cond (Nat.beq pc 17) (some (.getfield 401, 3)) (none)))
 (cond (Nat.blt pc 23)
 (cond (Nat.beq pc 20) (some (.iconst 200, 3)) (none))
 (cond (Nat.beq pc 23) (some (.if_icmp .lt 29, 3)) (none))))
 (cond (Nat.blt pc 29)
 (cond (Nat.blt pc 28)
 (cond (Nat.beq pc 26) (some (.iconst (-3), 2)) (none))
 (cond (Nat.beq pc 28) (some (.ireturn, 1)) (none)))
 (cond (Nat.blt pc 30)
 (cond (Nat.beq pc 29) (some (.aload 0, 1)) (none))
 (cond (Nat.blt pc 33)
 (cond (Nat.beq pc 30) (some (.getfield 700, 3)) (none))
 (cond (Nat.beq pc 33) (some (.getfield 400, 3)) (none)))))))
 (cond (Nat.blt pc 50)
 (cond (Nat.blt pc 44)
 (cond (Nat.blt pc 40)
 (cond (Nat.blt pc 37)
 (cond (Nat.beq pc 36) (some (.aload 0, 1)) (none))
 (cond (Nat.beq pc 37) (some (.getfield 700, 3)) (none)))
 (cond (Nat.blt pc 43)
 (cond (Nat.beq pc 40) (some (.getfield 401, 3)) (none))
 (cond (Nat.beq pc 43) (some (.iload 1, 1)) (none))))
 (cond (Nat.blt pc 46)
 (cond (Nat.blt pc 45)
 (cond (Nat.beq pc 44) (some (.i2c, 1)) (none))
 (cond (Nat.beq pc 45) (some (.castore, 1)) (none)))
 (cond (Nat.blt pc 47)
 (cond (Nat.beq pc 46) (some (.aload 0, 1)) (none))
 (cond (Nat.beq pc 47) (some (.getfield 700, 3)) (none)))))
 (cond (Nat.blt pc 56)
 (cond (Nat.blt pc 54)
 (cond (Nat.blt pc 51)
 (cond (Nat.beq pc 50) (some (.dup, 1)) (none))
 (cond (Nat.beq pc 51) (some (.getfield 401, 3)) (none)))
 (cond (Nat.blt pc 55)
 (cond (Nat.beq pc 54) (some (.iconst 1, 1)) (none))
 (cond (Nat.beq pc 55) (some (.iadd, 1)) (none))))
 (cond (Nat.blt pc 60)
 (cond (Nat.blt pc 59)
 (cond (Nat.beq pc 56) (some (.putfield 401, 3)) (none))
 (cond (Nat.beq pc 59) (some (.aload 0, 1)) (none)))
 (cond (Nat.blt pc 63)
 (cond (Nat.beq pc 60) (some (.getfield 700, 3)) (none))
 (cond (Nat.blt pc 66)
 (cond (Nat.beq pc 63) (some (.getfield 401, 3)) (none))
 (cond (Nat.beq pc 66) (some (.ireturn, 1)) (none)))))))
-- AlwaysThere.clear()I
noncomputable def qc_68 (pc : Nat) : Option (Instr × Nat) := cond (Nat.blt pc 9)
 (cond (Nat.blt pc 4)
 (cond (Nat.blt pc 1)
 (cond (Nat.beq pc 0) (some (.aload 0, 1)) (none))
 (cond (Nat.beq pc 1) (some (.getfield 700, 3)) (none)))
 (cond (Nat.blt pc 7)
 (cond (Nat.beq pc 4) (some (.getfield 401, 3)) (none))
 (cond (Nat.blt pc 8)
 (cond (Nat.beq pc 7) (some (.istore 1, 1)) (none))
 (cond (Nat.beq pc 8) (some (.aload 0, 1)) (none)))))
 (cond (Nat.blt pc 13)
 (cond (Nat.blt pc 12)
 (cond (Nat.beq pc 9) (some (.getfield 700, 3)) (none))
 (cond (Nat.beq pc 12) (some (.iconst 0, 1)) (none)))
 (cond (Nat.blt pc 16)
 (cond (Nat.beq pc 13) (some (.putfield 401, 3)) (none))
 (cond (Nat.blt pc 17)
 (cond (Nat.beq pc 16) (some (.iload 1, 1)) (none))
 (cond (Nat.beq pc 17) (some (.ireturn, 1)) (none)))))
-- AlwaysThere.furrows()I
noncomputable def qc_69 (pc : Nat) : Option (Instr × Nat) := cond (Nat.blt pc 43)
 (cond (Nat.blt pc 18)
 (cond (Nat.blt pc 9)
 (cond (Nat.blt pc 4)
 (cond (Nat.blt pc 1)
 (cond (Nat.beq pc 0) (some (.aload 0, 1)) (none))
 (cond (Nat.beq pc 1) (some (.getfield 700, 3)) (none)))
 (cond (Nat.blt pc 7)
 (cond (Nat.beq pc 4) (some (.invokevirtual 36, 3)) (none))
 (cond (Nat.blt pc 8)
 (cond (Nat.beq pc 7) (some (.istore 1, 1)) (none))
 (cond (Nat.beq pc 8) (some (.iload 1, 1)) (none)))))
 (cond (Nat.blt pc 13)
 (cond (Nat.blt pc 12)
 (cond (Nat.beq pc 9) (some (.ifCond .ge 14, 3)) (none))
 (cond (Nat.beq pc 12) (some (.iload 1, 1)) (none)))
 (cond (Nat.blt pc 14)
 (cond (Nat.beq pc 13) (some (.ireturn, 1)) (none))
 (cond (Nat.blt pc 15)
 (cond (Nat.beq pc 14) (some (.aload 0, 1)) (none))
 (cond (Nat.beq pc 15) (some (.getfield 700, 3)) (none))))))
 (cond (Nat.blt pc 27)
 (cond (Nat.blt pc 22)
 (cond (Nat.blt pc 19)
 (cond (Nat.beq pc 18) (some (.iconst 0, 1)) (none))
 (cond (Nat.beq pc 19) (some (.putfield 401, 3)) (none)))
 (cond (Nat.blt pc 23)
 (cond (Nat.beq pc 22) (some (.aload 0, 1)) (none))
 (cond (Nat.blt pc 26)
 (cond (Nat.beq pc 23) (some (.getfield 701, 3)) (none))
 (cond (Nat.beq pc 26) (some (.aload 0, 1)) (none)))))
 (cond (Nat.blt pc 36)
 (cond (Nat.blt pc 30)
 (cond (Nat.beq pc 27) (some (.getfield 700, 3)) (none))
 (cond (Nat.blt pc 33)
 (cond (Nat.beq pc 30) (some (.getfield 402, 3)) (none))
 (cond (Nat.beq pc 33) (some (.invokevirtual 14, 3)) (none))))
 (cond (Nat.blt pc 37)
 (cond (Nat.beq pc 36) (some (.aload 0, 1)) (none))
 (cond (Nat.blt pc 40)
 (cond (Nat.beq pc 37) (some (.getfield 702, 3)) (none))
 (cond (Nat.beq pc 40) (some (.invokevirtual 27, 3)) (none)))))))
 (cond (Nat.blt pc 64)
 (cond (Nat.blt pc 52)
 (cond (Nat.blt pc 47)
 (cond (Nat.blt pc 44)
 (cond (Nat.beq pc 43) (some (.aload 0, 1)) (none))
 (cond (Nat.beq pc 44) (some (.getfield 703, 3)) (none)))
 (cond (Nat.blt pc 48)
 (cond (Nat.beq pc 47) (some (.iconst 0, 1)) (none))
 (cond (Nat.blt pc 51)
 (cond (Nat.beq pc 48) (some (.putfield 300, 3)) (none))
 (cond (Nat.beq pc 51) (some (.aload 0, 1)) (none)))))
 (cond (Nat.blt pc 59)
 (cond (Nat.blt pc 55)
 (cond (Nat.beq pc 52) (some (.getfield 704, 3)) (none))
 (cond (Nat.blt pc 56)
 (cond (Nat.beq pc 55) (some (.iconst 0, 1)) (none))
 (cond (Nat.beq pc 56) (some (.putfield 300, 3)) (none))))
 (cond (Nat.blt pc 60)
 (cond (Nat.beq pc 59) (some (.aload 0, 1)) (none))
 (cond (Nat.blt pc 63)
 (cond (Nat.beq pc 60) (some (.getfield 705, 3)) (none))
 (cond (Nat.beq pc 63) (some (.iconst 0, 1)) (none))))))
 (cond (Nat.blt pc 75)
 (cond (Nat.blt pc 68)
 (cond (Nat.blt pc 67)
 (cond (Nat.beq pc 64) (some (.putfield 100, 3)) (none))
 (cond (Nat.beq pc 67) (some (.aload 0, 1)) (none)))
 (cond (Nat.blt pc 71)
 (cond (Nat.beq pc 68) (some (.getfield 706, 3)) (none))
 (cond (Nat.blt pc 72)
 (cond (Nat.beq pc 71) (some (.aload 0, 1)) (none))
 (cond (Nat.beq pc 72) (some (.getfield 701, 3)) (none)))))
 (cond (Nat.blt pc 82)
 (cond (Nat.blt pc 76)
 (cond (Nat.beq pc 75) (some (.aload 0, 1)) (none))
 (cond (Nat.blt pc 79)
 (cond (Nat.beq pc 76) (some (.getfield 702, 3)) (none))
 (cond (Nat.beq pc 79) (some (.getfield 306, 3)) (none))))
 (cond (Nat.blt pc 85)
 (cond (Nat.beq pc 82) (some (.invokevirtual 55, 3)) (none))
 (cond (Nat.blt pc 86)
 (cond (Nat.beq pc 85) (some (.iload 1, 1)) (none))
 (cond (Nat.beq pc 86) (some (.ireturn, 1)) (none)))))))
-- AlwaysThere.furrow(II)I
noncomputable def qc_70 (pc : Nat) : Option (Instr × Nat) := cond (Nat.blt pc 19)
 (cond (Nat.blt pc 8)
 (cond (Nat.blt pc 4)
 (cond (Nat.blt pc 1)
 (cond (Nat.beq pc 0) (some (.aload 0, 1)) (none))
 (cond (Nat.beq pc 1) (some (.getfield 701, 3)) (none)))
 (cond (Nat.blt pc 5)
 (cond (Nat.beq pc 4) (some (.iload 1, 1)) (none))
 (cond (Nat.beq pc 5) (some (.invokevirtual 15, 3)) (none))))
 (cond (Nat.blt pc 12)
 (cond (Nat.blt pc 11)
 (cond (Nat.beq pc 8) (some (.ifCond .eq 22, 3)) (none))
 (cond (Nat.beq pc 11) (some (.aload 0, 1)) (none)))
 (cond (Nat.blt pc 15)
 (cond (Nat.beq pc 12) (some (.getfield 701, 3)) (none))
 (cond (Nat.blt pc 16)
 (cond (Nat.beq pc 15) (some (.iload 2, 1)) (none))
 (cond (Nat.beq pc 16) (some (.invokevirtual 15, 3)) (none))))))
 (cond (Nat.blt pc 25)
 (cond (Nat.blt pc 23)
 (cond (Nat.blt pc 22)
 (cond (Nat.beq pc 19) (some (.ifCond .ne 24, 3)) (none))
 (cond (Nat.beq pc 22) (some (.iconst (-1), 1)) (none)))
 (cond (Nat.blt pc 24)
 (cond (Nat.beq pc 23) (some (.ireturn, 1)) (none))
 (cond (Nat.beq pc 24) (some (.aload 0, 1)) (none))))
 (cond (Nat.blt pc 29)
 (cond (Nat.blt pc 28)
 (cond (Nat.beq pc 25) (some (.getfield 701, 3)) (none))
 (cond (Nat.beq pc 28) (some (.iload 1, 1)) (none)))
 (cond (Nat.blt pc 30)
 (cond (Nat.beq pc 29) (some (.iload 2, 1)) (none))
 (cond (Nat.blt pc 33)
 (cond (Nat.beq pc 30) (some (.invokevirtual 18, 3)) (none))
 (cond (Nat.beq pc 33) (some (.ireturn, 1)) (none))))))
-- AlwaysThere.way(II)I
noncomputable def qc_71 (pc : Nat) : Option (Instr × Nat) := cond (Nat.blt pc 19)
 (cond (Nat.blt pc 8)
 (cond (Nat.blt pc 4)
 (cond (Nat.blt pc 1)
 (cond (Nat.beq pc 0) (some (.aload 0, 1)) (none))
 (cond (Nat.beq pc 1) (some (.getfield 701, 3)) (none)))
 (cond (Nat.blt pc 5)
 (cond (Nat.beq pc 4) (some (.iload 1, 1)) (none))
 (cond (Nat.beq pc 5) (some (.invokevirtual 15, 3)) (none))))
 (cond (Nat.blt pc 12)
 (cond (Nat.blt pc 11)
 (cond (Nat.beq pc 8) (some (.ifCond .eq 22, 3)) (none))
 (cond (Nat.beq pc 11) (some (.aload 0, 1)) (none)))
 (cond (Nat.blt pc 15)
 (cond (Nat.beq pc 12) (some (.getfield 701, 3)) (none))
 (cond (Nat.blt pc 16)
 (cond (Nat.beq pc 15) (some (.iload 2, 1)) (none))
 (cond (Nat.beq pc 16) (some (.invokevirtual 15, 3)) (none))))))
 (cond (Nat.blt pc 25)
 (cond (Nat.blt pc 23)
 (cond (Nat.blt pc 22)
 (cond (Nat.beq pc 19) (some (.ifCond .ne 24, 3)) (none))
 (cond (Nat.beq pc 22) (some (.iconst (-1), 1)) (none)))
 (cond (Nat.blt pc 24)
 (cond (Nat.beq pc 23) (some (.ireturn, 1)) (none))
 (cond (Nat.beq pc 24) (some (.aload 0, 1)) (none))))
 (cond (Nat.blt pc 29)
 (cond (Nat.blt pc 28)
 (cond (Nat.beq pc 25) (some (.getfield 701, 3)) (none))
 (cond (Nat.beq pc 28) (some (.iload 1, 1)) (none)))
 (cond (Nat.blt pc 30)
 (cond (Nat.beq pc 29) (some (.iload 2, 1)) (none))
 (cond (Nat.blt pc 33)
 (cond (Nat.beq pc 30) (some (.invokevirtual 21, 3)) (none))
 (cond (Nat.beq pc 33) (some (.ireturn, 1)) (none))))))
-- AlwaysThere.sights(I)I
noncomputable def qc_72 (pc : Nat) : Option (Instr × Nat) := cond (Nat.blt pc 12)
 (cond (Nat.blt pc 5)
 (cond (Nat.blt pc 1)
 (cond (Nat.beq pc 0) (some (.aload 0, 1)) (none))
 (cond (Nat.blt pc 4)
 (cond (Nat.beq pc 1) (some (.getfield 701, 3)) (none))
 (cond (Nat.beq pc 4) (some (.iload 1, 1)) (none))))
 (cond (Nat.blt pc 8)
 (cond (Nat.beq pc 5) (some (.invokevirtual 15, 3)) (none))
 (cond (Nat.blt pc 11)
 (cond (Nat.beq pc 8) (some (.ifCond .ne 13, 3)) (none))
 (cond (Nat.beq pc 11) (some (.iconst (-1), 1)) (none)))))
 (cond (Nat.blt pc 17)
 (cond (Nat.blt pc 13)
 (cond (Nat.beq pc 12) (some (.ireturn, 1)) (none))
 (cond (Nat.blt pc 14)
 (cond (Nat.beq pc 13) (some (.aload 0, 1)) (none))
 (cond (Nat.beq pc 14) (some (.getfield 701, 3)) (none))))
 (cond (Nat.blt pc 21)
 (cond (Nat.blt pc 20)
 (cond (Nat.beq pc 17) (some (.getfield 208, 3)) (none))
 (cond (Nat.beq pc 20) (some (.iload 1, 1)) (none)))
 (cond (Nat.blt pc 22)
 (cond (Nat.beq pc 21) (some (.iaload, 1)) (none))
 (cond (Nat.beq pc 22) (some (.ireturn, 1)) (none)))))
-- AlwaysThere.hedgehog(I)I
noncomputable def qc_73 (pc : Nat) : Option (Instr × Nat) := cond (Nat.blt pc 12)
 (cond (Nat.blt pc 5)
 (cond (Nat.blt pc 1)
 (cond (Nat.beq pc 0) (some (.aload 0, 1)) (none))
 (cond (Nat.blt pc 4)
 (cond (Nat.beq pc 1) (some (.getfield 701, 3)) (none))
 (cond (Nat.beq pc 4) (some (.iload 1, 1)) (none))))
 (cond (Nat.blt pc 8)
 (cond (Nat.beq pc 5) (some (.invokevirtual 16, 3)) (none))
 (cond (Nat.blt pc 11)
 (cond (Nat.beq pc 8) (some (.ifCond .ne 13, 3)) (none))
 (cond (Nat.beq pc 11) (some (.iconst (-1), 1)) (none)))))
 (cond (Nat.blt pc 17)
 (cond (Nat.blt pc 13)
 (cond (Nat.beq pc 12) (some (.ireturn, 1)) (none))
 (cond (Nat.blt pc 14)
 (cond (Nat.beq pc 13) (some (.aload 0, 1)) (none))
 (cond (Nat.beq pc 14) (some (.getfield 701, 3)) (none))))
 (cond (Nat.blt pc 21)
 (cond (Nat.blt pc 20)
 (cond (Nat.beq pc 17) (some (.getfield 209, 3)) (none))
 (cond (Nat.beq pc 20) (some (.iload 1, 1)) (none)))
 (cond (Nat.blt pc 22)
 (cond (Nat.beq pc 21) (some (.iaload, 1)) (none))
 (cond (Nat.beq pc 22) (some (.ireturn, 1)) (none)))))
-- AlwaysThere.point(II)I
noncomputable def qc_74 (pc : Nat) : Option (Instr × Nat) := cond (Nat.blt pc 72)
 (cond (Nat.blt pc 53)
 (cond (Nat.blt pc 11)
 (cond (Nat.blt pc 4)
 (cond (Nat.blt pc 1)
 (cond (Nat.beq pc 0) (some (.aload 0, 1)) (none))
 (cond (Nat.beq pc 1) (some (.getfield 706, 3)) (none)))
 (cond (Nat.blt pc 5)
 (cond (Nat.beq pc 4) (some (.iload 1, 1)) (none))
 (cond (Nat.blt pc 8)
 (cond (Nat.beq pc 5) (some (.invokevirtual 53, 3)) (none))
 (cond (Nat.beq pc 8) (some (.ifCond .ne 13, 3)) (none)))))
 (cond (Nat.blt pc 13)
 (cond (Nat.blt pc 12)
 (cond (Nat.beq pc 11) (some (.iconst (-1), 1)) (none))
 (cond (Nat.beq pc 12) (some (.ireturn, 1)) (none)))
 (cond (Nat.blt pc 14)
 (cond (Nat.beq pc 13) (some (.iload 2, 1)) (none))
 (cond (Nat.blt pc 52)
 (cond (Nat.beq pc 14) (some (.tableswitch 104 0 5 #[52, 62, 72, 82, 88, 94], 38)) (none))
 (cond (Nat.beq pc 52) (some (.aload 0, 1)) (none))))))
 (cond (Nat.blt pc 62)
 (cond (Nat.blt pc 59)
 (cond (Nat.blt pc 56)
 (cond (Nat.beq pc 53) (some (.getfield 706, 3)) (none))
 (cond (Nat.beq pc 56) (some (.getfield 501, 3)) (none)))
 (cond (Nat.blt pc 60)
 (cond (Nat.beq pc 59) (some (.iload 1, 1)) (none))
 (cond (Nat.blt pc 61)
 (cond (Nat.beq pc 60) (some (.iaload, 1)) (none))
 (cond (Nat.beq pc 61) (some (.ireturn, 1)) (none)))))
 (cond (Nat.blt pc 69)
 (cond (Nat.blt pc 63)
 (cond (Nat.beq pc 62) (some (.aload 0, 1)) (none))
 (cond (Nat.blt pc 66)
 (cond (Nat.beq pc 63) (some (.getfield 706, 3)) (none))
 (cond (Nat.beq pc 66) (some (.getfield 502, 3)) (none))))
 (cond (Nat.blt pc 70)
 (cond (Nat.beq pc 69) (some (.iload 1, 1)) (none))
 (cond (Nat.blt pc 71)
 (cond (Nat.beq pc 70) (some (.iaload, 1)) (none))
 (cond (Nat.beq pc 71) (some (.ireturn, 1)) (none)))))))
 (cond (Nat.blt pc 89)
 (cond (Nat.blt pc 81)
 (cond (Nat.blt pc 76)
 (cond (Nat.blt pc 73)
 (cond (Nat.beq pc 72) (some (.aload 0, 1)) (none))
 (cond (Nat.beq pc 73) (some (.getfield 702, 3)) (none)))
 (cond (Nat.blt pc 79)
 (cond (Nat.beq pc 76) (some (.getfield 306, 3)) (none))
 (cond (Nat.blt pc 80)
 (cond (Nat.beq pc 79) (some (.iload 1, 1)) (none))
 (cond (Nat.beq pc 80) (some (.iaload, 1)) (none)))))
 (cond (Nat.blt pc 84)
 (cond (Nat.blt pc 82)
 (cond (Nat.beq pc 81) (some (.ireturn, 1)) (none))
 (cond (Nat.blt pc 83)
 (cond (Nat.beq pc 82) (some (.aload 0, 1)) (none))
 (cond (Nat.beq pc 83) (some (.iload 1, 1)) (none))))
 (cond (Nat.blt pc 87)
 (cond (Nat.beq pc 84) (some (.invokevirtual 95, 3)) (none))
 (cond (Nat.blt pc 88)
 (cond (Nat.beq pc 87) (some (.ireturn, 1)) (none))
 (cond (Nat.beq pc 88) (some (.aload 0, 1)) (none))))))
 (cond (Nat.blt pc 98)
 (cond (Nat.blt pc 93)
 (cond (Nat.blt pc 90)
 (cond (Nat.beq pc 89) (some (.iload 1, 1)) (none))
 (cond (Nat.beq pc 90) (some (.invokevirtual 96, 3)) (none)))
 (cond (Nat.blt pc 94)
 (cond (Nat.beq pc 93) (some (.ireturn, 1)) (none))
 (cond (Nat.blt pc 95)
 (cond (Nat.beq pc 94) (some (.aload 0, 1)) (none))
 (cond (Nat.beq pc 95) (some (.getfield 702, 3)) (none)))))
 (cond (Nat.blt pc 103)
 (cond (Nat.blt pc 101)
 (cond (Nat.beq pc 98) (some (.getfield 307, 3)) (none))
 (cond (Nat.blt pc 102)
 (cond (Nat.beq pc 101) (some (.iload 1, 1)) (none))
 (cond (Nat.beq pc 102) (some (.iaload, 1)) (none))))
 (cond (Nat.blt pc 104)
 (cond (Nat.beq pc 103) (some (.ireturn, 1)) (none))
 (cond (Nat.blt pc 105)
 (cond (Nat.beq pc 104) (some (.iconst (-1), 1)) (none))
 (cond (Nat.beq pc 105) (some (.ireturn, 1)) (none)))))))
-- AlwaysThere.sits(IIII)I
noncomputable def qc_75 (pc : Nat) : Option (Instr × Nat) := cond (Nat.blt pc 48)
 (cond (Nat.blt pc 26)
 (cond (Nat.blt pc 12)
 (cond (Nat.blt pc 5)
 (cond (Nat.blt pc 1)
 (cond (Nat.beq pc 0) (some (.aload 0, 1)) (none))
 (cond (Nat.blt pc 4)
 (cond (Nat.beq pc 1) (some (.getfield 701, 3)) (none))
 (cond (Nat.beq pc 4) (some (.iload 1, 1)) (none))))
 (cond (Nat.blt pc 8)
 (cond (Nat.beq pc 5) (some (.invokevirtual 16, 3)) (none))
 (cond (Nat.blt pc 11)
 (cond (Nat.beq pc 8) (some (.ifCond .eq 40, 3)) (none))
 (cond (Nat.beq pc 11) (some (.aload 0, 1)) (none)))))
 (cond (Nat.blt pc 19)
 (cond (Nat.blt pc 15)
 (cond (Nat.beq pc 12) (some (.getfield 701, 3)) (none))
 (cond (Nat.blt pc 16)
 (cond (Nat.beq pc 15) (some (.iload 2, 1)) (none))
 (cond (Nat.beq pc 16) (some (.invokevirtual 15, 3)) (none))))
 (cond (Nat.blt pc 22)
 (cond (Nat.beq pc 19) (some (.ifCond .eq 40, 3)) (none))
 (cond (Nat.blt pc 23)
 (cond (Nat.beq pc 22) (some (.iload 3, 1)) (none))
 (cond (Nat.beq pc 23) (some (.ifCond .lt 40, 3)) (none))))))
 (cond (Nat.blt pc 40)
 (cond (Nat.blt pc 32)
 (cond (Nat.blt pc 28)
 (cond (Nat.beq pc 26) (some (.iload 4, 2)) (none))
 (cond (Nat.blt pc 29)
 (cond (Nat.beq pc 28) (some (.iload 3, 1)) (none))
 (cond (Nat.beq pc 29) (some (.if_icmp .lt 40, 3)) (none))))
 (cond (Nat.blt pc 34)
 (cond (Nat.beq pc 32) (some (.iload 4, 2)) (none))
 (cond (Nat.blt pc 37)
 (cond (Nat.beq pc 34) (some (.iconst 999, 3)) (none))
 (cond (Nat.beq pc 37) (some (.if_icmp .le 42, 3)) (none)))))
 (cond (Nat.blt pc 43)
 (cond (Nat.blt pc 41)
 (cond (Nat.beq pc 40) (some (.iconst (-1), 1)) (none))
 (cond (Nat.blt pc 42)
 (cond (Nat.beq pc 41) (some (.ireturn, 1)) (none))
 (cond (Nat.beq pc 42) (some (.aload 0, 1)) (none))))
 (cond (Nat.blt pc 45)
 (cond (Nat.blt pc 44)
 (cond (Nat.beq pc 43) (some (.iload 1, 1)) (none))
 (cond (Nat.beq pc 44) (some (.iload 2, 1)) (none)))
 (cond (Nat.blt pc 46)
 (cond (Nat.beq pc 45) (some (.iload 3, 1)) (none))
 (cond (Nat.beq pc 46) (some (.iload 4, 2)) (none)))))))
 (cond (Nat.blt pc 73)
 (cond (Nat.blt pc 61)
 (cond (Nat.blt pc 56)
 (cond (Nat.blt pc 51)
 (cond (Nat.beq pc 48) (some (.invokevirtual 100, 3)) (none))
 (cond (Nat.blt pc 54)
 (cond (Nat.beq pc 51) (some (.ifCond .ne 57, 3)) (none))
 (cond (Nat.beq pc 54) (some (.iconst (-2), 2)) (none))))
 (cond (Nat.blt pc 57)
 (cond (Nat.beq pc 56) (some (.ireturn, 1)) (none))
 (cond (Nat.blt pc 58)
 (cond (Nat.beq pc 57) (some (.aload 0, 1)) (none))
 (cond (Nat.beq pc 58) (some (.getfield 702, 3)) (none)))))
 (cond (Nat.blt pc 69)
 (cond (Nat.blt pc 64)
 (cond (Nat.beq pc 61) (some (.getfield 301, 3)) (none))
 (cond (Nat.blt pc 66)
 (cond (Nat.beq pc 64) (some (.iconst 12, 2)) (none))
 (cond (Nat.beq pc 66) (some (.if_icmp .lt 72, 3)) (none))))
 (cond (Nat.blt pc 71)
 (cond (Nat.beq pc 69) (some (.iconst (-3), 2)) (none))
 (cond (Nat.blt pc 72)
 (cond (Nat.beq pc 71) (some (.ireturn, 1)) (none))
 (cond (Nat.beq pc 72) (some (.aload 0, 1)) (none))))))
 (cond (Nat.blt pc 84)
 (cond (Nat.blt pc 78)
 (cond (Nat.blt pc 76)
 (cond (Nat.beq pc 73) (some (.getfield 702, 3)) (none))
 (cond (Nat.blt pc 77)
 (cond (Nat.beq pc 76) (some (.iload 1, 1)) (none))
 (cond (Nat.beq pc 77) (some (.iload 2, 1)) (none))))
 (cond (Nat.blt pc 79)
 (cond (Nat.beq pc 78) (some (.iload 3, 1)) (none))
 (cond (Nat.blt pc 81)
 (cond (Nat.beq pc 79) (some (.iload 4, 2)) (none))
 (cond (Nat.beq pc 81) (some (.invokevirtual 29, 3)) (none)))))
 (cond (Nat.blt pc 91)
 (cond (Nat.blt pc 85)
 (cond (Nat.beq pc 84) (some (.aload 0, 1)) (none))
 (cond (Nat.blt pc 88)
 (cond (Nat.beq pc 85) (some (.getfield 705, 3)) (none))
 (cond (Nat.beq pc 88) (some (.invokevirtual 8, 3)) (none))))
 (cond (Nat.blt pc 95)
 (cond (Nat.blt pc 92)
 (cond (Nat.beq pc 91) (some (.aload 0, 1)) (none))
 (cond (Nat.beq pc 92) (some (.getfield 702, 3)) (none)))
 (cond (Nat.blt pc 98)
 (cond (Nat.beq pc 95) (some (.getfield 301, 3)) (none))
 (cond (Nat.beq pc 98) (some (.ireturn, 1)) (none)))))))
-- AlwaysThere.waits(II)I
noncomputable def qc_76 (pc : Nat) : Option (Instr × Nat) := cond (Nat.blt pc 36)
 (cond (Nat.blt pc 18)
 (cond (Nat.blt pc 8)
 (cond (Nat.blt pc 4)
 (cond (Nat.blt pc 1)
 (cond (Nat.beq pc 0) (some (.aload 0, 1)) (none))
 (cond (Nat.beq pc 1) (some (.getfield 706, 3)) (none)))
 (cond (Nat.blt pc 5)
 (cond (Nat.beq pc 4) (some (.iload 1, 1)) (none))
 (cond (Nat.beq pc 5) (some (.invokevirtual 53, 3)) (none))))
 (cond (Nat.blt pc 12)
 (cond (Nat.blt pc 11)
 (cond (Nat.beq pc 8) (some (.ifCond .eq 21, 3)) (none))
 (cond (Nat.beq pc 11) (some (.iload 2, 1)) (none)))
 (cond (Nat.blt pc 15)
 (cond (Nat.beq pc 12) (some (.ifCond .lt 21, 3)) (none))
 (cond (Nat.blt pc 16)
 (cond (Nat.beq pc 15) (some (.iload 2, 1)) (none))
 (cond (Nat.beq pc 16) (some (.iconst 20, 2)) (none))))))
 (cond (Nat.blt pc 27)
 (cond (Nat.blt pc 22)
 (cond (Nat.blt pc 21)
 (cond (Nat.beq pc 18) (some (.if_icmp .le 23, 3)) (none))
 (cond (Nat.beq pc 21) (some (.iconst (-1), 1)) (none)))
 (cond (Nat.blt pc 23)
 (cond (Nat.beq pc 22) (some (.ireturn, 1)) (none))
 (cond (Nat.blt pc 24)
 (cond (Nat.beq pc 23) (some (.aload 0, 1)) (none))
 (cond (Nat.beq pc 24) (some (.getfield 705, 3)) (none)))))
 (cond (Nat.blt pc 29)
 (cond (Nat.blt pc 28)
 (cond (Nat.beq pc 27) (some (.iload 1, 1)) (none))
 (cond (Nat.beq pc 28) (some (.aload 0, 1)) (none)))
 (cond (Nat.blt pc 32)
 (cond (Nat.beq pc 29) (some (.getfield 702, 3)) (none))
 (cond (Nat.blt pc 35)
 (cond (Nat.beq pc 32) (some (.getfield 306, 3)) (none))
 (cond (Nat.beq pc 35) (some (.iload 1, 1)) (none)))))))
 (cond (Nat.blt pc 54)
 (cond (Nat.blt pc 47)
 (cond (Nat.blt pc 40)
 (cond (Nat.blt pc 37)
 (cond (Nat.beq pc 36) (some (.iaload, 1)) (none))
 (cond (Nat.beq pc 37) (some (.invokevirtual 9, 3)) (none)))
 (cond (Nat.blt pc 41)
 (cond (Nat.beq pc 40) (some (.aload 0, 1)) (none))
 (cond (Nat.blt pc 44)
 (cond (Nat.beq pc 41) (some (.getfield 702, 3)) (none))
 (cond (Nat.beq pc 44) (some (.getfield 306, 3)) (none)))))
 (cond (Nat.blt pc 49)
 (cond (Nat.blt pc 48)
 (cond (Nat.beq pc 47) (some (.iload 1, 1)) (none))
 (cond (Nat.beq pc 48) (some (.iload 2, 1)) (none)))
 (cond (Nat.blt pc 50)
 (cond (Nat.beq pc 49) (some (.iastore, 1)) (none))
 (cond (Nat.blt pc 51)
 (cond (Nat.beq pc 50) (some (.aload 0, 1)) (none))
 (cond (Nat.beq pc 51) (some (.getfield 706, 3)) (none))))))
 (cond (Nat.blt pc 65)
 (cond (Nat.blt pc 58)
 (cond (Nat.blt pc 55)
 (cond (Nat.beq pc 54) (some (.aload 0, 1)) (none))
 (cond (Nat.beq pc 55) (some (.getfield 701, 3)) (none)))
 (cond (Nat.blt pc 59)
 (cond (Nat.beq pc 58) (some (.aload 0, 1)) (none))
 (cond (Nat.blt pc 62)
 (cond (Nat.beq pc 59) (some (.getfield 702, 3)) (none))
 (cond (Nat.beq pc 62) (some (.getfield 306, 3)) (none)))))
 (cond (Nat.blt pc 69)
 (cond (Nat.blt pc 68)
 (cond (Nat.beq pc 65) (some (.invokevirtual 55, 3)) (none))
 (cond (Nat.beq pc 68) (some (.aload 0, 1)) (none)))
 (cond (Nat.blt pc 72)
 (cond (Nat.beq pc 69) (some (.getfield 706, 3)) (none))
 (cond (Nat.blt pc 75)
 (cond (Nat.beq pc 72) (some (.invokevirtual 54, 3)) (none))
 (cond (Nat.beq pc 75) (some (.ireturn, 1)) (none)))))))
-- AlwaysThere.undo()I
noncomputable def qc_77 (pc : Nat) : Option (Instr × Nat) := cond (Nat.blt pc 24)
 (cond (Nat.blt pc 12)
 (cond (Nat.blt pc 4)
 (cond (Nat.blt pc 1)
 (cond (Nat.beq pc 0) (some (.aload 0, 1)) (none))
 (cond (Nat.beq pc 1) (some (.getfield 705, 3)) (none)))
 (cond (Nat.blt pc 7)
 (cond (Nat.beq pc 4) (some (.getfield 100, 3)) (none))
 (cond (Nat.blt pc 10)
 (cond (Nat.beq pc 7) (some (.ifCond .gt 13, 3)) (none))
 (cond (Nat.beq pc 10) (some (.iconst (-2), 2)) (none)))))
 (cond (Nat.blt pc 17)
 (cond (Nat.blt pc 13)
 (cond (Nat.beq pc 12) (some (.ireturn, 1)) (none))
 (cond (Nat.blt pc 14)
 (cond (Nat.beq pc 13) (some (.aload 0, 1)) (none))
 (cond (Nat.beq pc 14) (some (.getfield 705, 3)) (none))))
 (cond (Nat.blt pc 18)
 (cond (Nat.beq pc 17) (some (.aload 0, 1)) (none))
 (cond (Nat.blt pc 21)
 (cond (Nat.beq pc 18) (some (.getfield 702, 3)) (none))
 (cond (Nat.beq pc 21) (some (.invokevirtual 11, 3)) (none))))))
 (cond (Nat.blt pc 36)
 (cond (Nat.blt pc 29)
 (cond (Nat.blt pc 25)
 (cond (Nat.beq pc 24) (some (.aload 0, 1)) (none))
 (cond (Nat.blt pc 28)
 (cond (Nat.beq pc 25) (some (.getfield 706, 3)) (none))
 (cond (Nat.beq pc 28) (some (.aload 0, 1)) (none))))
 (cond (Nat.blt pc 32)
 (cond (Nat.beq pc 29) (some (.getfield 701, 3)) (none))
 (cond (Nat.blt pc 33)
 (cond (Nat.beq pc 32) (some (.aload 0, 1)) (none))
 (cond (Nat.beq pc 33) (some (.getfield 702, 3)) (none)))))
 (cond (Nat.blt pc 43)
 (cond (Nat.blt pc 39)
 (cond (Nat.beq pc 36) (some (.getfield 306, 3)) (none))
 (cond (Nat.blt pc 42)
 (cond (Nat.beq pc 39) (some (.invokevirtual 55, 3)) (none))
 (cond (Nat.beq pc 42) (some (.aload 0, 1)) (none))))
 (cond (Nat.blt pc 46)
 (cond (Nat.beq pc 43) (some (.getfield 705, 3)) (none))
 (cond (Nat.blt pc 49)
 (cond (Nat.beq pc 46) (some (.getfield 100, 3)) (none))
 (cond (Nat.beq pc 49) (some (.ireturn, 1)) (none))))))
-- AlwaysThere.sat(II)I
noncomputable def qc_78 (pc : Nat) : Option (Instr × Nat) := cond (Nat.blt pc 59)
 (cond (Nat.blt pc 17)
 (cond (Nat.blt pc 6)
 (cond (Nat.blt pc 4)
 (cond (Nat.blt pc 1)
 (cond (Nat.beq pc 0) (some (.iload 1, 1)) (none))
 (cond (Nat.beq pc 1) (some (.ifCond .lt 15, 3)) (none)))
 (cond (Nat.blt pc 5)
 (cond (Nat.beq pc 4) (some (.iload 1, 1)) (none))
 (cond (Nat.beq pc 5) (some (.aload 0, 1)) (none))))
 (cond (Nat.blt pc 12)
 (cond (Nat.blt pc 9)
 (cond (Nat.beq pc 6) (some (.getfield 702, 3)) (none))
 (cond (Nat.beq pc 9) (some (.getfield 301, 3)) (none)))
 (cond (Nat.blt pc 15)
 (cond (Nat.beq pc 12) (some (.if_icmp .lt 17, 3)) (none))
 (cond (Nat.blt pc 16)
 (cond (Nat.beq pc 15) (some (.iconst (-1), 1)) (none))
 (cond (Nat.beq pc 16) (some (.ireturn, 1)) (none))))))
 (cond (Nat.blt pc 52)
 (cond (Nat.blt pc 48)
 (cond (Nat.blt pc 18)
 (cond (Nat.beq pc 17) (some (.iload 2, 1)) (none))
 (cond (Nat.beq pc 18) (some (.tableswitch 88 0 3 #[48, 58, 68, 78], 30)) (none)))
 (cond (Nat.blt pc 49)
 (cond (Nat.beq pc 48) (some (.aload 0, 1)) (none))
 (cond (Nat.beq pc 49) (some (.getfield 702, 3)) (none))))
 (cond (Nat.blt pc 56)
 (cond (Nat.blt pc 55)
 (cond (Nat.beq pc 52) (some (.getfield 302, 3)) (none))
 (cond (Nat.beq pc 55) (some (.iload 1, 1)) (none)))
 (cond (Nat.blt pc 57)
 (cond (Nat.beq pc 56) (some (.iaload, 1)) (none))
 (cond (Nat.blt pc 58)
 (cond (Nat.beq pc 57) (some (.ireturn, 1)) (none))
 (cond (Nat.beq pc 58) (some (.aload 0, 1)) (none)))))))
 (cond (Nat.blt pc 76)
 (cond (Nat.blt pc 67)
 (cond (Nat.blt pc 65)
 (cond (Nat.blt pc 62)
 (cond (Nat.beq pc 59) (some (.getfield 702, 3)) (none))
 (cond (Nat.beq pc 62) (some (.getfield 303, 3)) (none)))
 (cond (Nat.blt pc 66)
 (cond (Nat.beq pc 65) (some (.iload 1, 1)) (none))
 (cond (Nat.beq pc 66) (some (.iaload, 1)) (none))))
 (cond (Nat.blt pc 69)
 (cond (Nat.blt pc 68)
 (cond (Nat.beq pc 67) (some (.ireturn, 1)) (none))
 (cond (Nat.beq pc 68) (some (.aload 0, 1)) (none)))
 (cond (Nat.blt pc 72)
 (cond (Nat.beq pc 69) (some (.getfield 702, 3)) (none))
 (cond (Nat.blt pc 75)
 (cond (Nat.beq pc 72) (some (.getfield 304, 3)) (none))
 (cond (Nat.beq pc 75) (some (.iload 1, 1)) (none))))))
 (cond (Nat.blt pc 85)
 (cond (Nat.blt pc 78)
 (cond (Nat.blt pc 77)
 (cond (Nat.beq pc 76) (some (.iaload, 1)) (none))
 (cond (Nat.beq pc 77) (some (.ireturn, 1)) (none)))
 (cond (Nat.blt pc 79)
 (cond (Nat.beq pc 78) (some (.aload 0, 1)) (none))
 (cond (Nat.blt pc 82)
 (cond (Nat.beq pc 79) (some (.getfield 702, 3)) (none))
 (cond (Nat.beq pc 82) (some (.getfield 305, 3)) (none)))))
 (cond (Nat.blt pc 87)
 (cond (Nat.blt pc 86)
 (cond (Nat.beq pc 85) (some (.iload 1, 1)) (none))
 (cond (Nat.beq pc 86) (some (.iaload, 1)) (none)))
 (cond (Nat.blt pc 88)
 (cond (Nat.beq pc 87) (some (.ireturn, 1)) (none))
 (cond (Nat.blt pc 89)
 (cond (Nat.beq pc 88) (some (.iconst (-1), 1)) (none))
 (cond (Nat.beq pc 89) (some (.ireturn, 1)) (none)))))))
-- AlwaysThere.race(I)I
noncomputable def qc_79 (pc : Nat) : Option (Instr × Nat) := cond (Nat.blt pc 50)
 (cond (Nat.blt pc 41)
 (cond (Nat.blt pc 36)
 (cond (Nat.blt pc 1)
 (cond (Nat.beq pc 0) (some (.iload 1, 1)) (none))
 (cond (Nat.beq pc 1) (some (.tableswitch 67 0 4 #[36, 41, 46, 51, 59], 35)) (none)))
 (cond (Nat.blt pc 37)
 (cond (Nat.beq pc 36) (some (.aload 0, 1)) (none))
 (cond (Nat.blt pc 40)
 (cond (Nat.beq pc 37) (some (.invokevirtual 97, 3)) (none))
 (cond (Nat.beq pc 40) (some (.ireturn, 1)) (none)))))
 (cond (Nat.blt pc 45)
 (cond (Nat.blt pc 42)
 (cond (Nat.beq pc 41) (some (.aload 0, 1)) (none))
 (cond (Nat.beq pc 42) (some (.invokevirtual 98, 3)) (none)))
 (cond (Nat.blt pc 46)
 (cond (Nat.beq pc 45) (some (.ireturn, 1)) (none))
 (cond (Nat.blt pc 47)
 (cond (Nat.beq pc 46) (some (.aload 0, 1)) (none))
 (cond (Nat.beq pc 47) (some (.invokevirtual 99, 3)) (none))))))
 (cond (Nat.blt pc 59)
 (cond (Nat.blt pc 52)
 (cond (Nat.blt pc 51)
 (cond (Nat.beq pc 50) (some (.ireturn, 1)) (none))
 (cond (Nat.beq pc 51) (some (.aload 0, 1)) (none)))
 (cond (Nat.blt pc 55)
 (cond (Nat.beq pc 52) (some (.getfield 706, 3)) (none))
 (cond (Nat.blt pc 58)
 (cond (Nat.beq pc 55) (some (.invokevirtual 54, 3)) (none))
 (cond (Nat.beq pc 58) (some (.ireturn, 1)) (none)))))
 (cond (Nat.blt pc 66)
 (cond (Nat.blt pc 60)
 (cond (Nat.beq pc 59) (some (.aload 0, 1)) (none))
 (cond (Nat.blt pc 63)
 (cond (Nat.beq pc 60) (some (.getfield 705, 3)) (none))
 (cond (Nat.beq pc 63) (some (.getfield 100, 3)) (none))))
 (cond (Nat.blt pc 67)
 (cond (Nat.beq pc 66) (some (.ireturn, 1)) (none))
 (cond (Nat.blt pc 68)
 (cond (Nat.beq pc 67) (some (.iconst (-1), 1)) (none))
 (cond (Nat.beq pc 68) (some (.ireturn, 1)) (none))))))
-- AlwaysThere.one()I
noncomputable def qc_80 (pc : Nat) : Option (Instr × Nat) := cond (Nat.blt pc 8)
 (cond (Nat.blt pc 4)
 (cond (Nat.blt pc 1)
 (cond (Nat.beq pc 0) (some (.aload 0, 1)) (none))
 (cond (Nat.beq pc 1) (some (.getfield 706, 3)) (none)))
 (cond (Nat.blt pc 5)
 (cond (Nat.beq pc 4) (some (.iconst 1, 1)) (none))
 (cond (Nat.beq pc 5) (some (.invokevirtual 59, 3)) (none))))
 (cond (Nat.blt pc 12)
 (cond (Nat.blt pc 11)
 (cond (Nat.beq pc 8) (some (.ifCond .eq 15, 3)) (none))
 (cond (Nat.beq pc 11) (some (.iconst 1, 1)) (none)))
 (cond (Nat.blt pc 15)
 (cond (Nat.beq pc 12) (some (.goto 16, 3)) (none))
 (cond (Nat.blt pc 16)
 (cond (Nat.beq pc 15) (some (.iconst 0, 1)) (none))
 (cond (Nat.beq pc 16) (some (.ireturn, 1)) (none)))))
-- AlwaysThere.needed(I)I
noncomputable def qc_81 (pc : Nat) : Option (Instr × Nat) := cond (Nat.blt pc 24)
 (cond (Nat.blt pc 12)
 (cond (Nat.blt pc 5)
 (cond (Nat.blt pc 1)
 (cond (Nat.beq pc 0) (some (.iload 1, 1)) (none))
 (cond (Nat.blt pc 2)
 (cond (Nat.beq pc 1) (some (.iconst (-1), 1)) (none))
 (cond (Nat.beq pc 2) (some (.if_icmp .ne 13, 3)) (none))))
 (cond (Nat.blt pc 6)
 (cond (Nat.beq pc 5) (some (.aload 0, 1)) (none))
 (cond (Nat.blt pc 9)
 (cond (Nat.beq pc 6) (some (.getfield 706, 3)) (none))
 (cond (Nat.beq pc 9) (some (.invokevirtual 58, 3)) (none)))))
 (cond (Nat.blt pc 17)
 (cond (Nat.blt pc 13)
 (cond (Nat.beq pc 12) (some (.ireturn, 1)) (none))
 (cond (Nat.blt pc 14)
 (cond (Nat.beq pc 13) (some (.aload 0, 1)) (none))
 (cond (Nat.beq pc 14) (some (.getfield 706, 3)) (none))))
 (cond (Nat.blt pc 18)
 (cond (Nat.beq pc 17) (some (.iload 1, 1)) (none))
 (cond (Nat.blt pc 21)
 (cond (Nat.beq pc 18) (some (.invokevirtual 53, 3)) (none))
 (cond (Nat.beq pc 21) (some (.ifCond .ne 26, 3)) (none))))))
 (cond (Nat.blt pc 34)
 (cond (Nat.blt pc 27)
 (cond (Nat.blt pc 25)
 (cond (Nat.beq pc 24) (some (.iconst (-1), 1)) (none))
 (cond (Nat.blt pc 26)
 (cond (Nat.beq pc 25) (some (.ireturn, 1)) (none))
 (cond (Nat.beq pc 26) (some (.aload 0, 1)) (none))))
 (cond (Nat.blt pc 30)
 (cond (Nat.beq pc 27) (some (.getfield 706, 3)) (none))
 (cond (Nat.blt pc 33)
 (cond (Nat.beq pc 30) (some (.invokevirtual 58, 3)) (none))
 (cond (Nat.beq pc 33) (some (.pop, 1)) (none)))))
 (cond (Nat.blt pc 41)
 (cond (Nat.blt pc 35)
 (cond (Nat.beq pc 34) (some (.aload 0, 1)) (none))
 (cond (Nat.blt pc 38)
 (cond (Nat.beq pc 35) (some (.getfield 706, 3)) (none))
 (cond (Nat.beq pc 38) (some (.getfield 504, 3)) (none))))
 (cond (Nat.blt pc 42)
 (cond (Nat.beq pc 41) (some (.iload 1, 1)) (none))
 (cond (Nat.blt pc 43)
 (cond (Nat.beq pc 42) (some (.iaload, 1)) (none))
 (cond (Nat.beq pc 43) (some (.ireturn, 1)) (none))))))
-- AlwaysThere.worst(III)I
noncomputable def qc_82 (pc : Nat) : Option (Instr × Nat) := cond (Nat.blt pc 31)
 (cond (Nat.blt pc 16)
 (cond (Nat.blt pc 8)
 (cond (Nat.blt pc 4)
 (cond (Nat.blt pc 1)
 (cond (Nat.beq pc 0) (some (.aload 0, 1)) (none))
 (cond (Nat.beq pc 1) (some (.getfield 701, 3)) (none)))
 (cond (Nat.blt pc 5)
 (cond (Nat.beq pc 4) (some (.iload 1, 1)) (none))
 (cond (Nat.beq pc 5) (some (.invokevirtual 15, 3)) (none))))
 (cond (Nat.blt pc 12)
 (cond (Nat.blt pc 11)
 (cond (Nat.beq pc 8) (some (.ifCond .eq 29, 3)) (none))
 (cond (Nat.beq pc 11) (some (.iload 2, 1)) (none)))
 (cond (Nat.blt pc 15)
 (cond (Nat.beq pc 12) (some (.ifCond .lt 29, 3)) (none))
 (cond (Nat.beq pc 15) (some (.iload 2, 1)) (none)))))
 (cond (Nat.blt pc 24)
 (cond (Nat.blt pc 20)
 (cond (Nat.blt pc 17)
 (cond (Nat.beq pc 16) (some (.iconst 4, 1)) (none))
 (cond (Nat.beq pc 17) (some (.if_icmp .gt 29, 3)) (none)))
 (cond (Nat.blt pc 21)
 (cond (Nat.beq pc 20) (some (.iload 3, 1)) (none))
 (cond (Nat.beq pc 21) (some (.ifCond .lt 29, 3)) (none))))
 (cond (Nat.blt pc 26)
 (cond (Nat.blt pc 25)
 (cond (Nat.beq pc 24) (some (.iload 3, 1)) (none))
 (cond (Nat.beq pc 25) (some (.iconst 1, 1)) (none)))
 (cond (Nat.blt pc 29)
 (cond (Nat.beq pc 26) (some (.if_icmp .le 31, 3)) (none))
 (cond (Nat.blt pc 30)
 (cond (Nat.beq pc 29) (some (.iconst (-1), 1)) (none))
 (cond (Nat.beq pc 30) (some (.ireturn, 1)) (none)))))))
 (cond (Nat.blt pc 45)
 (cond (Nat.blt pc 39)
 (cond (Nat.blt pc 35)
 (cond (Nat.blt pc 32)
 (cond (Nat.beq pc 31) (some (.aload 0, 1)) (none))
 (cond (Nat.beq pc 32) (some (.getfield 707, 3)) (none)))
 (cond (Nat.blt pc 36)
 (cond (Nat.beq pc 35) (some (.aload 0, 1)) (none))
 (cond (Nat.beq pc 36) (some (.getfield 701, 3)) (none))))
 (cond (Nat.blt pc 41)
 (cond (Nat.blt pc 40)
 (cond (Nat.beq pc 39) (some (.iload 1, 1)) (none))
 (cond (Nat.beq pc 40) (some (.iload 2, 1)) (none)))
 (cond (Nat.blt pc 44)
 (cond (Nat.beq pc 41) (some (.invokevirtual 63, 3)) (none))
 (cond (Nat.beq pc 44) (some (.iload 3, 1)) (none)))))
 (cond (Nat.blt pc 55)
 (cond (Nat.blt pc 49)
 (cond (Nat.blt pc 48)
 (cond (Nat.beq pc 45) (some (.ifCond .ne 58, 3)) (none))
 (cond (Nat.beq pc 48) (some (.aload 0, 1)) (none)))
 (cond (Nat.blt pc 52)
 (cond (Nat.beq pc 49) (some (.getfield 707, 3)) (none))
 (cond (Nat.beq pc 52) (some (.getfield 600, 3)) (none))))
 (cond (Nat.blt pc 59)
 (cond (Nat.blt pc 58)
 (cond (Nat.beq pc 55) (some (.goto 65, 3)) (none))
 (cond (Nat.beq pc 58) (some (.aload 0, 1)) (none)))
 (cond (Nat.blt pc 62)
 (cond (Nat.beq pc 59) (some (.getfield 707, 3)) (none))
 (cond (Nat.blt pc 65)
 (cond (Nat.beq pc 62) (some (.getfield 601, 3)) (none))
 (cond (Nat.beq pc 65) (some (.ireturn, 1)) (none)))))))
-- AlwaysThere.saw(II)I
noncomputable def qc_83 (pc : Nat) : Option (Instr × Nat) := cond (Nat.blt pc 24)
 (cond (Nat.blt pc 12)
 (cond (Nat.blt pc 5)
 (cond (Nat.blt pc 1)
 (cond (Nat.beq pc 0) (some (.aload 0, 1)) (none))
 (cond (Nat.blt pc 4)
 (cond (Nat.beq pc 1) (some (.getfield 706, 3)) (none))
 (cond (Nat.beq pc 4) (some (.iload 1, 1)) (none))))
 (cond (Nat.blt pc 8)
 (cond (Nat.beq pc 5) (some (.invokevirtual 53, 3)) (none))
 (cond (Nat.blt pc 11)
 (cond (Nat.beq pc 8) (some (.ifCond .eq 21, 3)) (none))
 (cond (Nat.beq pc 11) (some (.iload 2, 1)) (none)))))
 (cond (Nat.blt pc 18)
 (cond (Nat.blt pc 15)
 (cond (Nat.beq pc 12) (some (.ifCond .lt 21, 3)) (none))
 (cond (Nat.blt pc 16)
 (cond (Nat.beq pc 15) (some (.iload 2, 1)) (none))
 (cond (Nat.beq pc 16) (some (.iconst 15, 2)) (none))))
 (cond (Nat.blt pc 22)
 (cond (Nat.blt pc 21)
 (cond (Nat.beq pc 18) (some (.if_icmp .le 23, 3)) (none))
 (cond (Nat.beq pc 21) (some (.iconst (-1), 1)) (none)))
 (cond (Nat.blt pc 23)
 (cond (Nat.beq pc 22) (some (.ireturn, 1)) (none))
 (cond (Nat.beq pc 23) (some (.aload 0, 1)) (none))))))
 (cond (Nat.blt pc 34)
 (cond (Nat.blt pc 31)
 (cond (Nat.blt pc 27)
 (cond (Nat.beq pc 24) (some (.getfield 702, 3)) (none))
 (cond (Nat.blt pc 30)
 (cond (Nat.beq pc 27) (some (.getfield 307, 3)) (none))
 (cond (Nat.beq pc 30) (some (.iload 1, 1)) (none))))
 (cond (Nat.blt pc 32)
 (cond (Nat.beq pc 31) (some (.iaload, 1)) (none))
 (cond (Nat.blt pc 33)
 (cond (Nat.beq pc 32) (some (.istore 3, 1)) (none))
 (cond (Nat.beq pc 33) (some (.aload 0, 1)) (none)))))
 (cond (Nat.blt pc 41)
 (cond (Nat.blt pc 37)
 (cond (Nat.beq pc 34) (some (.getfield 702, 3)) (none))
 (cond (Nat.blt pc 40)
 (cond (Nat.beq pc 37) (some (.getfield 307, 3)) (none))
 (cond (Nat.beq pc 40) (some (.iload 1, 1)) (none))))
 (cond (Nat.blt pc 43)
 (cond (Nat.blt pc 42)
 (cond (Nat.beq pc 41) (some (.iload 2, 1)) (none))
 (cond (Nat.beq pc 42) (some (.iastore, 1)) (none)))
 (cond (Nat.blt pc 44)
 (cond (Nat.beq pc 43) (some (.iload 3, 1)) (none))
 (cond (Nat.beq pc 44) (some (.ireturn, 1)) (none))))))
-- AlwaysThere.forget()I
noncomputable def qc_84 (pc : Nat) : Option (Instr × Nat) := cond (Nat.blt pc 19)
 (cond (Nat.blt pc 7)
 (cond (Nat.blt pc 3)
 (cond (Nat.blt pc 1)
 (cond (Nat.beq pc 0) (some (.iconst 0, 1)) (none))
 (cond (Nat.blt pc 2)
 (cond (Nat.beq pc 1) (some (.istore 1, 1)) (none))
 (cond (Nat.beq pc 2) (some (.iconst 0, 1)) (none))))
 (cond (Nat.blt pc 4)
 (cond (Nat.beq pc 3) (some (.istore 2, 1)) (none))
 (cond (Nat.blt pc 5)
 (cond (Nat.beq pc 4) (some (.iload 2, 1)) (none))
 (cond (Nat.beq pc 5) (some (.iconst 8, 2)) (none)))))
 (cond (Nat.blt pc 14)
 (cond (Nat.blt pc 10)
 (cond (Nat.beq pc 7) (some (.if_icmp .ge 44, 3)) (none))
 (cond (Nat.blt pc 11)
 (cond (Nat.beq pc 10) (some (.aload 0, 1)) (none))
 (cond (Nat.beq pc 11) (some (.getfield 702, 3)) (none))))
 (cond (Nat.blt pc 17)
 (cond (Nat.beq pc 14) (some (.getfield 307, 3)) (none))
 (cond (Nat.blt pc 18)
 (cond (Nat.beq pc 17) (some (.iload 2, 1)) (none))
 (cond (Nat.beq pc 18) (some (.iaload, 1)) (none))))))
 (cond (Nat.blt pc 34)
 (cond (Nat.blt pc 27)
 (cond (Nat.blt pc 21)
 (cond (Nat.beq pc 19) (some (.iconst (-9), 2)) (none))
 (cond (Nat.blt pc 24)
 (cond (Nat.beq pc 21) (some (.if_icmp .eq 27, 3)) (none))
 (cond (Nat.beq pc 24) (some (.iinc 1 1, 3)) (none))))
 (cond (Nat.blt pc 28)
 (cond (Nat.beq pc 27) (some (.aload 0, 1)) (none))
 (cond (Nat.blt pc 31)
 (cond (Nat.beq pc 28) (some (.getfield 702, 3)) (none))
 (cond (Nat.beq pc 31) (some (.getfield 307, 3)) (none)))))
 (cond (Nat.blt pc 38)
 (cond (Nat.blt pc 35)
 (cond (Nat.beq pc 34) (some (.iload 2, 1)) (none))
 (cond (Nat.blt pc 37)
 (cond (Nat.beq pc 35) (some (.iconst (-9), 2)) (none))
 (cond (Nat.beq pc 37) (some (.iastore, 1)) (none))))
 (cond (Nat.blt pc 44)
 (cond (Nat.blt pc 41)
 (cond (Nat.beq pc 38) (some (.iinc 2 1, 3)) (none))
 (cond (Nat.beq pc 41) (some (.goto 4, 3)) (none)))
 (cond (Nat.blt pc 45)
 (cond (Nat.beq pc 44) (some (.iload 1, 1)) (none))
 (cond (Nat.beq pc 45) (some (.ireturn, 1)) (none))))))
-- AlwaysThere.fits()I
noncomputable def qc_85 (pc : Nat) : Option (Instr × Nat) := cond (Nat.blt pc 13)
 (cond (Nat.blt pc 5)
 (cond (Nat.blt pc 1)
 (cond (Nat.beq pc 0) (some (.aload 0, 1)) (none))
 (cond (Nat.blt pc 4)
 (cond (Nat.beq pc 1) (some (.getfield 708, 3)) (none))
 (cond (Nat.beq pc 4) (some (.aload 0, 1)) (none))))
 (cond (Nat.blt pc 9)
 (cond (Nat.blt pc 8)
 (cond (Nat.beq pc 5) (some (.getfield 701, 3)) (none))
 (cond (Nat.beq pc 8) (some (.aload 0, 1)) (none)))
 (cond (Nat.blt pc 12)
 (cond (Nat.beq pc 9) (some (.getfield 706, 3)) (none))
 (cond (Nat.beq pc 12) (some (.aload 0, 1)) (none)))))
 (cond (Nat.blt pc 22)
 (cond (Nat.blt pc 16)
 (cond (Nat.beq pc 13) (some (.getfield 702, 3)) (none))
 (cond (Nat.blt pc 19)
 (cond (Nat.beq pc 16) (some (.getfield 307, 3)) (none))
 (cond (Nat.beq pc 19) (some (.invokevirtual 1, 3)) (none))))
 (cond (Nat.blt pc 26)
 (cond (Nat.blt pc 23)
 (cond (Nat.beq pc 22) (some (.aload 0, 1)) (none))
 (cond (Nat.beq pc 23) (some (.getfield 708, 3)) (none)))
 (cond (Nat.blt pc 29)
 (cond (Nat.beq pc 26) (some (.invokevirtual 3, 3)) (none))
 (cond (Nat.beq pc 29) (some (.ireturn, 1)) (none)))))
-- AlwaysThere.sure(I)I
noncomputable def qc_86 (pc : Nat) : Option (Instr × Nat) := cond (Nat.blt pc 21)
 (cond (Nat.blt pc 11)
 (cond (Nat.blt pc 4)
 (cond (Nat.blt pc 1)
 (cond (Nat.beq pc 0) (some (.aload 0, 1)) (none))
 (cond (Nat.beq pc 1) (some (.getfield 706, 3)) (none)))
 (cond (Nat.blt pc 5)
 (cond (Nat.beq pc 4) (some (.iload 1, 1)) (none))
 (cond (Nat.blt pc 8)
 (cond (Nat.beq pc 5) (some (.invokevirtual 53, 3)) (none))
 (cond (Nat.beq pc 8) (some (.ifCond .ne 13, 3)) (none)))))
 (cond (Nat.blt pc 14)
 (cond (Nat.blt pc 12)
 (cond (Nat.beq pc 11) (some (.iconst (-1), 1)) (none))
 (cond (Nat.blt pc 13)
 (cond (Nat.beq pc 12) (some (.ireturn, 1)) (none))
 (cond (Nat.beq pc 13) (some (.aload 0, 1)) (none))))
 (cond (Nat.blt pc 17)
 (cond (Nat.beq pc 14) (some (.getfield 708, 3)) (none))
 (cond (Nat.blt pc 18)
 (cond (Nat.beq pc 17) (some (.aload 0, 1)) (none))
 (cond (Nat.beq pc 18) (some (.getfield 701, 3)) (none))))))
 (cond (Nat.blt pc 32)
 (cond (Nat.blt pc 25)
 (cond (Nat.blt pc 22)
 (cond (Nat.beq pc 21) (some (.aload 0, 1)) (none))
 (cond (Nat.beq pc 22) (some (.getfield 706, 3)) (none)))
 (cond (Nat.blt pc 26)
 (cond (Nat.beq pc 25) (some (.aload 0, 1)) (none))
 (cond (Nat.blt pc 29)
 (cond (Nat.beq pc 26) (some (.getfield 702, 3)) (none))
 (cond (Nat.beq pc 29) (some (.getfield 307, 3)) (none)))))
 (cond (Nat.blt pc 39)
 (cond (Nat.blt pc 35)
 (cond (Nat.beq pc 32) (some (.invokevirtual 1, 3)) (none))
 (cond (Nat.blt pc 36)
 (cond (Nat.beq pc 35) (some (.aload 0, 1)) (none))
 (cond (Nat.beq pc 36) (some (.getfield 708, 3)) (none))))
 (cond (Nat.blt pc 40)
 (cond (Nat.beq pc 39) (some (.iload 1, 1)) (none))
 (cond (Nat.blt pc 43)
 (cond (Nat.beq pc 40) (some (.invokevirtual 4, 3)) (none))
 (cond (Nat.beq pc 43) (some (.ireturn, 1)) (none))))))
-- AlwaysThere.ask(I)I
noncomputable def qc_87 (pc : Nat) : Option (Instr × Nat) := cond (Nat.blt pc 37)
 (cond (Nat.blt pc 19)
 (cond (Nat.blt pc 7)
 (cond (Nat.blt pc 4)
 (cond (Nat.blt pc 1)
 (cond (Nat.beq pc 0) (some (.iload 1, 1)) (none))
 (cond (Nat.beq pc 1) (some (.ifCond .lt 17, 3)) (none)))
 (cond (Nat.blt pc 5)
 (cond (Nat.beq pc 4) (some (.iload 1, 1)) (none))
 (cond (Nat.blt pc 6)
 (cond (Nat.beq pc 5) (some (.iconst 1, 1)) (none))
 (cond (Nat.beq pc 6) (some (.aload 0, 1)) (none)))))
 (cond (Nat.blt pc 14)
 (cond (Nat.blt pc 10)
 (cond (Nat.beq pc 7) (some (.getfield 701, 3)) (none))
 (cond (Nat.blt pc 13)
 (cond (Nat.beq pc 10) (some (.getfield 201, 3)) (none))
 (cond (Nat.beq pc 13) (some (.ishl, 1)) (none))))
 (cond (Nat.blt pc 17)
 (cond (Nat.beq pc 14) (some (.if_icmp .lt 19, 3)) (none))
 (cond (Nat.blt pc 18)
 (cond (Nat.beq pc 17) (some (.iconst (-1), 1)) (none))
 (cond (Nat.beq pc 18) (some (.ireturn, 1)) (none))))))
 (cond (Nat.blt pc 25)
 (cond (Nat.blt pc 22)
 (cond (Nat.blt pc 21)
 (cond (Nat.beq pc 19) (some (.iconst (-9), 2)) (none))
 (cond (Nat.beq pc 21) (some (.istore 2, 1)) (none)))
 (cond (Nat.blt pc 23)
 (cond (Nat.beq pc 22) (some (.iconst 0, 1)) (none))
 (cond (Nat.blt pc 24)
 (cond (Nat.beq pc 23) (some (.istore 3, 1)) (none))
 (cond (Nat.beq pc 24) (some (.iload 3, 1)) (none)))))
 (cond (Nat.blt pc 31)
 (cond (Nat.blt pc 27)
 (cond (Nat.beq pc 25) (some (.iconst 15, 2)) (none))
 (cond (Nat.blt pc 30)
 (cond (Nat.beq pc 27) (some (.if_icmp .gt 79, 3)) (none))
 (cond (Nat.beq pc 30) (some (.iload 2, 1)) (none))))
 (cond (Nat.blt pc 33)
 (cond (Nat.beq pc 31) (some (.iconst (-9), 2)) (none))
 (cond (Nat.blt pc 36)
 (cond (Nat.beq pc 33) (some (.if_icmp .eq 47, 3)) (none))
 (cond (Nat.beq pc 36) (some (.iload 3, 1)) (none)))))))
 (cond (Nat.blt pc 60)
 (cond (Nat.blt pc 48)
 (cond (Nat.blt pc 41)
 (cond (Nat.blt pc 40)
 (cond (Nat.beq pc 37) (some (.invokestatic 168, 3)) (none))
 (cond (Nat.beq pc 40) (some (.iload 2, 1)) (none)))
 (cond (Nat.blt pc 44)
 (cond (Nat.beq pc 41) (some (.invokestatic 168, 3)) (none))
 (cond (Nat.blt pc 47)
 (cond (Nat.beq pc 44) (some (.if_icmp .ge 51, 3)) (none))
 (cond (Nat.beq pc 47) (some (.iconst 1, 1)) (none)))))
 (cond (Nat.blt pc 54)
 (cond (Nat.blt pc 51)
 (cond (Nat.beq pc 48) (some (.goto 52, 3)) (none))
 (cond (Nat.blt pc 52)
 (cond (Nat.beq pc 51) (some (.iconst 0, 1)) (none))
 (cond (Nat.beq pc 52) (some (.istore 4, 2)) (none))))
 (cond (Nat.blt pc 56)
 (cond (Nat.beq pc 54) (some (.iload 4, 2)) (none))
 (cond (Nat.blt pc 59)
 (cond (Nat.beq pc 56) (some (.ifCond .eq 73, 3)) (none))
 (cond (Nat.beq pc 59) (some (.aload 0, 1)) (none))))))
 (cond (Nat.blt pc 71)
 (cond (Nat.blt pc 64)
 (cond (Nat.blt pc 63)
 (cond (Nat.beq pc 60) (some (.getfield 701, 3)) (none))
 (cond (Nat.beq pc 63) (some (.iload 1, 1)) (none)))
 (cond (Nat.blt pc 65)
 (cond (Nat.beq pc 64) (some (.iload 3, 1)) (none))
 (cond (Nat.blt pc 68)
 (cond (Nat.beq pc 65) (some (.invokevirtual 24, 3)) (none))
 (cond (Nat.beq pc 68) (some (.ifCond .eq 73, 3)) (none)))))
 (cond (Nat.blt pc 76)
 (cond (Nat.blt pc 72)
 (cond (Nat.beq pc 71) (some (.iload 3, 1)) (none))
 (cond (Nat.blt pc 73)
 (cond (Nat.beq pc 72) (some (.istore 2, 1)) (none))
 (cond (Nat.beq pc 73) (some (.iinc 3 1, 3)) (none))))
 (cond (Nat.blt pc 79)
 (cond (Nat.beq pc 76) (some (.goto 24, 3)) (none))
 (cond (Nat.blt pc 80)
 (cond (Nat.beq pc 79) (some (.iload 2, 1)) (none))
 (cond (Nat.beq pc 80) (some (.ireturn, 1)) (none)))))))
-- AlwaysThere.bet(II)J
noncomputable def qc_88 (pc : Nat) : Option (Instr × Nat) := cond (Nat.blt pc 47)
 (cond (Nat.blt pc 24)
 (cond (Nat.blt pc 11)
 (cond (Nat.blt pc 5)
 (cond (Nat.blt pc 1)
 (cond (Nat.beq pc 0) (some (.iload 1, 1)) (none))
 (cond (Nat.blt pc 4)
 (cond (Nat.beq pc 1) (some (.ifCond .lt 19, 3)) (none))
 (cond (Nat.beq pc 4) (some (.iload 1, 1)) (none))))
 (cond (Nat.blt pc 7)
 (cond (Nat.beq pc 5) (some (.iconst 10, 2)) (none))
 (cond (Nat.blt pc 10)
 (cond (Nat.beq pc 7) (some (.if_icmp .gt 19, 3)) (none))
 (cond (Nat.beq pc 10) (some (.iload 2, 1)) (none)))))
 (cond (Nat.blt pc 16)
 (cond (Nat.blt pc 14)
 (cond (Nat.beq pc 11) (some (.ifCond .lt 19, 3)) (none))
 (cond (Nat.blt pc 15)
 (cond (Nat.beq pc 14) (some (.iload 2, 1)) (none))
 (cond (Nat.beq pc 15) (some (.iconst 1, 1)) (none))))
 (cond (Nat.blt pc 22)
 (cond (Nat.blt pc 19)
 (cond (Nat.beq pc 16) (some (.if_icmp .le 23, 3)) (none))
 (cond (Nat.beq pc 19) (some (.bipush (-1), 3)) (none)))
 (cond (Nat.blt pc 23)
 (cond (Nat.beq pc 22) (some (.lreturn, 1)) (none))
 (cond (Nat.beq pc 23) (some (.aload 0, 1)) (none))))))
 (cond (Nat.blt pc 36)
 (cond (Nat.blt pc 33)
 (cond (Nat.blt pc 27)
 (cond (Nat.beq pc 24) (some (.getfield 706, 3)) (none))
 (cond (Nat.blt pc 30)
 (cond (Nat.beq pc 27) (some (.getfield 500, 3)) (none))
 (cond (Nat.beq pc 30) (some (.ifCond .ne 36, 3)) (none))))
 (cond (Nat.blt pc 34)
 (cond (Nat.beq pc 33) (some (.iload 2, 1)) (none))
 (cond (Nat.blt pc 35)
 (cond (Nat.beq pc 34) (some (.i2l, 1)) (none))
 (cond (Nat.beq pc 35) (some (.lreturn, 1)) (none)))))
 (cond (Nat.blt pc 40)
 (cond (Nat.blt pc 38)
 (cond (Nat.beq pc 36) (some (.iconst 10, 2)) (none))
 (cond (Nat.blt pc 39)
 (cond (Nat.beq pc 38) (some (.iload 1, 1)) (none))
 (cond (Nat.beq pc 39) (some (.isub, 1)) (none))))
 (cond (Nat.blt pc 45)
 (cond (Nat.blt pc 42)
 (cond (Nat.beq pc 40) (some (.iconst 10, 2)) (none))
 (cond (Nat.beq pc 42) (some (.invokestatic 101, 3)) (none)))
 (cond (Nat.blt pc 46)
 (cond (Nat.beq pc 45) (some (.fstore 3, 1)) (none))
 (cond (Nat.beq pc 46) (some (.iload 2, 1)) (none)))))))
 (cond (Nat.blt pc 69)
 (cond (Nat.blt pc 59)
 (cond (Nat.blt pc 53)
 (cond (Nat.blt pc 50)
 (cond (Nat.beq pc 47) (some (.ifCond .ne 57, 3)) (none))
 (cond (Nat.blt pc 52)
 (cond (Nat.beq pc 50) (some (.iconst 10, 2)) (none))
 (cond (Nat.beq pc 52) (some (.iload 1, 1)) (none))))
 (cond (Nat.blt pc 54)
 (cond (Nat.beq pc 53) (some (.isub, 1)) (none))
 (cond (Nat.blt pc 57)
 (cond (Nat.beq pc 54) (some (.goto 59, 3)) (none))
 (cond (Nat.beq pc 57) (some (.iconst 10, 2)) (none)))))
 (cond (Nat.blt pc 63)
 (cond (Nat.blt pc 60)
 (cond (Nat.beq pc 59) (some (.iload 3, 1)) (none))
 (cond (Nat.blt pc 61)
 (cond (Nat.beq pc 60) (some (.idiv, 1)) (none))
 (cond (Nat.beq pc 61) (some (.fstore 4, 2)) (none))))
 (cond (Nat.blt pc 66)
 (cond (Nat.blt pc 64)
 (cond (Nat.beq pc 63) (some (.bipush 1, 1)) (none))
 (cond (Nat.beq pc 64) (some (.lstore 5, 2)) (none)))
 (cond (Nat.blt pc 67)
 (cond (Nat.beq pc 66) (some (.iconst 1, 1)) (none))
 (cond (Nat.beq pc 67) (some (.fstore 7, 2)) (none))))))
 (cond (Nat.blt pc 85)
 (cond (Nat.blt pc 75)
 (cond (Nat.blt pc 71)
 (cond (Nat.beq pc 69) (some (.iload 7, 2)) (none))
 (cond (Nat.blt pc 72)
 (cond (Nat.beq pc 71) (some (.aload 0, 1)) (none))
 (cond (Nat.beq pc 72) (some (.getfield 706, 3)) (none))))
 (cond (Nat.blt pc 81)
 (cond (Nat.blt pc 78)
 (cond (Nat.beq pc 75) (some (.getfield 500, 3)) (none))
 (cond (Nat.beq pc 78) (some (.if_icmp .ge 95, 3)) (none)))
 (cond (Nat.blt pc 83)
 (cond (Nat.beq pc 81) (some (.lload 5, 2)) (none))
 (cond (Nat.beq pc 83) (some (.iload 4, 2)) (none)))))
 (cond (Nat.blt pc 89)
 (cond (Nat.blt pc 86)
 (cond (Nat.beq pc 85) (some (.i2l, 1)) (none))
 (cond (Nat.blt pc 87)
 (cond (Nat.beq pc 86) (some (.lmul, 1)) (none))
 (cond (Nat.beq pc 87) (some (.lstore 5, 2)) (none))))
 (cond (Nat.blt pc 95)
 (cond (Nat.blt pc 92)
 (cond (Nat.beq pc 89) (some (.iinc 7 1, 3)) (none))
 (cond (Nat.beq pc 92) (some (.goto 69, 3)) (none)))
 (cond (Nat.blt pc 97)
 (cond (Nat.beq pc 95) (some (.lload 5, 2)) (none))
 (cond (Nat.beq pc 97) (some (.lreturn, 1)) (none)))))))
-- AlwaysThere.rate(II)I
noncomputable def qc_89 (pc : Nat) : Option (Instr × Nat) := cond (Nat.blt pc 18)
 (cond (Nat.blt pc 7)
 (cond (Nat.blt pc 4)
 (cond (Nat.blt pc 1)
 (cond (Nat.beq pc 0) (some (.iload 1, 1)) (none))
 (cond (Nat.beq pc 1) (some (.ifCond .lt 21, 3)) (none)))
 (cond (Nat.blt pc 5)
 (cond (Nat.beq pc 4) (some (.iload 1, 1)) (none))
 (cond (Nat.beq pc 5) (some (.iconst 6, 2)) (none))))
 (cond (Nat.blt pc 11)
 (cond (Nat.blt pc 10)
 (cond (Nat.beq pc 7) (some (.if_icmp .ge 21, 3)) (none))
 (cond (Nat.beq pc 10) (some (.aload 0, 1)) (none)))
 (cond (Nat.blt pc 14)
 (cond (Nat.beq pc 11) (some (.getfield 701, 3)) (none))
 (cond (Nat.blt pc 15)
 (cond (Nat.beq pc 14) (some (.iload 2, 1)) (none))
 (cond (Nat.beq pc 15) (some (.invokevirtual 16, 3)) (none))))))
 (cond (Nat.blt pc 25)
 (cond (Nat.blt pc 23)
 (cond (Nat.blt pc 21)
 (cond (Nat.beq pc 18) (some (.ifCond .ne 24, 3)) (none))
 (cond (Nat.beq pc 21) (some (.iconst (-1000000), 2)) (none)))
 (cond (Nat.blt pc 24)
 (cond (Nat.beq pc 23) (some (.ireturn, 1)) (none))
 (cond (Nat.beq pc 24) (some (.aload 0, 1)) (none))))
 (cond (Nat.blt pc 27)
 (cond (Nat.blt pc 26)
 (cond (Nat.beq pc 25) (some (.iload 1, 1)) (none))
 (cond (Nat.beq pc 26) (some (.iload 2, 1)) (none)))
 (cond (Nat.blt pc 28)
 (cond (Nat.beq pc 27) (some (.iconst 0, 1)) (none))
 (cond (Nat.blt pc 31)
 (cond (Nat.beq pc 28) (some (.invokevirtual 102, 3)) (none))
 (cond (Nat.beq pc 31) (some (.ireturn, 1)) (none))))))
-- AlwaysThere.keep(I)I
noncomputable def qc_90 (pc : Nat) : Option (Instr × Nat) := cond (Nat.blt pc 17)
 (cond (Nat.blt pc 9)
 (cond (Nat.blt pc 4)
 (cond (Nat.blt pc 1)
 (cond (Nat.beq pc 0) (some (.iload 1, 1)) (none))
 (cond (Nat.beq pc 1) (some (.ifCond .lt 9, 3)) (none)))
 (cond (Nat.blt pc 5)
 (cond (Nat.beq pc 4) (some (.iload 1, 1)) (none))
 (cond (Nat.blt pc 6)
 (cond (Nat.beq pc 5) (some (.iconst 2, 1)) (none))
 (cond (Nat.beq pc 6) (some (.if_icmp .lt 11, 3)) (none)))))
 (cond (Nat.blt pc 12)
 (cond (Nat.blt pc 10)
 (cond (Nat.beq pc 9) (some (.iconst (-1), 1)) (none))
 (cond (Nat.blt pc 11)
 (cond (Nat.beq pc 10) (some (.ireturn, 1)) (none))
 (cond (Nat.beq pc 11) (some (.aload 0, 1)) (none))))
 (cond (Nat.blt pc 13)
 (cond (Nat.beq pc 12) (some (.iload 1, 1)) (none))
 (cond (Nat.blt pc 16)
 (cond (Nat.beq pc 13) (some (.invokevirtual 94, 3)) (none))
 (cond (Nat.beq pc 16) (some (.astore 2, 1)) (none))))))
 (cond (Nat.blt pc 26)
 (cond (Nat.blt pc 19)
 (cond (Nat.blt pc 18)
 (cond (Nat.beq pc 17) (some (.aload 2, 1)) (none))
 (cond (Nat.beq pc 18) (some (.aload 0, 1)) (none)))
 (cond (Nat.blt pc 22)
 (cond (Nat.beq pc 19) (some (.getfield 702, 3)) (none))
 (cond (Nat.blt pc 25)
 (cond (Nat.beq pc 22) (some (.invokevirtual 28, 3)) (none))
 (cond (Nat.beq pc 25) (some (.aload 2, 1)) (none)))))
 (cond (Nat.blt pc 31)
 (cond (Nat.blt pc 27)
 (cond (Nat.beq pc 26) (some (.iconst 1, 1)) (none))
 (cond (Nat.blt pc 30)
 (cond (Nat.beq pc 27) (some (.putfield 300, 3)) (none))
 (cond (Nat.beq pc 30) (some (.aload 0, 1)) (none))))
 (cond (Nat.blt pc 34)
 (cond (Nat.beq pc 31) (some (.getfield 702, 3)) (none))
 (cond (Nat.blt pc 37)
 (cond (Nat.beq pc 34) (some (.getfield 301, 3)) (none))
 (cond (Nat.beq pc 37) (some (.ireturn, 1)) (none))))))
-- AlwaysThere.back(I)I
noncomputable def qc_91 (pc : Nat) : Option (Instr × Nat) := cond (Nat.blt pc 31)
 (cond (Nat.blt pc 13)
 (cond (Nat.blt pc 6)
 (cond (Nat.blt pc 4)
 (cond (Nat.blt pc 1)
 (cond (Nat.beq pc 0) (some (.iload 1, 1)) (none))
 (cond (Nat.beq pc 1) (some (.ifCond .lt 9, 3)) (none)))
 (cond (Nat.blt pc 5)
 (cond (Nat.beq pc 4) (some (.iload 1, 1)) (none))
 (cond (Nat.beq pc 5) (some (.iconst 2, 1)) (none))))
 (cond (Nat.blt pc 10)
 (cond (Nat.blt pc 9)
 (cond (Nat.beq pc 6) (some (.if_icmp .lt 11, 3)) (none))
 (cond (Nat.beq pc 9) (some (.iconst (-1), 1)) (none)))
 (cond (Nat.blt pc 11)
 (cond (Nat.beq pc 10) (some (.ireturn, 1)) (none))
 (cond (Nat.blt pc 12)
 (cond (Nat.beq pc 11) (some (.aload 0, 1)) (none))
 (cond (Nat.beq pc 12) (some (.iload 1, 1)) (none))))))
 (cond (Nat.blt pc 21)
 (cond (Nat.blt pc 17)
 (cond (Nat.blt pc 16)
 (cond (Nat.beq pc 13) (some (.invokevirtual 94, 3)) (none))
 (cond (Nat.beq pc 16) (some (.astore 2, 1)) (none)))
 (cond (Nat.blt pc 18)
 (cond (Nat.beq pc 17) (some (.aload 2, 1)) (none))
 (cond (Nat.beq pc 18) (some (.getfield 300, 3)) (none))))
 (cond (Nat.blt pc 26)
 (cond (Nat.blt pc 24)
 (cond (Nat.beq pc 21) (some (.ifCond .ne 27, 3)) (none))
 (cond (Nat.beq pc 24) (some (.iconst (-2), 2)) (none)))
 (cond (Nat.blt pc 27)
 (cond (Nat.beq pc 26) (some (.ireturn, 1)) (none))
 (cond (Nat.blt pc 28)
 (cond (Nat.beq pc 27) (some (.aload 0, 1)) (none))
 (cond (Nat.beq pc 28) (some (.getfield 702, 3)) (none)))))))
 (cond (Nat.blt pc 48)
 (cond (Nat.blt pc 39)
 (cond (Nat.blt pc 35)
 (cond (Nat.blt pc 32)
 (cond (Nat.beq pc 31) (some (.aload 2, 1)) (none))
 (cond (Nat.beq pc 32) (some (.invokevirtual 28, 3)) (none)))
 (cond (Nat.blt pc 36)
 (cond (Nat.beq pc 35) (some (.aload 0, 1)) (none))
 (cond (Nat.beq pc 36) (some (.getfield 705, 3)) (none))))
 (cond (Nat.blt pc 43)
 (cond (Nat.blt pc 40)
 (cond (Nat.beq pc 39) (some (.iconst 0, 1)) (none))
 (cond (Nat.beq pc 40) (some (.putfield 100, 3)) (none)))
 (cond (Nat.blt pc 44)
 (cond (Nat.beq pc 43) (some (.aload 0, 1)) (none))
 (cond (Nat.blt pc 47)
 (cond (Nat.beq pc 44) (some (.getfield 706, 3)) (none))
 (cond (Nat.beq pc 47) (some (.aload 0, 1)) (none))))))
 (cond (Nat.blt pc 58)
 (cond (Nat.blt pc 52)
 (cond (Nat.blt pc 51)
 (cond (Nat.beq pc 48) (some (.getfield 701, 3)) (none))
 (cond (Nat.beq pc 51) (some (.aload 0, 1)) (none)))
 (cond (Nat.blt pc 55)
 (cond (Nat.beq pc 52) (some (.getfield 702, 3)) (none))
 (cond (Nat.beq pc 55) (some (.getfield 306, 3)) (none))))
 (cond (Nat.blt pc 62)
 (cond (Nat.blt pc 61)
 (cond (Nat.beq pc 58) (some (.invokevirtual 55, 3)) (none))
 (cond (Nat.beq pc 61) (some (.aload 0, 1)) (none)))
 (cond (Nat.blt pc 65)
 (cond (Nat.beq pc 62) (some (.getfield 702, 3)) (none))
 (cond (Nat.blt pc 68)
 (cond (Nat.beq pc 65) (some (.getfield 301, 3)) (none))
 (cond (Nat.beq pc 68) (some (.ireturn, 1)) (none)))))))
-- AlwaysThere.count(I)I
noncomputable def qc_92 (pc : Nat) : Option (Instr × Nat) := cond (Nat.blt pc 80)
 (cond (Nat.blt pc 63)
 (cond (Nat.blt pc 52)
 (cond (Nat.blt pc 48)
 (cond (Nat.blt pc 1)
 (cond (Nat.beq pc 0) (some (.iload 1, 1)) (none))
 (cond (Nat.beq pc 1) (some (.tableswitch 112 0 7 #[48, 56, 64, 72, 80, 88, 96, 104], 47)) (none)))
 (cond (Nat.blt pc 49)
 (cond (Nat.beq pc 48) (some (.aload 0, 1)) (none))
 (cond (Nat.beq pc 49) (some (.getfield 701, 3)) (none))))
 (cond (Nat.blt pc 56)
 (cond (Nat.blt pc 55)
 (cond (Nat.beq pc 52) (some (.getfield 200, 3)) (none))
 (cond (Nat.beq pc 55) (some (.ireturn, 1)) (none)))
 (cond (Nat.blt pc 57)
 (cond (Nat.beq pc 56) (some (.aload 0, 1)) (none))
 (cond (Nat.blt pc 60)
 (cond (Nat.beq pc 57) (some (.getfield 701, 3)) (none))
 (cond (Nat.beq pc 60) (some (.getfield 201, 3)) (none))))))
 (cond (Nat.blt pc 71)
 (cond (Nat.blt pc 65)
 (cond (Nat.blt pc 64)
 (cond (Nat.beq pc 63) (some (.ireturn, 1)) (none))
 (cond (Nat.beq pc 64) (some (.aload 0, 1)) (none)))
 (cond (Nat.blt pc 68)
 (cond (Nat.beq pc 65) (some (.getfield 701, 3)) (none))
 (cond (Nat.beq pc 68) (some (.getfield 202, 3)) (none))))
 (cond (Nat.blt pc 73)
 (cond (Nat.blt pc 72)
 (cond (Nat.beq pc 71) (some (.ireturn, 1)) (none))
 (cond (Nat.beq pc 72) (some (.aload 0, 1)) (none)))
 (cond (Nat.blt pc 76)
 (cond (Nat.beq pc 73) (some (.getfield 702, 3)) (none))
 (cond (Nat.blt pc 79)
 (cond (Nat.beq pc 76) (some (.getfield 301, 3)) (none))
 (cond (Nat.beq pc 79) (some (.ireturn, 1)) (none)))))))
 (cond (Nat.blt pc 97)
 (cond (Nat.blt pc 88)
 (cond (Nat.blt pc 84)
 (cond (Nat.blt pc 81)
 (cond (Nat.beq pc 80) (some (.aload 0, 1)) (none))
 (cond (Nat.beq pc 81) (some (.getfield 700, 3)) (none)))
 (cond (Nat.blt pc 87)
 (cond (Nat.beq pc 84) (some (.getfield 401, 3)) (none))
 (cond (Nat.beq pc 87) (some (.ireturn, 1)) (none))))
 (cond (Nat.blt pc 92)
 (cond (Nat.blt pc 89)
 (cond (Nat.beq pc 88) (some (.aload 0, 1)) (none))
 (cond (Nat.beq pc 89) (some (.getfield 701, 3)) (none)))
 (cond (Nat.blt pc 95)
 (cond (Nat.beq pc 92) (some (.getfield 203, 3)) (none))
 (cond (Nat.blt pc 96)
 (cond (Nat.beq pc 95) (some (.ireturn, 1)) (none))
 (cond (Nat.beq pc 96) (some (.aload 0, 1)) (none))))))
 (cond (Nat.blt pc 105)
 (cond (Nat.blt pc 103)
 (cond (Nat.blt pc 100)
 (cond (Nat.beq pc 97) (some (.getfield 701, 3)) (none))
 (cond (Nat.beq pc 100) (some (.getfield 204, 3)) (none)))
 (cond (Nat.blt pc 104)
 (cond (Nat.beq pc 103) (some (.ireturn, 1)) (none))
 (cond (Nat.beq pc 104) (some (.aload 0, 1)) (none))))
 (cond (Nat.blt pc 111)
 (cond (Nat.blt pc 108)
 (cond (Nat.beq pc 105) (some (.getfield 701, 3)) (none))
 (cond (Nat.beq pc 108) (some (.getfield 205, 3)) (none)))
 (cond (Nat.blt pc 112)
 (cond (Nat.beq pc 111) (some (.ireturn, 1)) (none))
 (cond (Nat.blt pc 113)
 (cond (Nat.beq pc 112) (some (.iconst (-1), 1)) (none))
 (cond (Nat.beq pc 113) (some (.ireturn, 1)) (none)))))))
-- AlwaysThere.trace()J
noncomputable def qc_93 (pc : Nat) : Option (Instr × Nat) := cond (Nat.blt pc 1)
 (cond (Nat.beq pc 0) (some (.aload 0, 1)) (none))
 (cond (Nat.blt pc 4)
 (cond (Nat.beq pc 1) (some (.getfield 709, 3)) (none))
 (cond (Nat.beq pc 4) (some (.lreturn, 1)) (none)))
-- AlwaysThere.imageOf(I)LAlwaysThere$Now;
noncomputable def qc_94 (pc : Nat) : Option (Instr × Nat) := cond (Nat.blt pc 8)
 (cond (Nat.blt pc 4)
 (cond (Nat.blt pc 1)
 (cond (Nat.beq pc 0) (some (.iload 1, 1)) (none))
 (cond (Nat.beq pc 1) (some (.ifCond .ne 11, 3)) (none)))
 (cond (Nat.blt pc 5)
 (cond (Nat.beq pc 4) (some (.aload 0, 1)) (none))
 (cond (Nat.beq pc 5) (some (.getfield 703, 3)) (none))))
 (cond (Nat.blt pc 12)
 (cond (Nat.blt pc 11)
 (cond (Nat.beq pc 8) (some (.goto 15, 3)) (none))
 (cond (Nat.beq pc 11) (some (.aload 0, 1)) (none)))
 (cond (Nat.blt pc 15)
 (cond (Nat.beq pc 12) (some (.getfield 704, 3)) (none))
 (cond (Nat.beq pc 15) (some (.areturn, 1)) (none))))
-- AlwaysThere.meetingAt(I)I
noncomputable def qc_95 (pc : Nat) : Option (Instr × Nat) := cond (Nat.blt pc 14)
 (cond (Nat.blt pc 6)
 (cond (Nat.blt pc 4)
 (cond (Nat.blt pc 1)
 (cond (Nat.beq pc 0) (some (.aload 0, 1)) (none))
 (cond (Nat.beq pc 1) (some (.getfield 702, 3)) (none)))
 (cond (Nat.blt pc 5)
 (cond (Nat.beq pc 4) (some (.iconst 1, 1)) (none))
 (cond (Nat.beq pc 5) (some (.aload 0, 1)) (none))))
 (cond (Nat.blt pc 12)
 (cond (Nat.blt pc 9)
 (cond (Nat.beq pc 6) (some (.getfield 706, 3)) (none))
 (cond (Nat.beq pc 9) (some (.getfield 501, 3)) (none)))
 (cond (Nat.blt pc 13)
 (cond (Nat.beq pc 12) (some (.iload 1, 1)) (none))
 (cond (Nat.beq pc 13) (some (.iaload, 1)) (none)))))
 (cond (Nat.blt pc 22)
 (cond (Nat.blt pc 16)
 (cond (Nat.blt pc 15)
 (cond (Nat.beq pc 14) (some (.ishl, 1)) (none))
 (cond (Nat.beq pc 15) (some (.aload 0, 1)) (none)))
 (cond (Nat.blt pc 19)
 (cond (Nat.beq pc 16) (some (.getfield 706, 3)) (none))
 (cond (Nat.beq pc 19) (some (.getfield 502, 3)) (none))))
 (cond (Nat.blt pc 24)
 (cond (Nat.blt pc 23)
 (cond (Nat.beq pc 22) (some (.iload 1, 1)) (none))
 (cond (Nat.beq pc 23) (some (.iaload, 1)) (none)))
 (cond (Nat.blt pc 27)
 (cond (Nat.beq pc 24) (some (.invokevirtual 32, 3)) (none))
 (cond (Nat.beq pc 27) (some (.ireturn, 1)) (none)))))
-- AlwaysThere.inViewAt(I)I
noncomputable def qc_96 (pc : Nat) : Option (Instr × Nat) := cond (Nat.blt pc 22)
 (cond (Nat.blt pc 10)
 (cond (Nat.blt pc 7)
 (cond (Nat.blt pc 1)
 (cond (Nat.beq pc 0) (some (.aload 0, 1)) (none))
 (cond (Nat.blt pc 4)
 (cond (Nat.beq pc 1) (some (.getfield 706, 3)) (none))
 (cond (Nat.beq pc 4) (some (.getfield 501, 3)) (none))))
 (cond (Nat.blt pc 8)
 (cond (Nat.beq pc 7) (some (.iload 1, 1)) (none))
 (cond (Nat.blt pc 9)
 (cond (Nat.beq pc 8) (some (.iaload, 1)) (none))
 (cond (Nat.beq pc 9) (some (.istore 2, 1)) (none)))))
 (cond (Nat.blt pc 15)
 (cond (Nat.blt pc 11)
 (cond (Nat.beq pc 10) (some (.aload 0, 1)) (none))
 (cond (Nat.blt pc 14)
 (cond (Nat.beq pc 11) (some (.getfield 702, 3)) (none))
 (cond (Nat.beq pc 14) (some (.aload 0, 1)) (none))))
 (cond (Nat.blt pc 18)
 (cond (Nat.beq pc 15) (some (.getfield 701, 3)) (none))
 (cond (Nat.blt pc 21)
 (cond (Nat.beq pc 18) (some (.getfield 208, 3)) (none))
 (cond (Nat.beq pc 21) (some (.iload 2, 1)) (none))))))
 (cond (Nat.blt pc 28)
 (cond (Nat.blt pc 25)
 (cond (Nat.blt pc 23)
 (cond (Nat.beq pc 22) (some (.iaload, 1)) (none))
 (cond (Nat.blt pc 24)
 (cond (Nat.beq pc 23) (some (.iconst 1, 1)) (none))
 (cond (Nat.beq pc 24) (some (.iload 2, 1)) (none))))
 (cond (Nat.blt pc 26)
 (cond (Nat.beq pc 25) (some (.ishl, 1)) (none))
 (cond (Nat.blt pc 27)
 (cond (Nat.beq pc 26) (some (.ior, 1)) (none))
 (cond (Nat.beq pc 27) (some (.aload 0, 1)) (none)))))
 (cond (Nat.blt pc 35)
 (cond (Nat.blt pc 31)
 (cond (Nat.beq pc 28) (some (.getfield 706, 3)) (none))
 (cond (Nat.blt pc 34)
 (cond (Nat.beq pc 31) (some (.getfield 502, 3)) (none))
 (cond (Nat.beq pc 34) (some (.iload 1, 1)) (none))))
 (cond (Nat.blt pc 36)
 (cond (Nat.beq pc 35) (some (.iaload, 1)) (none))
 (cond (Nat.blt pc 39)
 (cond (Nat.beq pc 36) (some (.invokevirtual 32, 3)) (none))
 (cond (Nat.beq pc 39) (some (.ireturn, 1)) (none))))))
-- AlwaysThere.firstEmpty()I
noncomputable def qc_97 (pc : Nat) : Option (Instr × Nat) := cond (Nat.blt pc 14)
 (cond (Nat.blt pc 4)
 (cond (Nat.blt pc 2)
 (cond (Nat.blt pc 1)
 (cond (Nat.beq pc 0) (some (.iconst 0, 1)) (none))
 (cond (Nat.beq pc 1) (some (.istore 1, 1)) (none)))
 (cond (Nat.blt pc 3)
 (cond (Nat.beq pc 2) (some (.iload 1, 1)) (none))
 (cond (Nat.beq pc 3) (some (.aload 0, 1)) (none))))
 (cond (Nat.blt pc 10)
 (cond (Nat.blt pc 7)
 (cond (Nat.beq pc 4) (some (.getfield 706, 3)) (none))
 (cond (Nat.beq pc 7) (some (.getfield 500, 3)) (none)))
 (cond (Nat.blt pc 13)
 (cond (Nat.beq pc 10) (some (.if_icmp .ge 29, 3)) (none))
 (cond (Nat.beq pc 13) (some (.aload 0, 1)) (none)))))
 (cond (Nat.blt pc 22)
 (cond (Nat.blt pc 18)
 (cond (Nat.blt pc 15)
 (cond (Nat.beq pc 14) (some (.iload 1, 1)) (none))
 (cond (Nat.beq pc 15) (some (.invokevirtual 95, 3)) (none)))
 (cond (Nat.blt pc 21)
 (cond (Nat.beq pc 18) (some (.ifCond .ne 23, 3)) (none))
 (cond (Nat.beq pc 21) (some (.iload 1, 1)) (none))))
 (cond (Nat.blt pc 26)
 (cond (Nat.blt pc 23)
 (cond (Nat.beq pc 22) (some (.ireturn, 1)) (none))
 (cond (Nat.beq pc 23) (some (.iinc 1 1, 3)) (none)))
 (cond (Nat.blt pc 29)
 (cond (Nat.beq pc 26) (some (.goto 2, 3)) (none))
 (cond (Nat.blt pc 31)
 (cond (Nat.beq pc 29) (some (.iconst (-9), 2)) (none))
 (cond (Nat.beq pc 31) (some (.ireturn, 1)) (none))))))
-- AlwaysThere.firstDouble()I
noncomputable def qc_98 (pc : Nat) : Option (Instr × Nat) := cond (Nat.blt pc 15)
 (cond (Nat.blt pc 4)
 (cond (Nat.blt pc 2)
 (cond (Nat.blt pc 1)
 (cond (Nat.beq pc 0) (some (.iconst 0, 1)) (none))
 (cond (Nat.beq pc 1) (some (.istore 1, 1)) (none)))
 (cond (Nat.blt pc 3)
 (cond (Nat.beq pc 2) (some (.iload 1, 1)) (none))
 (cond (Nat.beq pc 3) (some (.aload 0, 1)) (none))))
 (cond (Nat.blt pc 10)
 (cond (Nat.blt pc 7)
 (cond (Nat.beq pc 4) (some (.getfield 706, 3)) (none))
 (cond (Nat.beq pc 7) (some (.getfield 500, 3)) (none)))
 (cond (Nat.blt pc 13)
 (cond (Nat.beq pc 10) (some (.if_icmp .ge 33, 3)) (none))
 (cond (Nat.blt pc 14)
 (cond (Nat.beq pc 13) (some (.aload 0, 1)) (none))
 (cond (Nat.beq pc 14) (some (.iload 1, 1)) (none))))))
 (cond (Nat.blt pc 26)
 (cond (Nat.blt pc 21)
 (cond (Nat.blt pc 18)
 (cond (Nat.beq pc 15) (some (.invokevirtual 96, 3)) (none))
 (cond (Nat.beq pc 18) (some (.invokestatic 168, 3)) (none)))
 (cond (Nat.blt pc 22)
 (cond (Nat.beq pc 21) (some (.iconst 2, 1)) (none))
 (cond (Nat.blt pc 25)
 (cond (Nat.beq pc 22) (some (.if_icmp .lt 27, 3)) (none))
 (cond (Nat.beq pc 25) (some (.iload 1, 1)) (none)))))
 (cond (Nat.blt pc 30)
 (cond (Nat.blt pc 27)
 (cond (Nat.beq pc 26) (some (.ireturn, 1)) (none))
 (cond (Nat.beq pc 27) (some (.iinc 1 1, 3)) (none)))
 (cond (Nat.blt pc 33)
 (cond (Nat.beq pc 30) (some (.goto 2, 3)) (none))
 (cond (Nat.blt pc 35)
 (cond (Nat.beq pc 33) (some (.iconst (-9), 2)) (none))
 (cond (Nat.beq pc 35) (some (.ireturn, 1)) (none))))))
-- AlwaysThere.sittingInVain()I
noncomputable def qc_99 (pc : Nat) : Option (Instr × Nat) := cond (Nat.blt pc 21)
 (cond (Nat.blt pc 9)
 (cond (Nat.blt pc 4)
 (cond (Nat.blt pc 1)
 (cond (Nat.beq pc 0) (some (.aload 0, 1)) (none))
 (cond (Nat.beq pc 1) (some (.getfield 702, 3)) (none)))
 (cond (Nat.blt pc 7)
 (cond (Nat.beq pc 4) (some (.invokevirtual 33, 3)) (none))
 (cond (Nat.blt pc 8)
 (cond (Nat.beq pc 7) (some (.istore 1, 1)) (none))
 (cond (Nat.beq pc 8) (some (.iconst 0, 1)) (none)))))
 (cond (Nat.blt pc 12)
 (cond (Nat.blt pc 10)
 (cond (Nat.beq pc 9) (some (.istore 2, 1)) (none))
 (cond (Nat.blt pc 11)
 (cond (Nat.beq pc 10) (some (.iload 2, 1)) (none))
 (cond (Nat.beq pc 11) (some (.aload 0, 1)) (none))))
 (cond (Nat.blt pc 15)
 (cond (Nat.beq pc 12) (some (.getfield 706, 3)) (none))
 (cond (Nat.blt pc 18)
 (cond (Nat.beq pc 15) (some (.getfield 500, 3)) (none))
 (cond (Nat.beq pc 18) (some (.if_icmp .ge 37, 3)) (none))))))
 (cond (Nat.blt pc 29)
 (cond (Nat.blt pc 24)
 (cond (Nat.blt pc 22)
 (cond (Nat.beq pc 21) (some (.iload 1, 1)) (none))
 (cond (Nat.blt pc 23)
 (cond (Nat.beq pc 22) (some (.aload 0, 1)) (none))
 (cond (Nat.beq pc 23) (some (.iload 2, 1)) (none))))
 (cond (Nat.blt pc 27)
 (cond (Nat.beq pc 24) (some (.invokevirtual 95, 3)) (none))
 (cond (Nat.blt pc 28)
 (cond (Nat.beq pc 27) (some (.iconst (-1), 1)) (none))
 (cond (Nat.beq pc 28) (some (.ixor, 1)) (none)))))
 (cond (Nat.blt pc 34)
 (cond (Nat.blt pc 30)
 (cond (Nat.beq pc 29) (some (.iand, 1)) (none))
 (cond (Nat.blt pc 31)
 (cond (Nat.beq pc 30) (some (.istore 1, 1)) (none))
 (cond (Nat.beq pc 31) (some (.iinc 2 1, 3)) (none))))
 (cond (Nat.blt pc 37)
 (cond (Nat.beq pc 34) (some (.goto 10, 3)) (none))
 (cond (Nat.blt pc 38)
 (cond (Nat.beq pc 37) (some (.iload 1, 1)) (none))
 (cond (Nat.beq pc 38) (some (.ireturn, 1)) (none))))))
-- AlwaysThere.couldSit(IIII)Z
noncomputable def qc_100 (pc : Nat) : Option (Instr × Nat) := cond (Nat.blt pc 36)
 (cond (Nat.blt pc 19)
 (cond (Nat.blt pc 6)
 (cond (Nat.blt pc 3)
 (cond (Nat.blt pc 1)
 (cond (Nat.beq pc 0) (some (.iconst 0, 1)) (none))
 (cond (Nat.beq pc 1) (some (.istore 5, 2)) (none)))
 (cond (Nat.blt pc 5)
 (cond (Nat.beq pc 3) (some (.iload 5, 2)) (none))
 (cond (Nat.beq pc 5) (some (.aload 0, 1)) (none))))
 (cond (Nat.blt pc 12)
 (cond (Nat.blt pc 9)
 (cond (Nat.beq pc 6) (some (.getfield 702, 3)) (none))
 (cond (Nat.beq pc 9) (some (.getfield 301, 3)) (none)))
 (cond (Nat.blt pc 15)
 (cond (Nat.beq pc 12) (some (.if_icmp .ge 70, 3)) (none))
 (cond (Nat.blt pc 16)
 (cond (Nat.beq pc 15) (some (.aload 0, 1)) (none))
 (cond (Nat.beq pc 16) (some (.getfield 702, 3)) (none))))))
 (cond (Nat.blt pc 26)
 (cond (Nat.blt pc 24)
 (cond (Nat.blt pc 22)
 (cond (Nat.beq pc 19) (some (.getfield 302, 3)) (none))
 (cond (Nat.beq pc 22) (some (.iload 5, 2)) (none)))
 (cond (Nat.blt pc 25)
 (cond (Nat.beq pc 24) (some (.iaload, 1)) (none))
 (cond (Nat.beq pc 25) (some (.iload 1, 1)) (none))))
 (cond (Nat.blt pc 30)
 (cond (Nat.blt pc 29)
 (cond (Nat.beq pc 26) (some (.if_icmp .ne 64, 3)) (none))
 (cond (Nat.beq pc 29) (some (.aload 0, 1)) (none)))
 (cond (Nat.blt pc 33)
 (cond (Nat.beq pc 30) (some (.getfield 702, 3)) (none))
 (cond (Nat.blt pc 35)
 (cond (Nat.beq pc 33) (some (.iload 5, 2)) (none))
 (cond (Nat.beq pc 35) (some (.aload 0, 1)) (none)))))))
 (cond (Nat.blt pc 54)
 (cond (Nat.blt pc 46)
 (cond (Nat.blt pc 40)
 (cond (Nat.blt pc 39)
 (cond (Nat.beq pc 36) (some (.getfield 701, 3)) (none))
 (cond (Nat.beq pc 39) (some (.aload 0, 1)) (none)))
 (cond (Nat.blt pc 43)
 (cond (Nat.beq pc 40) (some (.getfield 702, 3)) (none))
 (cond (Nat.beq pc 43) (some (.getfield 303, 3)) (none))))
 (cond (Nat.blt pc 49)
 (cond (Nat.blt pc 48)
 (cond (Nat.beq pc 46) (some (.iload 5, 2)) (none))
 (cond (Nat.beq pc 48) (some (.iaload, 1)) (none)))
 (cond (Nat.blt pc 50)
 (cond (Nat.beq pc 49) (some (.iload 2, 1)) (none))
 (cond (Nat.blt pc 53)
 (cond (Nat.beq pc 50) (some (.invokevirtual 21, 3)) (none))
 (cond (Nat.beq pc 53) (some (.iload 3, 1)) (none))))))
 (cond (Nat.blt pc 63)
 (cond (Nat.blt pc 59)
 (cond (Nat.blt pc 56)
 (cond (Nat.beq pc 54) (some (.iload 4, 2)) (none))
 (cond (Nat.beq pc 56) (some (.invokevirtual 31, 3)) (none)))
 (cond (Nat.blt pc 62)
 (cond (Nat.beq pc 59) (some (.ifCond .ne 64, 3)) (none))
 (cond (Nat.beq pc 62) (some (.iconst 0, 1)) (none))))
 (cond (Nat.blt pc 67)
 (cond (Nat.blt pc 64)
 (cond (Nat.beq pc 63) (some (.freturn, 1)) (none))
 (cond (Nat.beq pc 64) (some (.iinc 5 1, 3)) (none)))
 (cond (Nat.blt pc 70)
 (cond (Nat.beq pc 67) (some (.goto 3, 3)) (none))
 (cond (Nat.blt pc 71)
 (cond (Nat.beq pc 70) (some (.iconst 1, 1)) (none))
 (cond (Nat.beq pc 71) (some (.freturn, 1)) (none)))))))
-- AlwaysThere.greatestShared(II)I
noncomputable def qc_101 (pc : Nat) : Option (Instr × Nat) := cond (Nat.blt pc 13)
 (cond (Nat.blt pc 4)
 (cond (Nat.blt pc 2)
 (cond (Nat.blt pc 1)
 (cond (Nat.beq pc 0) (some (.iload 1, 1)) (none))
 (cond (Nat.beq pc 1) (some (.istore 2, 1)) (none)))
 (cond (Nat.blt pc 3)
 (cond (Nat.beq pc 2) (some (.iload 2, 1)) (none))
 (cond (Nat.beq pc 3) (some (.iconst 1, 1)) (none))))
 (cond (Nat.blt pc 8)
 (cond (Nat.blt pc 7)
 (cond (Nat.beq pc 4) (some (.if_icmp .le 27, 3)) (none))
 (cond (Nat.beq pc 7) (some (.iload 0, 1)) (none)))
 (cond (Nat.blt pc 9)
 (cond (Nat.beq pc 8) (some (.iload 2, 1)) (none))
 (cond (Nat.blt pc 10)
 (cond (Nat.beq pc 9) (some (.irem, 1)) (none))
 (cond (Nat.beq pc 10) (some (.ifCond .ne 21, 3)) (none))))))
 (cond (Nat.blt pc 20)
 (cond (Nat.blt pc 15)
 (cond (Nat.blt pc 14)
 (cond (Nat.beq pc 13) (some (.iload 1, 1)) (none))
 (cond (Nat.beq pc 14) (some (.iload 2, 1)) (none)))
 (cond (Nat.blt pc 16)
 (cond (Nat.beq pc 15) (some (.irem, 1)) (none))
 (cond (Nat.blt pc 19)
 (cond (Nat.beq pc 16) (some (.ifCond .ne 21, 3)) (none))
 (cond (Nat.beq pc 19) (some (.iload 2, 1)) (none)))))
 (cond (Nat.blt pc 24)
 (cond (Nat.blt pc 21)
 (cond (Nat.beq pc 20) (some (.ireturn, 1)) (none))
 (cond (Nat.beq pc 21) (some (.iinc 2 (-1), 3)) (none)))
 (cond (Nat.blt pc 27)
 (cond (Nat.beq pc 24) (some (.goto 2, 3)) (none))
 (cond (Nat.blt pc 28)
 (cond (Nat.beq pc 27) (some (.iconst 1, 1)) (none))
 (cond (Nat.beq pc 28) (some (.ireturn, 1)) (none))))))
-- AlwaysThere.rateAs(III)I
noncomputable def qc_102 (pc : Nat) : Option (Instr × Nat) := cond (Nat.blt pc 87)
 (cond (Nat.blt pc 28)
 (cond (Nat.blt pc 16)
 (cond (Nat.blt pc 7)
 (cond (Nat.blt pc 4)
 (cond (Nat.blt pc 1)
 (cond (Nat.beq pc 0) (some (.iload 1, 1)) (none))
 (cond (Nat.beq pc 1) (some (.ifCond .lt 16, 3)) (none)))
 (cond (Nat.blt pc 5)
 (cond (Nat.beq pc 4) (some (.iload 1, 1)) (none))
 (cond (Nat.beq pc 5) (some (.iconst 6, 2)) (none))))
 (cond (Nat.blt pc 11)
 (cond (Nat.blt pc 10)
 (cond (Nat.beq pc 7) (some (.if_icmp .ge 16, 3)) (none))
 (cond (Nat.beq pc 10) (some (.iload 3, 1)) (none)))
 (cond (Nat.blt pc 13)
 (cond (Nat.beq pc 11) (some (.iconst 6, 2)) (none))
 (cond (Nat.beq pc 13) (some (.if_icmp .lt 18, 3)) (none)))))
 (cond (Nat.blt pc 20)
 (cond (Nat.blt pc 18)
 (cond (Nat.blt pc 17)
 (cond (Nat.beq pc 16) (some (.iconst 0, 1)) (none))
 (cond (Nat.beq pc 17) (some (.ireturn, 1)) (none)))
 (cond (Nat.blt pc 19)
 (cond (Nat.beq pc 18) (some (.aload 0, 1)) (none))
 (cond (Nat.beq pc 19) (some (.dup, 1)) (none))))
 (cond (Nat.blt pc 26)
 (cond (Nat.blt pc 23)
 (cond (Nat.beq pc 20) (some (.getfield 709, 3)) (none))
 (cond (Nat.beq pc 23) (some (.getstatic 1001, 3)) (none)))
 (cond (Nat.blt pc 27)
 (cond (Nat.beq pc 26) (some (.iload 1, 1)) (none))
 (cond (Nat.beq pc 27) (some (.iaload, 1)) (none))))))
 (cond (Nat.blt pc 40)
 (cond (Nat.blt pc 34)
 (cond (Nat.blt pc 30)
 (cond (Nat.blt pc 29)
 (cond (Nat.beq pc 28) (some (.i2l, 1)) (none))
 (cond (Nat.beq pc 29) (some (.ladd, 1)) (none)))
 (cond (Nat.blt pc 33)
 (cond (Nat.beq pc 30) (some (.putfield 709, 3)) (none))
 (cond (Nat.beq pc 33) (some (.aload 0, 1)) (none))))
 (cond (Nat.blt pc 38)
 (cond (Nat.blt pc 37)
 (cond (Nat.beq pc 34) (some (.getstatic 1002, 3)) (none))
 (cond (Nat.beq pc 37) (some (.iload 1, 1)) (none)))
 (cond (Nat.blt pc 39)
 (cond (Nat.beq pc 38) (some (.iaload, 1)) (none))
 (cond (Nat.beq pc 39) (some (.iload 2, 1)) (none)))))
 (cond (Nat.blt pc 46)
 (cond (Nat.blt pc 42)
 (cond (Nat.blt pc 41)
 (cond (Nat.beq pc 40) (some (.iload 3, 1)) (none))
 (cond (Nat.beq pc 41) (some (.iconst 1, 1)) (none)))
 (cond (Nat.blt pc 43)
 (cond (Nat.beq pc 42) (some (.iadd, 1)) (none))
 (cond (Nat.beq pc 43) (some (.invokevirtual 102, 3)) (none))))
 (cond (Nat.blt pc 49)
 (cond (Nat.blt pc 48)
 (cond (Nat.beq pc 46) (some (.istore 4, 2)) (none))
 (cond (Nat.beq pc 48) (some (.iload 1, 1)) (none)))
 (cond (Nat.blt pc 84)
 (cond (Nat.beq pc 49) (some (.tableswitch 129 1 5 #[84, 96, 108, 113, 118], 35)) (none))
 (cond (Nat.blt pc 86)
 (cond (Nat.beq pc 84) (some (.iload 4, 2)) (none))
 (cond (Nat.beq pc 86) (some (.aload 0, 1)) (none))))))))
 (cond (Nat.blt pc 113)
 (cond (Nat.blt pc 102)
 (cond (Nat.blt pc 95)
 (cond (Nat.blt pc 91)
 (cond (Nat.blt pc 90)
 (cond (Nat.beq pc 87) (some (.getfield 702, 3)) (none))
 (cond (Nat.beq pc 90) (some (.iload 2, 1)) (none)))
 (cond (Nat.blt pc 94)
 (cond (Nat.beq pc 91) (some (.invokevirtual 34, 3)) (none))
 (cond (Nat.beq pc 94) (some (.iadd, 1)) (none))))
 (cond (Nat.blt pc 98)
 (cond (Nat.blt pc 96)
 (cond (Nat.beq pc 95) (some (.ireturn, 1)) (none))
 (cond (Nat.beq pc 96) (some (.iload 4, 2)) (none)))
 (cond (Nat.blt pc 99)
 (cond (Nat.beq pc 98) (some (.aload 0, 1)) (none))
 (cond (Nat.beq pc 99) (some (.getfield 701, 3)) (none)))))
 (cond (Nat.blt pc 108)
 (cond (Nat.blt pc 106)
 (cond (Nat.blt pc 103)
 (cond (Nat.beq pc 102) (some (.iload 2, 1)) (none))
 (cond (Nat.beq pc 103) (some (.invokevirtual 23, 3)) (none)))
 (cond (Nat.blt pc 107)
 (cond (Nat.beq pc 106) (some (.isub, 1)) (none))
 (cond (Nat.beq pc 107) (some (.ireturn, 1)) (none))))
 (cond (Nat.blt pc 111)
 (cond (Nat.blt pc 109)
 (cond (Nat.beq pc 108) (some (.iconst 2, 1)) (none))
 (cond (Nat.beq pc 109) (some (.iload 4, 2)) (none)))
 (cond (Nat.blt pc 112)
 (cond (Nat.beq pc 111) (some (.imul, 1)) (none))
 (cond (Nat.beq pc 112) (some (.ireturn, 1)) (none))))))
 (cond (Nat.blt pc 127)
 (cond (Nat.blt pc 118)
 (cond (Nat.blt pc 116)
 (cond (Nat.blt pc 115)
 (cond (Nat.beq pc 113) (some (.iload 4, 2)) (none))
 (cond (Nat.beq pc 115) (some (.iload 2, 1)) (none)))
 (cond (Nat.blt pc 117)
 (cond (Nat.beq pc 116) (some (.iadd, 1)) (none))
 (cond (Nat.beq pc 117) (some (.ireturn, 1)) (none))))
 (cond (Nat.blt pc 121)
 (cond (Nat.blt pc 120)
 (cond (Nat.beq pc 118) (some (.iload 4, 2)) (none))
 (cond (Nat.beq pc 120) (some (.aload 0, 1)) (none)))
 (cond (Nat.blt pc 124)
 (cond (Nat.beq pc 121) (some (.getfield 706, 3)) (none))
 (cond (Nat.beq pc 124) (some (.getfield 500, 3)) (none)))))
 (cond (Nat.blt pc 133)
 (cond (Nat.blt pc 129)
 (cond (Nat.blt pc 128)
 (cond (Nat.beq pc 127) (some (.iadd, 1)) (none))
 (cond (Nat.beq pc 128) (some (.ireturn, 1)) (none)))
 (cond (Nat.blt pc 130)
 (cond (Nat.beq pc 129) (some (.aload 0, 1)) (none))
 (cond (Nat.beq pc 130) (some (.getfield 701, 3)) (none))))
 (cond (Nat.blt pc 137)
 (cond (Nat.blt pc 136)
 (cond (Nat.beq pc 133) (some (.getfield 209, 3)) (none))
 (cond (Nat.beq pc 136) (some (.iload 2, 1)) (none)))
 (cond (Nat.blt pc 138)
 (cond (Nat.beq pc 137) (some (.iaload, 1)) (none))
 (cond (Nat.blt pc 141)
 (cond (Nat.beq pc 138) (some (.invokestatic 168, 3)) (none))
 (cond (Nat.beq pc 141) (some (.ireturn, 1)) (none))))))))
-- AlwaysThereModel.<init>()V
noncomputable def qc_103 (pc : Nat) : Option (Instr × Nat) := cond (Nat.blt pc 62)
 (cond (Nat.blt pc 30)
 (cond (Nat.blt pc 14)
 (cond (Nat.blt pc 5)
 (cond (Nat.blt pc 1)
 (cond (Nat.beq pc 0) (some (.aload 0, 1)) (none))
 (cond (Nat.blt pc 4)
 (cond (Nat.beq pc 1) (some (.invokespecial 901, 3)) (none))
 (cond (Nat.beq pc 4) (some (.aload 0, 1)) (none))))
 (cond (Nat.blt pc 10)
 (cond (Nat.blt pc 8)
 (cond (Nat.beq pc 5) (some (.iconst 200, 3)) (none))
 (cond (Nat.beq pc 8) (some (.newarray .int, 2)) (none)))
 (cond (Nat.blt pc 13)
 (cond (Nat.beq pc 10) (some (.putfield 801, 3)) (none))
 (cond (Nat.beq pc 13) (some (.aload 0, 1)) (none)))))
 (cond (Nat.blt pc 22)
 (cond (Nat.blt pc 18)
 (cond (Nat.blt pc 16)
 (cond (Nat.beq pc 14) (some (.iconst 93, 2)) (none))
 (cond (Nat.beq pc 16) (some (.newarray .int, 2)) (none)))
 (cond (Nat.blt pc 21)
 (cond (Nat.beq pc 18) (some (.putfield 803, 3)) (none))
 (cond (Nat.beq pc 21) (some (.aload 0, 1)) (none))))
 (cond (Nat.blt pc 26)
 (cond (Nat.blt pc 24)
 (cond (Nat.beq pc 22) (some (.iconst 93, 2)) (none))
 (cond (Nat.beq pc 24) (some (.newarray .int, 2)) (none)))
 (cond (Nat.blt pc 29)
 (cond (Nat.beq pc 26) (some (.putfield 804, 3)) (none))
 (cond (Nat.beq pc 29) (some (.aload 0, 1)) (none))))))
 (cond (Nat.blt pc 46)
 (cond (Nat.blt pc 37)
 (cond (Nat.blt pc 32)
 (cond (Nat.beq pc 30) (some (.iconst 65, 2)) (none))
 (cond (Nat.blt pc 34)
 (cond (Nat.beq pc 32) (some (.newarray .int, 2)) (none))
 (cond (Nat.beq pc 34) (some (.putfield 805, 3)) (none))))
 (cond (Nat.blt pc 41)
 (cond (Nat.blt pc 38)
 (cond (Nat.beq pc 37) (some (.aload 0, 1)) (none))
 (cond (Nat.beq pc 38) (some (.iconst 780, 3)) (none)))
 (cond (Nat.blt pc 43)
 (cond (Nat.beq pc 41) (some (.newarray .int, 2)) (none))
 (cond (Nat.beq pc 43) (some (.putfield 806, 3)) (none)))))
 (cond (Nat.blt pc 55)
 (cond (Nat.blt pc 50)
 (cond (Nat.blt pc 47)
 (cond (Nat.beq pc 46) (some (.aload 0, 1)) (none))
 (cond (Nat.beq pc 47) (some (.iconst 130, 3)) (none)))
 (cond (Nat.blt pc 52)
 (cond (Nat.beq pc 50) (some (.newarray .int, 2)) (none))
 (cond (Nat.beq pc 52) (some (.putfield 808, 3)) (none))))
 (cond (Nat.blt pc 57)
 (cond (Nat.blt pc 56)
 (cond (Nat.beq pc 55) (some (.aload 0, 1)) (none))
 (cond (Nat.beq pc 56) (some (.iconst 2, 1)) (none)))
 (cond (Nat.blt pc 59)
 (cond (Nat.beq pc 57) (some (.newarray .boolean, 2)) (none))
 (cond (Nat.beq pc 59) (some (.putfield 809, 3)) (none)))))))
 (cond (Nat.blt pc 91)
 (cond (Nat.blt pc 75)
 (cond (Nat.blt pc 67)
 (cond (Nat.blt pc 63)
 (cond (Nat.beq pc 62) (some (.aload 0, 1)) (none))
 (cond (Nat.blt pc 65)
 (cond (Nat.beq pc 63) (some (.iconst 64, 2)) (none))
 (cond (Nat.beq pc 65) (some (.newarray .int, 2)) (none))))
 (cond (Nat.blt pc 71)
 (cond (Nat.blt pc 70)
 (cond (Nat.beq pc 67) (some (.putfield 810, 3)) (none))
 (cond (Nat.beq pc 70) (some (.aload 0, 1)) (none)))
 (cond (Nat.blt pc 73)
 (cond (Nat.beq pc 71) (some (.iconst 8, 2)) (none))
 (cond (Nat.beq pc 73) (some (.newarray .int, 2)) (none)))))
 (cond (Nat.blt pc 83)
 (cond (Nat.blt pc 79)
 (cond (Nat.blt pc 78)
 (cond (Nat.beq pc 75) (some (.putfield 815, 3)) (none))
 (cond (Nat.beq pc 78) (some (.aload 0, 1)) (none)))
 (cond (Nat.blt pc 81)
 (cond (Nat.beq pc 79) (some (.iconst 8, 2)) (none))
 (cond (Nat.beq pc 81) (some (.newarray .int, 2)) (none))))
 (cond (Nat.blt pc 87)
 (cond (Nat.blt pc 86)
 (cond (Nat.beq pc 83) (some (.putfield 816, 3)) (none))
 (cond (Nat.beq pc 86) (some (.aload 0, 1)) (none)))
 (cond (Nat.blt pc 89)
 (cond (Nat.beq pc 87) (some (.iconst 8, 2)) (none))
 (cond (Nat.beq pc 89) (some (.newarray .int, 2)) (none))))))
 (cond (Nat.blt pc 105)
 (cond (Nat.blt pc 97)
 (cond (Nat.blt pc 94)
 (cond (Nat.beq pc 91) (some (.putfield 818, 3)) (none))
 (cond (Nat.blt pc 95)
 (cond (Nat.beq pc 94) (some (.aload 0, 1)) (none))
 (cond (Nat.beq pc 95) (some (.iconst 8, 2)) (none))))
 (cond (Nat.blt pc 102)
 (cond (Nat.blt pc 99)
 (cond (Nat.beq pc 97) (some (.newarray .int, 2)) (none))
 (cond (Nat.beq pc 99) (some (.putfield 819, 3)) (none)))
 (cond (Nat.blt pc 103)
 (cond (Nat.beq pc 102) (some (.aload 0, 1)) (none))
 (cond (Nat.beq pc 103) (some (.iconst 8, 2)) (none)))))
 (cond (Nat.blt pc 114)
 (cond (Nat.blt pc 110)
 (cond (Nat.blt pc 107)
 (cond (Nat.beq pc 105) (some (.newarray .int, 2)) (none))
 (cond (Nat.beq pc 107) (some (.putfield 820, 3)) (none)))
 (cond (Nat.blt pc 111)
 (cond (Nat.beq pc 110) (some (.aload 0, 1)) (none))
 (cond (Nat.beq pc 111) (some (.invokevirtual 123, 3)) (none))))
 (cond (Nat.blt pc 116)
 (cond (Nat.blt pc 115)
 (cond (Nat.beq pc 114) (some (.pop, 1)) (none))
 (cond (Nat.beq pc 115) (some (.aload 0, 1)) (none)))
 (cond (Nat.blt pc 119)
 (cond (Nat.beq pc 116) (some (.invokevirtual 124, 3)) (none))
 (cond (Nat.beq pc 119) (some (.return_, 1)) (none)))))))
-- AlwaysThereModel.in(III)Z
noncomputable def qc_104 (pc : Nat) : Option (Instr × Nat) := cond (Nat.blt pc 7)
 (cond (Nat.blt pc 2)
 (cond (Nat.blt pc 1)
 (cond (Nat.beq pc 0) (some (.iload 0, 1)) (none))
 (cond (Nat.beq pc 1) (some (.iload 1, 1)) (none)))
 (cond (Nat.blt pc 5)
 (cond (Nat.beq pc 2) (some (.if_icmp .lt 14, 3)) (none))
 (cond (Nat.blt pc 6)
 (cond (Nat.beq pc 5) (some (.iload 0, 1)) (none))
 (cond (Nat.beq pc 6) (some (.iload 2, 1)) (none)))))
 (cond (Nat.blt pc 11)
 (cond (Nat.blt pc 10)
 (cond (Nat.beq pc 7) (some (.if_icmp .gt 14, 3)) (none))
 (cond (Nat.beq pc 10) (some (.iconst 1, 1)) (none)))
 (cond (Nat.blt pc 14)
 (cond (Nat.beq pc 11) (some (.goto 15, 3)) (none))
 (cond (Nat.blt pc 15)
 (cond (Nat.beq pc 14) (some (.iconst 0, 1)) (none))
 (cond (Nat.beq pc 15) (some (.freturn, 1)) (none)))))
-- AlwaysThereModel.isPlace(I)Z
noncomputable def qc_105 (pc : Nat) : Option (Instr × Nat) := cond (Nat.blt pc 7)
 (cond (Nat.blt pc 2)
 (cond (Nat.blt pc 1)
 (cond (Nat.beq pc 0) (some (.iload 1, 1)) (none))
 (cond (Nat.beq pc 1) (some (.iconst 0, 1)) (none)))
 (cond (Nat.blt pc 3)
 (cond (Nat.beq pc 2) (some (.aload 0, 1)) (none))
 (cond (Nat.blt pc 6)
 (cond (Nat.beq pc 3) (some (.getfield 803, 3)) (none))
 (cond (Nat.beq pc 6) (some (.iconst 0, 1)) (none)))))
 (cond (Nat.blt pc 9)
 (cond (Nat.blt pc 8)
 (cond (Nat.beq pc 7) (some (.iaload, 1)) (none))
 (cond (Nat.beq pc 8) (some (.iconst 1, 1)) (none)))
 (cond (Nat.blt pc 10)
 (cond (Nat.beq pc 9) (some (.isub, 1)) (none))
 (cond (Nat.blt pc 13)
 (cond (Nat.beq pc 10) (some (.invokestatic 104, 3)) (none))
 (cond (Nat.beq pc 13) (some (.freturn, 1)) (none)))))
-- AlwaysThereModel.isHog(I)Z
noncomputable def qc_106 (pc : Nat) : Option (Instr × Nat) := cond (Nat.blt pc 7)
 (cond (Nat.blt pc 2)
 (cond (Nat.blt pc 1)
 (cond (Nat.beq pc 0) (some (.iload 1, 1)) (none))
 (cond (Nat.beq pc 1) (some (.iconst 0, 1)) (none)))
 (cond (Nat.blt pc 3)
 (cond (Nat.beq pc 2) (some (.aload 0, 1)) (none))
 (cond (Nat.blt pc 6)
 (cond (Nat.beq pc 3) (some (.getfield 803, 3)) (none))
 (cond (Nat.beq pc 6) (some (.iconst 1, 1)) (none)))))
 (cond (Nat.blt pc 9)
 (cond (Nat.blt pc 8)
 (cond (Nat.beq pc 7) (some (.iaload, 1)) (none))
 (cond (Nat.beq pc 8) (some (.iconst 1, 1)) (none)))
 (cond (Nat.blt pc 10)
 (cond (Nat.beq pc 9) (some (.isub, 1)) (none))
 (cond (Nat.blt pc 13)
 (cond (Nat.beq pc 10) (some (.invokestatic 104, 3)) (none))
 (cond (Nat.beq pc 13) (some (.freturn, 1)) (none)))))
-- AlwaysThereModel.isPoint(I)Z
noncomputable def qc_107 (pc : Nat) : Option (Instr × Nat) := cond (Nat.blt pc 7)
 (cond (Nat.blt pc 2)
 (cond (Nat.blt pc 1)
 (cond (Nat.beq pc 0) (some (.iload 1, 1)) (none))
 (cond (Nat.beq pc 1) (some (.iconst 0, 1)) (none)))
 (cond (Nat.blt pc 3)
 (cond (Nat.beq pc 2) (some (.aload 0, 1)) (none))
 (cond (Nat.blt pc 6)
 (cond (Nat.beq pc 3) (some (.getfield 803, 3)) (none))
 (cond (Nat.beq pc 6) (some (.iconst 2, 1)) (none)))))
 (cond (Nat.blt pc 9)
 (cond (Nat.blt pc 8)
 (cond (Nat.beq pc 7) (some (.iaload, 1)) (none))
 (cond (Nat.beq pc 8) (some (.iconst 1, 1)) (none)))
 (cond (Nat.blt pc 10)
 (cond (Nat.beq pc 9) (some (.isub, 1)) (none))
 (cond (Nat.blt pc 13)
 (cond (Nat.beq pc 10) (some (.invokestatic 104, 3)) (none))
 (cond (Nat.beq pc 13) (some (.freturn, 1)) (none)))))
-- AlwaysThereModel.type(I)I
noncomputable def qc_108 (pc : Nat) : Option (Instr × Nat) := cond (Nat.blt pc 27)
 (cond (Nat.blt pc 13)
 (cond (Nat.blt pc 5)
 (cond (Nat.blt pc 1)
 (cond (Nat.beq pc 0) (some (.iload 1, 1)) (none))
 (cond (Nat.blt pc 2)
 (cond (Nat.beq pc 1) (some (.iconst 0, 1)) (none))
 (cond (Nat.beq pc 2) (some (.iconst 255, 3)) (none))))
 (cond (Nat.blt pc 11)
 (cond (Nat.blt pc 8)
 (cond (Nat.beq pc 5) (some (.invokestatic 104, 3)) (none))
 (cond (Nat.beq pc 8) (some (.ifCond .ne 13, 3)) (none)))
 (cond (Nat.blt pc 12)
 (cond (Nat.beq pc 11) (some (.iconst (-1), 1)) (none))
 (cond (Nat.beq pc 12) (some (.ireturn, 1)) (none)))))
 (cond (Nat.blt pc 20)
 (cond (Nat.blt pc 14)
 (cond (Nat.beq pc 13) (some (.aload 0, 1)) (none))
 (cond (Nat.blt pc 17)
 (cond (Nat.beq pc 14) (some (.getfield 802, 3)) (none))
 (cond (Nat.beq pc 17) (some (.iconst 200, 3)) (none))))
 (cond (Nat.blt pc 25)
 (cond (Nat.blt pc 23)
 (cond (Nat.beq pc 20) (some (.if_icmp .ne 26, 3)) (none))
 (cond (Nat.beq pc 23) (some (.iconst (-3), 2)) (none)))
 (cond (Nat.blt pc 26)
 (cond (Nat.beq pc 25) (some (.ireturn, 1)) (none))
 (cond (Nat.beq pc 26) (some (.aload 0, 1)) (none))))))
 (cond (Nat.blt pc 38)
 (cond (Nat.blt pc 34)
 (cond (Nat.blt pc 30)
 (cond (Nat.beq pc 27) (some (.getfield 801, 3)) (none))
 (cond (Nat.blt pc 31)
 (cond (Nat.beq pc 30) (some (.aload 0, 1)) (none))
 (cond (Nat.beq pc 31) (some (.getfield 802, 3)) (none))))
 (cond (Nat.blt pc 36)
 (cond (Nat.blt pc 35)
 (cond (Nat.beq pc 34) (some (.iload 1, 1)) (none))
 (cond (Nat.beq pc 35) (some (.iastore, 1)) (none)))
 (cond (Nat.blt pc 37)
 (cond (Nat.beq pc 36) (some (.aload 0, 1)) (none))
 (cond (Nat.beq pc 37) (some (.dup, 1)) (none)))))
 (cond (Nat.blt pc 43)
 (cond (Nat.blt pc 41)
 (cond (Nat.beq pc 38) (some (.getfield 802, 3)) (none))
 (cond (Nat.blt pc 42)
 (cond (Nat.beq pc 41) (some (.iconst 1, 1)) (none))
 (cond (Nat.beq pc 42) (some (.iadd, 1)) (none))))
 (cond (Nat.blt pc 47)
 (cond (Nat.blt pc 46)
 (cond (Nat.beq pc 43) (some (.putfield 802, 3)) (none))
 (cond (Nat.beq pc 46) (some (.aload 0, 1)) (none)))
 (cond (Nat.blt pc 50)
 (cond (Nat.beq pc 47) (some (.getfield 802, 3)) (none))
 (cond (Nat.beq pc 50) (some (.ireturn, 1)) (none))))))
-- AlwaysThereModel.clear()I
noncomputable def qc_109 (pc : Nat) : Option (Instr × Nat) := cond (Nat.blt pc 6)
 (cond (Nat.blt pc 4)
 (cond (Nat.blt pc 1)
 (cond (Nat.beq pc 0) (some (.aload 0, 1)) (none))
 (cond (Nat.beq pc 1) (some (.getfield 802, 3)) (none)))
 (cond (Nat.blt pc 5)
 (cond (Nat.beq pc 4) (some (.istore 1, 1)) (none))
 (cond (Nat.beq pc 5) (some (.aload 0, 1)) (none))))
 (cond (Nat.blt pc 10)
 (cond (Nat.blt pc 7)
 (cond (Nat.beq pc 6) (some (.iconst 0, 1)) (none))
 (cond (Nat.beq pc 7) (some (.putfield 802, 3)) (none)))
 (cond (Nat.blt pc 11)
 (cond (Nat.beq pc 10) (some (.iload 1, 1)) (none))
 (cond (Nat.beq pc 11) (some (.ireturn, 1)) (none))))
-- AlwaysThereModel.letterAt(I)I
noncomputable def qc_110 (pc : Nat) : Option (Instr × Nat) := cond (Nat.blt pc 9)
 (cond (Nat.blt pc 2)
 (cond (Nat.blt pc 1)
 (cond (Nat.beq pc 0) (some (.iload 1, 1)) (none))
 (cond (Nat.beq pc 1) (some (.aload 0, 1)) (none)))
 (cond (Nat.blt pc 5)
 (cond (Nat.beq pc 2) (some (.getfield 802, 3)) (none))
 (cond (Nat.blt pc 8)
 (cond (Nat.beq pc 5) (some (.if_icmp .ge 17, 3)) (none))
 (cond (Nat.beq pc 8) (some (.aload 0, 1)) (none)))))
 (cond (Nat.blt pc 14)
 (cond (Nat.blt pc 12)
 (cond (Nat.beq pc 9) (some (.getfield 801, 3)) (none))
 (cond (Nat.blt pc 13)
 (cond (Nat.beq pc 12) (some (.iload 1, 1)) (none))
 (cond (Nat.beq pc 13) (some (.iaload, 1)) (none))))
 (cond (Nat.blt pc 17)
 (cond (Nat.beq pc 14) (some (.goto 18, 3)) (none))
 (cond (Nat.blt pc 18)
 (cond (Nat.beq pc 17) (some (.iconst (-1), 1)) (none))
 (cond (Nat.beq pc 18) (some (.ireturn, 1)) (none)))))
-- AlwaysThereModel.isLetter(I)Z
noncomputable def qc_111 (pc : Nat) : Option (Instr × Nat) := cond (Nat.blt pc 27)
 (cond (Nat.blt pc 13)
 (cond (Nat.blt pc 6)
 (cond (Nat.blt pc 1)
 (cond (Nat.beq pc 0) (some (.iload 0, 1)) (none))
 (cond (Nat.blt pc 3)
 (cond (Nat.beq pc 1) (some (.iconst 110, 2)) (none))
 (cond (Nat.beq pc 3) (some (.if_icmp .eq 48, 3)) (none))))
 (cond (Nat.blt pc 9)
 (cond (Nat.blt pc 7)
 (cond (Nat.beq pc 6) (some (.iload 0, 1)) (none))
 (cond (Nat.beq pc 7) (some (.iconst 102, 2)) (none)))
 (cond (Nat.blt pc 12)
 (cond (Nat.beq pc 9) (some (.if_icmp .eq 48, 3)) (none))
 (cond (Nat.beq pc 12) (some (.iload 0, 1)) (none)))))
 (cond (Nat.blt pc 19)
 (cond (Nat.blt pc 15)
 (cond (Nat.beq pc 13) (some (.iconst 118, 2)) (none))
 (cond (Nat.blt pc 18)
 (cond (Nat.beq pc 15) (some (.if_icmp .eq 48, 3)) (none))
 (cond (Nat.beq pc 18) (some (.iload 0, 1)) (none))))
 (cond (Nat.blt pc 24)
 (cond (Nat.blt pc 21)
 (cond (Nat.beq pc 19) (some (.iconst 104, 2)) (none))
 (cond (Nat.beq pc 21) (some (.if_icmp .eq 48, 3)) (none)))
 (cond (Nat.blt pc 25)
 (cond (Nat.beq pc 24) (some (.iload 0, 1)) (none))
 (cond (Nat.beq pc 25) (some (.iconst 115, 2)) (none))))))
 (cond (Nat.blt pc 42)
 (cond (Nat.blt pc 33)
 (cond (Nat.blt pc 30)
 (cond (Nat.beq pc 27) (some (.if_icmp .eq 48, 3)) (none))
 (cond (Nat.blt pc 31)
 (cond (Nat.beq pc 30) (some (.iload 0, 1)) (none))
 (cond (Nat.beq pc 31) (some (.iconst 116, 2)) (none))))
 (cond (Nat.blt pc 37)
 (cond (Nat.blt pc 36)
 (cond (Nat.beq pc 33) (some (.if_icmp .eq 48, 3)) (none))
 (cond (Nat.beq pc 36) (some (.iload 0, 1)) (none)))
 (cond (Nat.blt pc 39)
 (cond (Nat.beq pc 37) (some (.iconst 114, 2)) (none))
 (cond (Nat.beq pc 39) (some (.if_icmp .eq 48, 3)) (none)))))
 (cond (Nat.blt pc 48)
 (cond (Nat.blt pc 43)
 (cond (Nat.beq pc 42) (some (.iload 0, 1)) (none))
 (cond (Nat.blt pc 45)
 (cond (Nat.beq pc 43) (some (.iconst 99, 2)) (none))
 (cond (Nat.beq pc 45) (some (.if_icmp .ne 52, 3)) (none))))
 (cond (Nat.blt pc 52)
 (cond (Nat.blt pc 49)
 (cond (Nat.beq pc 48) (some (.iconst 1, 1)) (none))
 (cond (Nat.beq pc 49) (some (.goto 53, 3)) (none)))
 (cond (Nat.blt pc 53)
 (cond (Nat.beq pc 52) (some (.iconst 0, 1)) (none))
 (cond (Nat.beq pc 53) (some (.freturn, 1)) (none))))))
-- AlwaysThereModel.isDigit(I)Z
noncomputable def qc_112 (pc : Nat) : Option (Instr × Nat) := cond (Nat.blt pc 3)
 (cond (Nat.blt pc 1)
 (cond (Nat.beq pc 0) (some (.iload 0, 1)) (none))
 (cond (Nat.beq pc 1) (some (.iconst 48, 2)) (none)))
 (cond (Nat.blt pc 5)
 (cond (Nat.beq pc 3) (some (.iconst 57, 2)) (none))
 (cond (Nat.blt pc 8)
 (cond (Nat.beq pc 5) (some (.invokestatic 104, 3)) (none))
 (cond (Nat.beq pc 8) (some (.freturn, 1)) (none))))
-- AlwaysThereModel.token()V
noncomputable def qc_113 (pc : Nat) : Option (Instr × Nat) := cond (Nat.blt pc 111)
 (cond (Nat.blt pc 53)
 (cond (Nat.blt pc 27)
 (cond (Nat.blt pc 14)
 (cond (Nat.blt pc 5)
 (cond (Nat.blt pc 1)
 (cond (Nat.beq pc 0) (some (.aload 0, 1)) (none))
 (cond (Nat.blt pc 2)
 (cond (Nat.beq pc 1) (some (.aload 0, 1)) (none))
 (cond (Nat.beq pc 2) (some (.getfield 811, 3)) (none))))
 (cond (Nat.blt pc 10)
 (cond (Nat.blt pc 8)
 (cond (Nat.beq pc 5) (some (.invokevirtual 110, 3)) (none))
 (cond (Nat.beq pc 8) (some (.iconst 32, 2)) (none)))
 (cond (Nat.blt pc 13)
 (cond (Nat.beq pc 10) (some (.if_icmp .ne 26, 3)) (none))
 (cond (Nat.beq pc 13) (some (.aload 0, 1)) (none)))))
 (cond (Nat.blt pc 19)
 (cond (Nat.blt pc 15)
 (cond (Nat.beq pc 14) (some (.dup, 1)) (none))
 (cond (Nat.blt pc 18)
 (cond (Nat.beq pc 15) (some (.getfield 811, 3)) (none))
 (cond (Nat.beq pc 18) (some (.iconst 1, 1)) (none))))
 (cond (Nat.blt pc 23)
 (cond (Nat.blt pc 20)
 (cond (Nat.beq pc 19) (some (.iadd, 1)) (none))
 (cond (Nat.beq pc 20) (some (.putfield 811, 3)) (none)))
 (cond (Nat.blt pc 26)
 (cond (Nat.beq pc 23) (some (.goto 0, 3)) (none))
 (cond (Nat.beq pc 26) (some (.aload 0, 1)) (none))))))
 (cond (Nat.blt pc 42)
 (cond (Nat.blt pc 34)
 (cond (Nat.blt pc 28)
 (cond (Nat.beq pc 27) (some (.aload 0, 1)) (none))
 (cond (Nat.blt pc 31)
 (cond (Nat.beq pc 28) (some (.getfield 811, 3)) (none))
 (cond (Nat.beq pc 31) (some (.putfield 813, 3)) (none))))
 (cond (Nat.blt pc 36)
 (cond (Nat.blt pc 35)
 (cond (Nat.beq pc 34) (some (.aload 0, 1)) (none))
 (cond (Nat.beq pc 35) (some (.aload 0, 1)) (none)))
 (cond (Nat.blt pc 39)
 (cond (Nat.beq pc 36) (some (.getfield 811, 3)) (none))
 (cond (Nat.beq pc 39) (some (.invokevirtual 110, 3)) (none)))))
 (cond (Nat.blt pc 45)
 (cond (Nat.blt pc 43)
 (cond (Nat.beq pc 42) (some (.istore 1, 1)) (none))
 (cond (Nat.blt pc 44)
 (cond (Nat.beq pc 43) (some (.aload 0, 1)) (none))
 (cond (Nat.beq pc 44) (some (.iload 1, 1)) (none))))
 (cond (Nat.blt pc 49)
 (cond (Nat.blt pc 48)
 (cond (Nat.beq pc 45) (some (.ifCond .ge 52, 3)) (none))
 (cond (Nat.beq pc 48) (some (.iconst 0, 1)) (none)))
 (cond (Nat.blt pc 52)
 (cond (Nat.beq pc 49) (some (.goto 85, 3)) (none))
 (cond (Nat.beq pc 52) (some (.iload 1, 1)) (none)))))))
 (cond (Nat.blt pc 84)
 (cond (Nat.blt pc 70)
 (cond (Nat.blt pc 60)
 (cond (Nat.blt pc 56)
 (cond (Nat.beq pc 53) (some (.invokestatic 111, 3)) (none))
 (cond (Nat.blt pc 59)
 (cond (Nat.beq pc 56) (some (.ifCond .eq 63, 3)) (none))
 (cond (Nat.beq pc 59) (some (.iconst 1, 1)) (none))))
 (cond (Nat.blt pc 64)
 (cond (Nat.blt pc 63)
 (cond (Nat.beq pc 60) (some (.goto 85, 3)) (none))
 (cond (Nat.beq pc 63) (some (.iload 1, 1)) (none)))
 (cond (Nat.blt pc 67)
 (cond (Nat.beq pc 64) (some (.invokestatic 112, 3)) (none))
 (cond (Nat.beq pc 67) (some (.ifCond .eq 74, 3)) (none)))))
 (cond (Nat.blt pc 75)
 (cond (Nat.blt pc 71)
 (cond (Nat.beq pc 70) (some (.iconst 2, 1)) (none))
 (cond (Nat.blt pc 74)
 (cond (Nat.beq pc 71) (some (.goto 85, 3)) (none))
 (cond (Nat.beq pc 74) (some (.iload 1, 1)) (none))))
 (cond (Nat.blt pc 80)
 (cond (Nat.blt pc 77)
 (cond (Nat.beq pc 75) (some (.iconst 59, 2)) (none))
 (cond (Nat.beq pc 77) (some (.if_icmp .ne 84, 3)) (none)))
 (cond (Nat.blt pc 81)
 (cond (Nat.beq pc 80) (some (.iconst 3, 1)) (none))
 (cond (Nat.beq pc 81) (some (.goto 85, 3)) (none))))))
 (cond (Nat.blt pc 97)
 (cond (Nat.blt pc 89)
 (cond (Nat.blt pc 85)
 (cond (Nat.beq pc 84) (some (.iconst 4, 1)) (none))
 (cond (Nat.blt pc 88)
 (cond (Nat.beq pc 85) (some (.putfield 812, 3)) (none))
 (cond (Nat.beq pc 88) (some (.aload 0, 1)) (none))))
 (cond (Nat.blt pc 93)
 (cond (Nat.blt pc 90)
 (cond (Nat.beq pc 89) (some (.iload 1, 1)) (none))
 (cond (Nat.beq pc 90) (some (.putfield 814, 3)) (none)))
 (cond (Nat.blt pc 94)
 (cond (Nat.beq pc 93) (some (.aload 0, 1)) (none))
 (cond (Nat.beq pc 94) (some (.getfield 812, 3)) (none)))))
 (cond (Nat.blt pc 105)
 (cond (Nat.blt pc 101)
 (cond (Nat.blt pc 100)
 (cond (Nat.beq pc 97) (some (.ifCond .eq 110, 3)) (none))
 (cond (Nat.beq pc 100) (some (.aload 0, 1)) (none)))
 (cond (Nat.blt pc 102)
 (cond (Nat.beq pc 101) (some (.dup, 1)) (none))
 (cond (Nat.beq pc 102) (some (.getfield 811, 3)) (none))))
 (cond (Nat.blt pc 107)
 (cond (Nat.blt pc 106)
 (cond (Nat.beq pc 105) (some (.iconst 1, 1)) (none))
 (cond (Nat.beq pc 106) (some (.iadd, 1)) (none)))
 (cond (Nat.blt pc 110)
 (cond (Nat.beq pc 107) (some (.putfield 811, 3)) (none))
 (cond (Nat.beq pc 110) (some (.aload 0, 1)) (none))))))))
 (cond (Nat.blt pc 165)
 (cond (Nat.blt pc 136)
 (cond (Nat.blt pc 123)
 (cond (Nat.blt pc 118)
 (cond (Nat.blt pc 114)
 (cond (Nat.beq pc 111) (some (.getfield 812, 3)) (none))
 (cond (Nat.blt pc 115)
 (cond (Nat.beq pc 114) (some (.iconst 2, 1)) (none))
 (cond (Nat.beq pc 115) (some (.if_icmp .ne 216, 3)) (none))))
 (cond (Nat.blt pc 120)
 (cond (Nat.blt pc 119)
 (cond (Nat.beq pc 118) (some (.aload 0, 1)) (none))
 (cond (Nat.beq pc 119) (some (.iload 1, 1)) (none)))
 (cond (Nat.blt pc 122)
 (cond (Nat.beq pc 120) (some (.iconst 48, 2)) (none))
 (cond (Nat.beq pc 122) (some (.isub, 1)) (none)))))
 (cond (Nat.blt pc 128)
 (cond (Nat.blt pc 126)
 (cond (Nat.beq pc 123) (some (.putfield 814, 3)) (none))
 (cond (Nat.blt pc 127)
 (cond (Nat.beq pc 126) (some (.iconst 1, 1)) (none))
 (cond (Nat.beq pc 127) (some (.istore 2, 1)) (none))))
 (cond (Nat.blt pc 130)
 (cond (Nat.blt pc 129)
 (cond (Nat.beq pc 128) (some (.aload 0, 1)) (none))
 (cond (Nat.beq pc 129) (some (.aload 0, 1)) (none)))
 (cond (Nat.blt pc 133)
 (cond (Nat.beq pc 130) (some (.getfield 811, 3)) (none))
 (cond (Nat.beq pc 133) (some (.invokevirtual 110, 3)) (none))))))
 (cond (Nat.blt pc 152)
 (cond (Nat.blt pc 143)
 (cond (Nat.blt pc 139)
 (cond (Nat.beq pc 136) (some (.invokestatic 112, 3)) (none))
 (cond (Nat.blt pc 142)
 (cond (Nat.beq pc 139) (some (.ifCond .eq 216, 3)) (none))
 (cond (Nat.beq pc 142) (some (.iload 2, 1)) (none))))
 (cond (Nat.blt pc 147)
 (cond (Nat.blt pc 146)
 (cond (Nat.beq pc 143) (some (.ifCond .eq 169, 3)) (none))
 (cond (Nat.beq pc 146) (some (.iload 1, 1)) (none)))
 (cond (Nat.blt pc 149)
 (cond (Nat.beq pc 147) (some (.iconst 48, 2)) (none))
 (cond (Nat.beq pc 149) (some (.if_icmp .eq 169, 3)) (none)))))
 (cond (Nat.blt pc 157)
 (cond (Nat.blt pc 153)
 (cond (Nat.beq pc 152) (some (.aload 0, 1)) (none))
 (cond (Nat.blt pc 156)
 (cond (Nat.beq pc 153) (some (.getfield 811, 3)) (none))
 (cond (Nat.beq pc 156) (some (.aload 0, 1)) (none))))
 (cond (Nat.blt pc 161)
 (cond (Nat.blt pc 160)
 (cond (Nat.beq pc 157) (some (.getfield 813, 3)) (none))
 (cond (Nat.beq pc 160) (some (.isub, 1)) (none)))
 (cond (Nat.blt pc 162)
 (cond (Nat.beq pc 161) (some (.iconst 2, 1)) (none))
 (cond (Nat.beq pc 162) (some (.if_icmp .ge 169, 3)) (none)))))))
 (cond (Nat.blt pc 188)
 (cond (Nat.blt pc 176)
 (cond (Nat.blt pc 170)
 (cond (Nat.blt pc 166)
 (cond (Nat.beq pc 165) (some (.iconst 1, 1)) (none))
 (cond (Nat.blt pc 169)
 (cond (Nat.beq pc 166) (some (.goto 170, 3)) (none))
 (cond (Nat.beq pc 169) (some (.iconst 0, 1)) (none))))
 (cond (Nat.blt pc 172)
 (cond (Nat.blt pc 171)
 (cond (Nat.beq pc 170) (some (.istore 2, 1)) (none))
 (cond (Nat.beq pc 171) (some (.aload 0, 1)) (none)))
 (cond (Nat.blt pc 173)
 (cond (Nat.beq pc 172) (some (.iload 2, 1)) (none))
 (cond (Nat.beq pc 173) (some (.ifCond .eq 198, 3)) (none)))))
 (cond (Nat.blt pc 182)
 (cond (Nat.blt pc 178)
 (cond (Nat.beq pc 176) (some (.iconst 10, 2)) (none))
 (cond (Nat.blt pc 179)
 (cond (Nat.beq pc 178) (some (.aload 0, 1)) (none))
 (cond (Nat.beq pc 179) (some (.getfield 814, 3)) (none))))
 (cond (Nat.blt pc 184)
 (cond (Nat.blt pc 183)
 (cond (Nat.beq pc 182) (some (.imul, 1)) (none))
 (cond (Nat.beq pc 183) (some (.aload 0, 1)) (none)))
 (cond (Nat.blt pc 185)
 (cond (Nat.beq pc 184) (some (.aload 0, 1)) (none))
 (cond (Nat.beq pc 185) (some (.getfield 811, 3)) (none))))))
 (cond (Nat.blt pc 203)
 (cond (Nat.blt pc 194)
 (cond (Nat.blt pc 191)
 (cond (Nat.beq pc 188) (some (.invokevirtual 110, 3)) (none))
 (cond (Nat.blt pc 192)
 (cond (Nat.beq pc 191) (some (.iadd, 1)) (none))
 (cond (Nat.beq pc 192) (some (.iconst 48, 2)) (none))))
 (cond (Nat.blt pc 198)
 (cond (Nat.blt pc 195)
 (cond (Nat.beq pc 194) (some (.isub, 1)) (none))
 (cond (Nat.beq pc 195) (some (.goto 200, 3)) (none)))
 (cond (Nat.blt pc 200)
 (cond (Nat.beq pc 198) (some (.iconst 100, 2)) (none))
 (cond (Nat.beq pc 200) (some (.putfield 814, 3)) (none)))))
 (cond (Nat.blt pc 209)
 (cond (Nat.blt pc 205)
 (cond (Nat.blt pc 204)
 (cond (Nat.beq pc 203) (some (.aload 0, 1)) (none))
 (cond (Nat.beq pc 204) (some (.dup, 1)) (none)))
 (cond (Nat.blt pc 208)
 (cond (Nat.beq pc 205) (some (.getfield 811, 3)) (none))
 (cond (Nat.beq pc 208) (some (.iconst 1, 1)) (none))))
 (cond (Nat.blt pc 213)
 (cond (Nat.blt pc 210)
 (cond (Nat.beq pc 209) (some (.iadd, 1)) (none))
 (cond (Nat.beq pc 210) (some (.putfield 811, 3)) (none)))
 (cond (Nat.blt pc 216)
 (cond (Nat.beq pc 213) (some (.goto 128, 3)) (none))
 (cond (Nat.beq pc 216) (some (.return_, 1)) (none))))))))
-- AlwaysThereModel.isNumber(II)Z
noncomputable def qc_114 (pc : Nat) : Option (Instr × Nat) := cond (Nat.blt pc 13)
 (cond (Nat.blt pc 5)
 (cond (Nat.blt pc 1)
 (cond (Nat.beq pc 0) (some (.aload 0, 1)) (none))
 (cond (Nat.blt pc 4)
 (cond (Nat.beq pc 1) (some (.getfield 812, 3)) (none))
 (cond (Nat.beq pc 4) (some (.iconst 2, 1)) (none))))
 (cond (Nat.blt pc 9)
 (cond (Nat.blt pc 8)
 (cond (Nat.beq pc 5) (some (.if_icmp .ne 24, 3)) (none))
 (cond (Nat.beq pc 8) (some (.aload 0, 1)) (none)))
 (cond (Nat.blt pc 12)
 (cond (Nat.beq pc 9) (some (.getfield 814, 3)) (none))
 (cond (Nat.beq pc 12) (some (.iload 1, 1)) (none)))))
 (cond (Nat.blt pc 20)
 (cond (Nat.blt pc 14)
 (cond (Nat.beq pc 13) (some (.iload 2, 1)) (none))
 (cond (Nat.blt pc 17)
 (cond (Nat.beq pc 14) (some (.invokestatic 104, 3)) (none))
 (cond (Nat.beq pc 17) (some (.ifCond .eq 24, 3)) (none))))
 (cond (Nat.blt pc 24)
 (cond (Nat.blt pc 21)
 (cond (Nat.beq pc 20) (some (.iconst 1, 1)) (none))
 (cond (Nat.beq pc 21) (some (.goto 25, 3)) (none)))
 (cond (Nat.blt pc 25)
 (cond (Nat.beq pc 24) (some (.iconst 0, 1)) (none))
 (cond (Nat.beq pc 25) (some (.freturn, 1)) (none)))))
-- AlwaysThereModel.readsTwo()I
noncomputable def qc_115 (pc : Nat) : Option (Instr × Nat) := cond (Nat.blt pc 34)
 (cond (Nat.blt pc 16)
 (cond (Nat.blt pc 9)
 (cond (Nat.blt pc 4)
 (cond (Nat.blt pc 1)
 (cond (Nat.beq pc 0) (some (.aload 0, 1)) (none))
 (cond (Nat.beq pc 1) (some (.invokevirtual 113, 3)) (none)))
 (cond (Nat.blt pc 5)
 (cond (Nat.beq pc 4) (some (.aload 0, 1)) (none))
 (cond (Nat.blt pc 8)
 (cond (Nat.beq pc 5) (some (.getfield 814, 3)) (none))
 (cond (Nat.beq pc 8) (some (.istore 1, 1)) (none)))))
 (cond (Nat.blt pc 11)
 (cond (Nat.blt pc 10)
 (cond (Nat.beq pc 9) (some (.aload 0, 1)) (none))
 (cond (Nat.beq pc 10) (some (.iconst 0, 1)) (none)))
 (cond (Nat.blt pc 12)
 (cond (Nat.beq pc 11) (some (.aload 0, 1)) (none))
 (cond (Nat.blt pc 15)
 (cond (Nat.beq pc 12) (some (.getfield 804, 3)) (none))
 (cond (Nat.beq pc 15) (some (.iconst 0, 1)) (none))))))
 (cond (Nat.blt pc 25)
 (cond (Nat.blt pc 18)
 (cond (Nat.blt pc 17)
 (cond (Nat.beq pc 16) (some (.iaload, 1)) (none))
 (cond (Nat.beq pc 17) (some (.iconst 1, 1)) (none)))
 (cond (Nat.blt pc 19)
 (cond (Nat.beq pc 18) (some (.isub, 1)) (none))
 (cond (Nat.blt pc 22)
 (cond (Nat.beq pc 19) (some (.invokevirtual 114, 3)) (none))
 (cond (Nat.beq pc 22) (some (.ifCond .ne 28, 3)) (none)))))
 (cond (Nat.blt pc 29)
 (cond (Nat.blt pc 27)
 (cond (Nat.beq pc 25) (some (.iconst (-9), 2)) (none))
 (cond (Nat.blt pc 28)
 (cond (Nat.beq pc 27) (some (.ireturn, 1)) (none))
 (cond (Nat.beq pc 28) (some (.aload 0, 1)) (none))))
 (cond (Nat.blt pc 32)
 (cond (Nat.beq pc 29) (some (.invokevirtual 113, 3)) (none))
 (cond (Nat.blt pc 33)
 (cond (Nat.beq pc 32) (some (.aload 0, 1)) (none))
 (cond (Nat.beq pc 33) (some (.iconst 0, 1)) (none)))))))
 (cond (Nat.blt pc 52)
 (cond (Nat.blt pc 41)
 (cond (Nat.blt pc 38)
 (cond (Nat.blt pc 35)
 (cond (Nat.beq pc 34) (some (.aload 0, 1)) (none))
 (cond (Nat.beq pc 35) (some (.getfield 804, 3)) (none)))
 (cond (Nat.blt pc 39)
 (cond (Nat.beq pc 38) (some (.iconst 0, 1)) (none))
 (cond (Nat.blt pc 40)
 (cond (Nat.beq pc 39) (some (.iaload, 1)) (none))
 (cond (Nat.beq pc 40) (some (.iconst 1, 1)) (none)))))
 (cond (Nat.blt pc 45)
 (cond (Nat.blt pc 42)
 (cond (Nat.beq pc 41) (some (.isub, 1)) (none))
 (cond (Nat.beq pc 42) (some (.invokevirtual 114, 3)) (none)))
 (cond (Nat.blt pc 48)
 (cond (Nat.beq pc 45) (some (.ifCond .eq 68, 3)) (none))
 (cond (Nat.blt pc 49)
 (cond (Nat.beq pc 48) (some (.aload 0, 1)) (none))
 (cond (Nat.beq pc 49) (some (.getfield 814, 3)) (none))))))
 (cond (Nat.blt pc 60)
 (cond (Nat.blt pc 56)
 (cond (Nat.blt pc 53)
 (cond (Nat.beq pc 52) (some (.iload 1, 1)) (none))
 (cond (Nat.beq pc 53) (some (.if_icmp .eq 68, 3)) (none)))
 (cond (Nat.blt pc 58)
 (cond (Nat.beq pc 56) (some (.iconst 8, 2)) (none))
 (cond (Nat.blt pc 59)
 (cond (Nat.beq pc 58) (some (.iload 1, 1)) (none))
 (cond (Nat.beq pc 59) (some (.imul, 1)) (none)))))
 (cond (Nat.blt pc 65)
 (cond (Nat.blt pc 61)
 (cond (Nat.beq pc 60) (some (.aload 0, 1)) (none))
 (cond (Nat.blt pc 64)
 (cond (Nat.beq pc 61) (some (.getfield 814, 3)) (none))
 (cond (Nat.beq pc 64) (some (.iadd, 1)) (none))))
 (cond (Nat.blt pc 68)
 (cond (Nat.beq pc 65) (some (.goto 70, 3)) (none))
 (cond (Nat.blt pc 70)
 (cond (Nat.beq pc 68) (some (.iconst (-9), 2)) (none))
 (cond (Nat.beq pc 70) (some (.ireturn, 1)) (none)))))))
-- AlwaysThereModel.readsFurrow()Z
noncomputable def qc_116 (pc : Nat) : Option (Instr × Nat) := cond (Nat.blt pc 37)
 (cond (Nat.blt pc 18)
 (cond (Nat.blt pc 8)
 (cond (Nat.blt pc 4)
 (cond (Nat.blt pc 1)
 (cond (Nat.beq pc 0) (some (.aload 0, 1)) (none))
 (cond (Nat.beq pc 1) (some (.invokevirtual 115, 3)) (none)))
 (cond (Nat.blt pc 5)
 (cond (Nat.beq pc 4) (some (.istore 1, 1)) (none))
 (cond (Nat.blt pc 6)
 (cond (Nat.beq pc 5) (some (.iload 1, 1)) (none))
 (cond (Nat.beq pc 6) (some (.iconst (-9), 2)) (none)))))
 (cond (Nat.blt pc 13)
 (cond (Nat.blt pc 11)
 (cond (Nat.beq pc 8) (some (.if_icmp .ne 13, 3)) (none))
 (cond (Nat.blt pc 12)
 (cond (Nat.beq pc 11) (some (.iconst 0, 1)) (none))
 (cond (Nat.beq pc 12) (some (.freturn, 1)) (none))))
 (cond (Nat.blt pc 14)
 (cond (Nat.beq pc 13) (some (.aload 0, 1)) (none))
 (cond (Nat.blt pc 17)
 (cond (Nat.beq pc 14) (some (.invokevirtual 113, 3)) (none))
 (cond (Nat.beq pc 17) (some (.aload 0, 1)) (none))))))
 (cond (Nat.blt pc 28)
 (cond (Nat.blt pc 21)
 (cond (Nat.blt pc 19)
 (cond (Nat.beq pc 18) (some (.iconst 1, 1)) (none))
 (cond (Nat.beq pc 19) (some (.iconst 9, 2)) (none)))
 (cond (Nat.blt pc 24)
 (cond (Nat.beq pc 21) (some (.invokevirtual 114, 3)) (none))
 (cond (Nat.blt pc 27)
 (cond (Nat.beq pc 24) (some (.ifCond .ne 29, 3)) (none))
 (cond (Nat.beq pc 27) (some (.iconst 0, 1)) (none)))))
 (cond (Nat.blt pc 33)
 (cond (Nat.blt pc 29)
 (cond (Nat.beq pc 28) (some (.freturn, 1)) (none))
 (cond (Nat.blt pc 30)
 (cond (Nat.beq pc 29) (some (.aload 0, 1)) (none))
 (cond (Nat.beq pc 30) (some (.getfield 804, 3)) (none))))
 (cond (Nat.blt pc 35)
 (cond (Nat.beq pc 33) (some (.iconst 21, 2)) (none))
 (cond (Nat.blt pc 36)
 (cond (Nat.beq pc 35) (some (.iload 1, 1)) (none))
 (cond (Nat.beq pc 36) (some (.iadd, 1)) (none)))))))
 (cond (Nat.blt pc 55)
 (cond (Nat.blt pc 46)
 (cond (Nat.blt pc 41)
 (cond (Nat.blt pc 38)
 (cond (Nat.beq pc 37) (some (.aload 0, 1)) (none))
 (cond (Nat.beq pc 38) (some (.getfield 814, 3)) (none)))
 (cond (Nat.blt pc 42)
 (cond (Nat.beq pc 41) (some (.iastore, 1)) (none))
 (cond (Nat.blt pc 43)
 (cond (Nat.beq pc 42) (some (.aload 0, 1)) (none))
 (cond (Nat.beq pc 43) (some (.getfield 804, 3)) (none)))))
 (cond (Nat.blt pc 51)
 (cond (Nat.blt pc 48)
 (cond (Nat.beq pc 46) (some (.iconst 21, 2)) (none))
 (cond (Nat.blt pc 49)
 (cond (Nat.beq pc 48) (some (.iload 1, 1)) (none))
 (cond (Nat.beq pc 49) (some (.iconst 8, 2)) (none))))
 (cond (Nat.blt pc 52)
 (cond (Nat.beq pc 51) (some (.irem, 1)) (none))
 (cond (Nat.blt pc 54)
 (cond (Nat.beq pc 52) (some (.iconst 8, 2)) (none))
 (cond (Nat.beq pc 54) (some (.imul, 1)) (none))))))
 (cond (Nat.blt pc 62)
 (cond (Nat.blt pc 59)
 (cond (Nat.blt pc 56)
 (cond (Nat.beq pc 55) (some (.iadd, 1)) (none))
 (cond (Nat.blt pc 57)
 (cond (Nat.beq pc 56) (some (.iload 1, 1)) (none))
 (cond (Nat.beq pc 57) (some (.iconst 8, 2)) (none))))
 (cond (Nat.blt pc 60)
 (cond (Nat.beq pc 59) (some (.idiv, 1)) (none))
 (cond (Nat.blt pc 61)
 (cond (Nat.beq pc 60) (some (.iadd, 1)) (none))
 (cond (Nat.beq pc 61) (some (.aload 0, 1)) (none)))))
 (cond (Nat.blt pc 67)
 (cond (Nat.blt pc 65)
 (cond (Nat.beq pc 62) (some (.getfield 814, 3)) (none))
 (cond (Nat.blt pc 66)
 (cond (Nat.beq pc 65) (some (.iastore, 1)) (none))
 (cond (Nat.beq pc 66) (some (.aload 0, 1)) (none))))
 (cond (Nat.blt pc 70)
 (cond (Nat.beq pc 67) (some (.invokevirtual 113, 3)) (none))
 (cond (Nat.blt pc 71)
 (cond (Nat.beq pc 70) (some (.iconst 1, 1)) (none))
 (cond (Nat.beq pc 71) (some (.freturn, 1)) (none)))))))
-- AlwaysThereModel.readsSight()Z
noncomputable def qc_117 (pc : Nat) : Option (Instr × Nat) := cond (Nat.blt pc 32)
 (cond (Nat.blt pc 19)
 (cond (Nat.blt pc 8)
 (cond (Nat.blt pc 4)
 (cond (Nat.blt pc 1)
 (cond (Nat.beq pc 0) (some (.aload 0, 1)) (none))
 (cond (Nat.beq pc 1) (some (.invokevirtual 115, 3)) (none)))
 (cond (Nat.blt pc 5)
 (cond (Nat.beq pc 4) (some (.istore 1, 1)) (none))
 (cond (Nat.blt pc 6)
 (cond (Nat.beq pc 5) (some (.iload 1, 1)) (none))
 (cond (Nat.beq pc 6) (some (.iconst (-9), 2)) (none)))))
 (cond (Nat.blt pc 13)
 (cond (Nat.blt pc 11)
 (cond (Nat.beq pc 8) (some (.if_icmp .ne 13, 3)) (none))
 (cond (Nat.blt pc 12)
 (cond (Nat.beq pc 11) (some (.iconst 0, 1)) (none))
 (cond (Nat.beq pc 12) (some (.freturn, 1)) (none))))
 (cond (Nat.blt pc 14)
 (cond (Nat.beq pc 13) (some (.aload 0, 1)) (none))
 (cond (Nat.blt pc 17)
 (cond (Nat.beq pc 14) (some (.getfield 804, 3)) (none))
 (cond (Nat.beq pc 17) (some (.iconst 85, 2)) (none))))))
 (cond (Nat.blt pc 25)
 (cond (Nat.blt pc 22)
 (cond (Nat.blt pc 20)
 (cond (Nat.beq pc 19) (some (.iload 1, 1)) (none))
 (cond (Nat.beq pc 20) (some (.iconst 8, 2)) (none)))
 (cond (Nat.blt pc 23)
 (cond (Nat.beq pc 22) (some (.idiv, 1)) (none))
 (cond (Nat.blt pc 24)
 (cond (Nat.beq pc 23) (some (.iadd, 1)) (none))
 (cond (Nat.beq pc 24) (some (.dup2, 1)) (none)))))
 (cond (Nat.blt pc 28)
 (cond (Nat.blt pc 26)
 (cond (Nat.beq pc 25) (some (.iaload, 1)) (none))
 (cond (Nat.blt pc 27)
 (cond (Nat.beq pc 26) (some (.iconst 1, 1)) (none))
 (cond (Nat.beq pc 27) (some (.iload 1, 1)) (none))))
 (cond (Nat.blt pc 30)
 (cond (Nat.beq pc 28) (some (.iconst 8, 2)) (none))
 (cond (Nat.blt pc 31)
 (cond (Nat.beq pc 30) (some (.irem, 1)) (none))
 (cond (Nat.beq pc 31) (some (.ishl, 1)) (none)))))))
 (cond (Nat.blt pc 47)
 (cond (Nat.blt pc 40)
 (cond (Nat.blt pc 34)
 (cond (Nat.blt pc 33)
 (cond (Nat.beq pc 32) (some (.ior, 1)) (none))
 (cond (Nat.beq pc 33) (some (.iastore, 1)) (none)))
 (cond (Nat.blt pc 35)
 (cond (Nat.beq pc 34) (some (.aload 0, 1)) (none))
 (cond (Nat.blt pc 38)
 (cond (Nat.beq pc 35) (some (.getfield 804, 3)) (none))
 (cond (Nat.beq pc 38) (some (.iconst 85, 2)) (none)))))
 (cond (Nat.blt pc 44)
 (cond (Nat.blt pc 41)
 (cond (Nat.beq pc 40) (some (.iload 1, 1)) (none))
 (cond (Nat.blt pc 43)
 (cond (Nat.beq pc 41) (some (.iconst 8, 2)) (none))
 (cond (Nat.beq pc 43) (some (.irem, 1)) (none))))
 (cond (Nat.blt pc 45)
 (cond (Nat.beq pc 44) (some (.iadd, 1)) (none))
 (cond (Nat.blt pc 46)
 (cond (Nat.beq pc 45) (some (.dup2, 1)) (none))
 (cond (Nat.beq pc 46) (some (.iaload, 1)) (none))))))
 (cond (Nat.blt pc 53)
 (cond (Nat.blt pc 49)
 (cond (Nat.blt pc 48)
 (cond (Nat.beq pc 47) (some (.iconst 1, 1)) (none))
 (cond (Nat.beq pc 48) (some (.iload 1, 1)) (none)))
 (cond (Nat.blt pc 51)
 (cond (Nat.beq pc 49) (some (.iconst 8, 2)) (none))
 (cond (Nat.blt pc 52)
 (cond (Nat.beq pc 51) (some (.idiv, 1)) (none))
 (cond (Nat.beq pc 52) (some (.ishl, 1)) (none)))))
 (cond (Nat.blt pc 56)
 (cond (Nat.blt pc 54)
 (cond (Nat.beq pc 53) (some (.ior, 1)) (none))
 (cond (Nat.blt pc 55)
 (cond (Nat.beq pc 54) (some (.iastore, 1)) (none))
 (cond (Nat.beq pc 55) (some (.aload 0, 1)) (none))))
 (cond (Nat.blt pc 59)
 (cond (Nat.beq pc 56) (some (.invokevirtual 113, 3)) (none))
 (cond (Nat.blt pc 60)
 (cond (Nat.beq pc 59) (some (.iconst 1, 1)) (none))
 (cond (Nat.beq pc 60) (some (.freturn, 1)) (none)))))))
-- AlwaysThereModel.readsNumber(III)Z
noncomputable def qc_118 (pc : Nat) : Option (Instr × Nat) := cond (Nat.blt pc 15)
 (cond (Nat.blt pc 6)
 (cond (Nat.blt pc 4)
 (cond (Nat.blt pc 1)
 (cond (Nat.beq pc 0) (some (.aload 0, 1)) (none))
 (cond (Nat.beq pc 1) (some (.invokevirtual 113, 3)) (none)))
 (cond (Nat.blt pc 5)
 (cond (Nat.beq pc 4) (some (.aload 0, 1)) (none))
 (cond (Nat.beq pc 5) (some (.iload 2, 1)) (none))))
 (cond (Nat.blt pc 10)
 (cond (Nat.blt pc 7)
 (cond (Nat.beq pc 6) (some (.iload 3, 1)) (none))
 (cond (Nat.beq pc 7) (some (.invokevirtual 114, 3)) (none)))
 (cond (Nat.blt pc 13)
 (cond (Nat.beq pc 10) (some (.ifCond .ne 15, 3)) (none))
 (cond (Nat.blt pc 14)
 (cond (Nat.beq pc 13) (some (.iconst 0, 1)) (none))
 (cond (Nat.beq pc 14) (some (.freturn, 1)) (none))))))
 (cond (Nat.blt pc 24)
 (cond (Nat.blt pc 19)
 (cond (Nat.blt pc 16)
 (cond (Nat.beq pc 15) (some (.aload 0, 1)) (none))
 (cond (Nat.beq pc 16) (some (.getfield 804, 3)) (none)))
 (cond (Nat.blt pc 20)
 (cond (Nat.beq pc 19) (some (.iload 1, 1)) (none))
 (cond (Nat.blt pc 21)
 (cond (Nat.beq pc 20) (some (.aload 0, 1)) (none))
 (cond (Nat.beq pc 21) (some (.getfield 814, 3)) (none)))))
 (cond (Nat.blt pc 26)
 (cond (Nat.blt pc 25)
 (cond (Nat.beq pc 24) (some (.iastore, 1)) (none))
 (cond (Nat.beq pc 25) (some (.aload 0, 1)) (none)))
 (cond (Nat.blt pc 29)
 (cond (Nat.beq pc 26) (some (.invokevirtual 113, 3)) (none))
 (cond (Nat.blt pc 30)
 (cond (Nat.beq pc 29) (some (.iconst 1, 1)) (none))
 (cond (Nat.beq pc 30) (some (.freturn, 1)) (none))))))
-- AlwaysThereModel.readsHog()Z
noncomputable def qc_119 (pc : Nat) : Option (Instr × Nat) := cond (Nat.blt pc 21)
 (cond (Nat.blt pc 11)
 (cond (Nat.blt pc 5)
 (cond (Nat.blt pc 1)
 (cond (Nat.beq pc 0) (some (.aload 0, 1)) (none))
 (cond (Nat.blt pc 4)
 (cond (Nat.beq pc 1) (some (.getfield 804, 3)) (none))
 (cond (Nat.beq pc 4) (some (.iconst 1, 1)) (none))))
 (cond (Nat.blt pc 7)
 (cond (Nat.blt pc 6)
 (cond (Nat.beq pc 5) (some (.iaload, 1)) (none))
 (cond (Nat.beq pc 6) (some (.iconst 5, 1)) (none)))
 (cond (Nat.blt pc 10)
 (cond (Nat.beq pc 7) (some (.if_icmp .eq 29, 3)) (none))
 (cond (Nat.beq pc 10) (some (.aload 0, 1)) (none)))))
 (cond (Nat.blt pc 17)
 (cond (Nat.blt pc 13)
 (cond (Nat.beq pc 11) (some (.iconst 8, 2)) (none))
 (cond (Nat.blt pc 14)
 (cond (Nat.beq pc 13) (some (.aload 0, 1)) (none))
 (cond (Nat.beq pc 14) (some (.getfield 804, 3)) (none))))
 (cond (Nat.blt pc 19)
 (cond (Nat.blt pc 18)
 (cond (Nat.beq pc 17) (some (.iconst 1, 1)) (none))
 (cond (Nat.beq pc 18) (some (.iaload, 1)) (none)))
 (cond (Nat.blt pc 20)
 (cond (Nat.beq pc 19) (some (.iadd, 1)) (none))
 (cond (Nat.beq pc 20) (some (.iconst 0, 1)) (none))))))
 (cond (Nat.blt pc 35)
 (cond (Nat.blt pc 29)
 (cond (Nat.blt pc 23)
 (cond (Nat.beq pc 21) (some (.iconst 15, 2)) (none))
 (cond (Nat.blt pc 26)
 (cond (Nat.beq pc 23) (some (.invokevirtual 118, 3)) (none))
 (cond (Nat.beq pc 26) (some (.ifCond .ne 31, 3)) (none))))
 (cond (Nat.blt pc 31)
 (cond (Nat.blt pc 30)
 (cond (Nat.beq pc 29) (some (.iconst 0, 1)) (none))
 (cond (Nat.beq pc 30) (some (.freturn, 1)) (none)))
 (cond (Nat.blt pc 32)
 (cond (Nat.beq pc 31) (some (.aload 0, 1)) (none))
 (cond (Nat.beq pc 32) (some (.getfield 804, 3)) (none)))))
 (cond (Nat.blt pc 39)
 (cond (Nat.blt pc 37)
 (cond (Nat.blt pc 36)
 (cond (Nat.beq pc 35) (some (.iconst 1, 1)) (none))
 (cond (Nat.beq pc 36) (some (.dup2, 1)) (none)))
 (cond (Nat.blt pc 38)
 (cond (Nat.beq pc 37) (some (.iaload, 1)) (none))
 (cond (Nat.beq pc 38) (some (.iconst 1, 1)) (none))))
 (cond (Nat.blt pc 41)
 (cond (Nat.blt pc 40)
 (cond (Nat.beq pc 39) (some (.iadd, 1)) (none))
 (cond (Nat.beq pc 40) (some (.iastore, 1)) (none)))
 (cond (Nat.blt pc 42)
 (cond (Nat.beq pc 41) (some (.iconst 1, 1)) (none))
 (cond (Nat.beq pc 42) (some (.freturn, 1)) (none))))))
-- AlwaysThereModel.isOnce(I)Z
noncomputable def qc_120 (pc : Nat) : Option (Instr × Nat) := cond (Nat.blt pc 19)
 (cond (Nat.blt pc 9)
 (cond (Nat.blt pc 6)
 (cond (Nat.blt pc 1)
 (cond (Nat.beq pc 0) (some (.aload 0, 1)) (none))
 (cond (Nat.blt pc 4)
 (cond (Nat.beq pc 1) (some (.getfield 804, 3)) (none))
 (cond (Nat.beq pc 4) (some (.iconst 7, 2)) (none))))
 (cond (Nat.blt pc 7)
 (cond (Nat.beq pc 6) (some (.iaload, 1)) (none))
 (cond (Nat.blt pc 8)
 (cond (Nat.beq pc 7) (some (.iload 1, 1)) (none))
 (cond (Nat.beq pc 8) (some (.ishr, 1)) (none)))))
 (cond (Nat.blt pc 14)
 (cond (Nat.blt pc 10)
 (cond (Nat.beq pc 9) (some (.iconst 1, 1)) (none))
 (cond (Nat.blt pc 11)
 (cond (Nat.beq pc 10) (some (.iand, 1)) (none))
 (cond (Nat.beq pc 11) (some (.ifCond .ne 18, 3)) (none))))
 (cond (Nat.blt pc 15)
 (cond (Nat.beq pc 14) (some (.iconst 1, 1)) (none))
 (cond (Nat.blt pc 18)
 (cond (Nat.beq pc 15) (some (.goto 19, 3)) (none))
 (cond (Nat.beq pc 18) (some (.iconst 0, 1)) (none))))))
 (cond (Nat.blt pc 28)
 (cond (Nat.blt pc 24)
 (cond (Nat.blt pc 20)
 (cond (Nat.beq pc 19) (some (.istore 2, 1)) (none))
 (cond (Nat.blt pc 21)
 (cond (Nat.beq pc 20) (some (.aload 0, 1)) (none))
 (cond (Nat.beq pc 21) (some (.getfield 804, 3)) (none))))
 (cond (Nat.blt pc 26)
 (cond (Nat.beq pc 24) (some (.iconst 7, 2)) (none))
 (cond (Nat.blt pc 27)
 (cond (Nat.beq pc 26) (some (.dup2, 1)) (none))
 (cond (Nat.beq pc 27) (some (.iaload, 1)) (none)))))
 (cond (Nat.blt pc 31)
 (cond (Nat.blt pc 29)
 (cond (Nat.beq pc 28) (some (.iconst 1, 1)) (none))
 (cond (Nat.blt pc 30)
 (cond (Nat.beq pc 29) (some (.iload 1, 1)) (none))
 (cond (Nat.beq pc 30) (some (.ishl, 1)) (none))))
 (cond (Nat.blt pc 33)
 (cond (Nat.blt pc 32)
 (cond (Nat.beq pc 31) (some (.ior, 1)) (none))
 (cond (Nat.beq pc 32) (some (.iastore, 1)) (none)))
 (cond (Nat.blt pc 34)
 (cond (Nat.beq pc 33) (some (.iload 2, 1)) (none))
 (cond (Nat.beq pc 34) (some (.freturn, 1)) (none))))))
-- AlwaysThereModel.readsCourse()Z
noncomputable def qc_121 (pc : Nat) : Option (Instr × Nat) := cond (Nat.blt pc 58)
 (cond (Nat.blt pc 27)
 (cond (Nat.blt pc 14)
 (cond (Nat.blt pc 6)
 (cond (Nat.blt pc 4)
 (cond (Nat.blt pc 1)
 (cond (Nat.beq pc 0) (some (.aload 0, 1)) (none))
 (cond (Nat.beq pc 1) (some (.invokevirtual 113, 3)) (none)))
 (cond (Nat.blt pc 5)
 (cond (Nat.beq pc 4) (some (.iconst 0, 1)) (none))
 (cond (Nat.beq pc 5) (some (.istore 1, 1)) (none))))
 (cond (Nat.blt pc 10)
 (cond (Nat.blt pc 7)
 (cond (Nat.beq pc 6) (some (.iload 1, 1)) (none))
 (cond (Nat.beq pc 7) (some (.ifCond .eq 18, 3)) (none)))
 (cond (Nat.blt pc 11)
 (cond (Nat.beq pc 10) (some (.aload 0, 1)) (none))
 (cond (Nat.beq pc 11) (some (.getfield 812, 3)) (none)))))
 (cond (Nat.blt pc 21)
 (cond (Nat.blt pc 18)
 (cond (Nat.blt pc 15)
 (cond (Nat.beq pc 14) (some (.iconst 2, 1)) (none))
 (cond (Nat.beq pc 15) (some (.if_icmp .ne 99, 3)) (none)))
 (cond (Nat.blt pc 19)
 (cond (Nat.beq pc 18) (some (.iload 1, 1)) (none))
 (cond (Nat.beq pc 19) (some (.iconst 8, 2)) (none))))
 (cond (Nat.blt pc 25)
 (cond (Nat.blt pc 24)
 (cond (Nat.beq pc 21) (some (.if_icmp .eq 74, 3)) (none))
 (cond (Nat.beq pc 24) (some (.aload 0, 1)) (none)))
 (cond (Nat.blt pc 26)
 (cond (Nat.beq pc 25) (some (.iconst 0, 1)) (none))
 (cond (Nat.beq pc 26) (some (.aload 0, 1)) (none))))))
 (cond (Nat.blt pc 41)
 (cond (Nat.blt pc 33)
 (cond (Nat.blt pc 31)
 (cond (Nat.blt pc 30)
 (cond (Nat.beq pc 27) (some (.getfield 804, 3)) (none))
 (cond (Nat.beq pc 30) (some (.iconst 0, 1)) (none)))
 (cond (Nat.blt pc 32)
 (cond (Nat.beq pc 31) (some (.iaload, 1)) (none))
 (cond (Nat.beq pc 32) (some (.iconst 1, 1)) (none))))
 (cond (Nat.blt pc 37)
 (cond (Nat.blt pc 34)
 (cond (Nat.beq pc 33) (some (.isub, 1)) (none))
 (cond (Nat.beq pc 34) (some (.invokevirtual 114, 3)) (none)))
 (cond (Nat.blt pc 40)
 (cond (Nat.beq pc 37) (some (.ifCond .eq 74, 3)) (none))
 (cond (Nat.beq pc 40) (some (.iload 1, 1)) (none)))))
 (cond (Nat.blt pc 50)
 (cond (Nat.blt pc 45)
 (cond (Nat.blt pc 44)
 (cond (Nat.beq pc 41) (some (.ifCond .le 76, 3)) (none))
 (cond (Nat.beq pc 44) (some (.aload 0, 1)) (none)))
 (cond (Nat.blt pc 48)
 (cond (Nat.beq pc 45) (some (.getfield 804, 3)) (none))
 (cond (Nat.beq pc 48) (some (.iconst 21, 2)) (none))))
 (cond (Nat.blt pc 53)
 (cond (Nat.blt pc 52)
 (cond (Nat.beq pc 50) (some (.iconst 8, 2)) (none))
 (cond (Nat.beq pc 52) (some (.aload 0, 1)) (none)))
 (cond (Nat.blt pc 56)
 (cond (Nat.beq pc 53) (some (.getfield 804, 3)) (none))
 (cond (Nat.beq pc 56) (some (.iconst 13, 2)) (none)))))))
 (cond (Nat.blt pc 80)
 (cond (Nat.blt pc 66)
 (cond (Nat.blt pc 62)
 (cond (Nat.blt pc 60)
 (cond (Nat.blt pc 59)
 (cond (Nat.beq pc 58) (some (.iload 1, 1)) (none))
 (cond (Nat.beq pc 59) (some (.iadd, 1)) (none)))
 (cond (Nat.blt pc 61)
 (cond (Nat.beq pc 60) (some (.iconst 1, 1)) (none))
 (cond (Nat.beq pc 61) (some (.isub, 1)) (none))))
 (cond (Nat.blt pc 64)
 (cond (Nat.blt pc 63)
 (cond (Nat.beq pc 62) (some (.iaload, 1)) (none))
 (cond (Nat.beq pc 63) (some (.imul, 1)) (none)))
 (cond (Nat.blt pc 65)
 (cond (Nat.beq pc 64) (some (.iadd, 1)) (none))
 (cond (Nat.beq pc 65) (some (.aload 0, 1)) (none)))))
 (cond (Nat.blt pc 74)
 (cond (Nat.blt pc 70)
 (cond (Nat.blt pc 69)
 (cond (Nat.beq pc 66) (some (.getfield 814, 3)) (none))
 (cond (Nat.beq pc 69) (some (.iadd, 1)) (none)))
 (cond (Nat.blt pc 71)
 (cond (Nat.beq pc 70) (some (.iaload, 1)) (none))
 (cond (Nat.beq pc 71) (some (.ifCond .ne 76, 3)) (none))))
 (cond (Nat.blt pc 76)
 (cond (Nat.blt pc 75)
 (cond (Nat.beq pc 74) (some (.iconst 0, 1)) (none))
 (cond (Nat.beq pc 75) (some (.freturn, 1)) (none)))
 (cond (Nat.blt pc 77)
 (cond (Nat.beq pc 76) (some (.aload 0, 1)) (none))
 (cond (Nat.beq pc 77) (some (.getfield 804, 3)) (none))))))
 (cond (Nat.blt pc 93)
 (cond (Nat.blt pc 85)
 (cond (Nat.blt pc 83)
 (cond (Nat.blt pc 82)
 (cond (Nat.beq pc 80) (some (.iconst 13, 2)) (none))
 (cond (Nat.beq pc 82) (some (.iload 1, 1)) (none)))
 (cond (Nat.blt pc 84)
 (cond (Nat.beq pc 83) (some (.iadd, 1)) (none))
 (cond (Nat.beq pc 84) (some (.aload 0, 1)) (none))))
 (cond (Nat.blt pc 89)
 (cond (Nat.blt pc 88)
 (cond (Nat.beq pc 85) (some (.getfield 814, 3)) (none))
 (cond (Nat.beq pc 88) (some (.iastore, 1)) (none)))
 (cond (Nat.blt pc 92)
 (cond (Nat.beq pc 89) (some (.iinc 1 1, 3)) (none))
 (cond (Nat.beq pc 92) (some (.aload 0, 1)) (none)))))
 (cond (Nat.blt pc 103)
 (cond (Nat.blt pc 99)
 (cond (Nat.blt pc 96)
 (cond (Nat.beq pc 93) (some (.invokevirtual 113, 3)) (none))
 (cond (Nat.beq pc 96) (some (.goto 6, 3)) (none)))
 (cond (Nat.blt pc 100)
 (cond (Nat.beq pc 99) (some (.aload 0, 1)) (none))
 (cond (Nat.beq pc 100) (some (.getfield 804, 3)) (none))))
 (cond (Nat.blt pc 105)
 (cond (Nat.blt pc 104)
 (cond (Nat.beq pc 103) (some (.iconst 2, 1)) (none))
 (cond (Nat.beq pc 104) (some (.iload 1, 1)) (none)))
 (cond (Nat.blt pc 106)
 (cond (Nat.beq pc 105) (some (.iastore, 1)) (none))
 (cond (Nat.blt pc 107)
 (cond (Nat.beq pc 106) (some (.iconst 1, 1)) (none))
 (cond (Nat.beq pc 107) (some (.freturn, 1)) (none))))))))
-- AlwaysThereModel.readsItem()Z
noncomputable def qc_122 (pc : Nat) : Option (Instr × Nat) := cond (Nat.blt pc 173)
 (cond (Nat.blt pc 133)
 (cond (Nat.blt pc 112)
 (cond (Nat.blt pc 9)
 (cond (Nat.blt pc 4)
 (cond (Nat.blt pc 1)
 (cond (Nat.beq pc 0) (some (.aload 0, 1)) (none))
 (cond (Nat.beq pc 1) (some (.getfield 812, 3)) (none)))
 (cond (Nat.blt pc 5)
 (cond (Nat.beq pc 4) (some (.iconst 1, 1)) (none))
 (cond (Nat.blt pc 8)
 (cond (Nat.beq pc 5) (some (.if_icmp .ne 15, 3)) (none))
 (cond (Nat.beq pc 8) (some (.aload 0, 1)) (none)))))
 (cond (Nat.blt pc 16)
 (cond (Nat.blt pc 12)
 (cond (Nat.beq pc 9) (some (.getfield 814, 3)) (none))
 (cond (Nat.blt pc 15)
 (cond (Nat.beq pc 12) (some (.goto 16, 3)) (none))
 (cond (Nat.beq pc 15) (some (.iconst 0, 1)) (none))))
 (cond (Nat.blt pc 17)
 (cond (Nat.beq pc 16) (some (.istore 1, 1)) (none))
 (cond (Nat.blt pc 18)
 (cond (Nat.beq pc 17) (some (.iload 1, 1)) (none))
 (cond (Nat.beq pc 18) (some (.tableswitch 249 99 118 #[228, 249, 249, 139, 249, 149, 249, 249, 249, 249, 249, 112, 249, 249, 249, 203, 154, 179, 249, 144], 94)) (none))))))
 (cond (Nat.blt pc 122)
 (cond (Nat.blt pc 116)
 (cond (Nat.blt pc 113)
 (cond (Nat.beq pc 112) (some (.aload 0, 1)) (none))
 (cond (Nat.beq pc 113) (some (.getfield 804, 3)) (none)))
 (cond (Nat.blt pc 118)
 (cond (Nat.beq pc 116) (some (.iconst 6, 2)) (none))
 (cond (Nat.blt pc 119)
 (cond (Nat.beq pc 118) (some (.iaload, 1)) (none))
 (cond (Nat.beq pc 119) (some (.ifCond .ne 137, 3)) (none)))))
 (cond (Nat.blt pc 125)
 (cond (Nat.blt pc 123)
 (cond (Nat.beq pc 122) (some (.aload 0, 1)) (none))
 (cond (Nat.blt pc 124)
 (cond (Nat.beq pc 123) (some (.iconst 0, 1)) (none))
 (cond (Nat.beq pc 124) (some (.iconst 2, 1)) (none))))
 (cond (Nat.blt pc 127)
 (cond (Nat.beq pc 125) (some (.iconst 8, 2)) (none))
 (cond (Nat.blt pc 130)
 (cond (Nat.beq pc 127) (some (.invokevirtual 118, 3)) (none))
 (cond (Nat.beq pc 130) (some (.ifCond .eq 137, 3)) (none)))))))
 (cond (Nat.blt pc 150)
 (cond (Nat.blt pc 140)
 (cond (Nat.blt pc 137)
 (cond (Nat.blt pc 134)
 (cond (Nat.beq pc 133) (some (.iconst 1, 1)) (none))
 (cond (Nat.beq pc 134) (some (.goto 138, 3)) (none)))
 (cond (Nat.blt pc 138)
 (cond (Nat.beq pc 137) (some (.iconst 0, 1)) (none))
 (cond (Nat.blt pc 139)
 (cond (Nat.beq pc 138) (some (.freturn, 1)) (none))
 (cond (Nat.beq pc 139) (some (.aload 0, 1)) (none)))))
 (cond (Nat.blt pc 145)
 (cond (Nat.blt pc 143)
 (cond (Nat.beq pc 140) (some (.invokevirtual 116, 3)) (none))
 (cond (Nat.blt pc 144)
 (cond (Nat.beq pc 143) (some (.freturn, 1)) (none))
 (cond (Nat.beq pc 144) (some (.aload 0, 1)) (none))))
 (cond (Nat.blt pc 148)
 (cond (Nat.beq pc 145) (some (.invokevirtual 117, 3)) (none))
 (cond (Nat.blt pc 149)
 (cond (Nat.beq pc 148) (some (.freturn, 1)) (none))
 (cond (Nat.beq pc 149) (some (.aload 0, 1)) (none))))))
 (cond (Nat.blt pc 162)
 (cond (Nat.blt pc 155)
 (cond (Nat.blt pc 153)
 (cond (Nat.beq pc 150) (some (.invokevirtual 119, 3)) (none))
 (cond (Nat.blt pc 154)
 (cond (Nat.beq pc 153) (some (.freturn, 1)) (none))
 (cond (Nat.beq pc 154) (some (.aload 0, 1)) (none))))
 (cond (Nat.blt pc 156)
 (cond (Nat.beq pc 155) (some (.iconst 0, 1)) (none))
 (cond (Nat.blt pc 159)
 (cond (Nat.beq pc 156) (some (.invokevirtual 120, 3)) (none))
 (cond (Nat.beq pc 159) (some (.ifCond .eq 177, 3)) (none)))))
 (cond (Nat.blt pc 165)
 (cond (Nat.blt pc 163)
 (cond (Nat.beq pc 162) (some (.aload 0, 1)) (none))
 (cond (Nat.blt pc 164)
 (cond (Nat.beq pc 163) (some (.iconst 3, 1)) (none))
 (cond (Nat.beq pc 164) (some (.iconst 1, 1)) (none))))
 (cond (Nat.blt pc 167)
 (cond (Nat.beq pc 165) (some (.iconst 9, 2)) (none))
 (cond (Nat.blt pc 170)
 (cond (Nat.beq pc 167) (some (.invokevirtual 118, 3)) (none))
 (cond (Nat.beq pc 170) (some (.ifCond .eq 177, 3)) (none))))))))
 (cond (Nat.blt pc 211)
 (cond (Nat.blt pc 190)
 (cond (Nat.blt pc 180)
 (cond (Nat.blt pc 177)
 (cond (Nat.blt pc 174)
 (cond (Nat.beq pc 173) (some (.iconst 1, 1)) (none))
 (cond (Nat.beq pc 174) (some (.goto 178, 3)) (none)))
 (cond (Nat.blt pc 178)
 (cond (Nat.beq pc 177) (some (.iconst 0, 1)) (none))
 (cond (Nat.blt pc 179)
 (cond (Nat.beq pc 178) (some (.freturn, 1)) (none))
 (cond (Nat.beq pc 179) (some (.aload 0, 1)) (none)))))
 (cond (Nat.blt pc 187)
 (cond (Nat.blt pc 181)
 (cond (Nat.beq pc 180) (some (.iconst 1, 1)) (none))
 (cond (Nat.blt pc 184)
 (cond (Nat.beq pc 181) (some (.invokevirtual 120, 3)) (none))
 (cond (Nat.beq pc 184) (some (.ifCond .eq 201, 3)) (none))))
 (cond (Nat.blt pc 188)
 (cond (Nat.beq pc 187) (some (.aload 0, 1)) (none))
 (cond (Nat.blt pc 189)
 (cond (Nat.beq pc 188) (some (.iconst 4, 1)) (none))
 (cond (Nat.beq pc 189) (some (.iconst 0, 1)) (none))))))
 (cond (Nat.blt pc 201)
 (cond (Nat.blt pc 194)
 (cond (Nat.blt pc 191)
 (cond (Nat.beq pc 190) (some (.iconst 3, 1)) (none))
 (cond (Nat.beq pc 191) (some (.invokevirtual 118, 3)) (none)))
 (cond (Nat.blt pc 197)
 (cond (Nat.beq pc 194) (some (.ifCond .eq 201, 3)) (none))
 (cond (Nat.blt pc 198)
 (cond (Nat.beq pc 197) (some (.iconst 1, 1)) (none))
 (cond (Nat.beq pc 198) (some (.goto 202, 3)) (none)))))
 (cond (Nat.blt pc 204)
 (cond (Nat.blt pc 202)
 (cond (Nat.beq pc 201) (some (.iconst 0, 1)) (none))
 (cond (Nat.blt pc 203)
 (cond (Nat.beq pc 202) (some (.freturn, 1)) (none))
 (cond (Nat.beq pc 203) (some (.aload 0, 1)) (none))))
 (cond (Nat.blt pc 205)
 (cond (Nat.beq pc 204) (some (.iconst 2, 1)) (none))
 (cond (Nat.blt pc 208)
 (cond (Nat.beq pc 205) (some (.invokevirtual 120, 3)) (none))
 (cond (Nat.beq pc 208) (some (.ifCond .eq 226, 3)) (none)))))))
 (cond (Nat.blt pc 229)
 (cond (Nat.blt pc 219)
 (cond (Nat.blt pc 213)
 (cond (Nat.blt pc 212)
 (cond (Nat.beq pc 211) (some (.aload 0, 1)) (none))
 (cond (Nat.beq pc 212) (some (.iconst 5, 1)) (none)))
 (cond (Nat.blt pc 214)
 (cond (Nat.beq pc 213) (some (.iconst 0, 1)) (none))
 (cond (Nat.blt pc 216)
 (cond (Nat.beq pc 214) (some (.iconst 99, 2)) (none))
 (cond (Nat.beq pc 216) (some (.invokevirtual 118, 3)) (none)))))
 (cond (Nat.blt pc 226)
 (cond (Nat.blt pc 222)
 (cond (Nat.beq pc 219) (some (.ifCond .eq 226, 3)) (none))
 (cond (Nat.blt pc 223)
 (cond (Nat.beq pc 222) (some (.iconst 1, 1)) (none))
 (cond (Nat.beq pc 223) (some (.goto 227, 3)) (none))))
 (cond (Nat.blt pc 227)
 (cond (Nat.beq pc 226) (some (.iconst 0, 1)) (none))
 (cond (Nat.blt pc 228)
 (cond (Nat.beq pc 227) (some (.freturn, 1)) (none))
 (cond (Nat.beq pc 228) (some (.aload 0, 1)) (none))))))
 (cond (Nat.blt pc 243)
 (cond (Nat.blt pc 236)
 (cond (Nat.blt pc 230)
 (cond (Nat.beq pc 229) (some (.iconst 3, 1)) (none))
 (cond (Nat.blt pc 233)
 (cond (Nat.beq pc 230) (some (.invokevirtual 120, 3)) (none))
 (cond (Nat.beq pc 233) (some (.ifCond .eq 247, 3)) (none))))
 (cond (Nat.blt pc 237)
 (cond (Nat.beq pc 236) (some (.aload 0, 1)) (none))
 (cond (Nat.blt pc 240)
 (cond (Nat.beq pc 237) (some (.invokevirtual 121, 3)) (none))
 (cond (Nat.beq pc 240) (some (.ifCond .eq 247, 3)) (none)))))
 (cond (Nat.blt pc 248)
 (cond (Nat.blt pc 244)
 (cond (Nat.beq pc 243) (some (.iconst 1, 1)) (none))
 (cond (Nat.blt pc 247)
 (cond (Nat.beq pc 244) (some (.goto 248, 3)) (none))
 (cond (Nat.beq pc 247) (some (.iconst 0, 1)) (none))))
 (cond (Nat.blt pc 249)
 (cond (Nat.beq pc 248) (some (.freturn, 1)) (none))
 (cond (Nat.blt pc 250)
 (cond (Nat.beq pc 249) (some (.iconst 0, 1)) (none))
 (cond (Nat.beq pc 250) (some (.freturn, 1)) (none))))))))
-- AlwaysThereModel.reads()Z
noncomputable def qc_123 (pc : Nat) : Option (Instr × Nat) := cond (Nat.blt pc 41)
 (cond (Nat.blt pc 22)
 (cond (Nat.blt pc 9)
 (cond (Nat.blt pc 3)
 (cond (Nat.blt pc 1)
 (cond (Nat.beq pc 0) (some (.iconst 0, 1)) (none))
 (cond (Nat.blt pc 2)
 (cond (Nat.beq pc 1) (some (.istore 1, 1)) (none))
 (cond (Nat.beq pc 2) (some (.iload 1, 1)) (none))))
 (cond (Nat.blt pc 5)
 (cond (Nat.beq pc 3) (some (.iconst 93, 2)) (none))
 (cond (Nat.blt pc 8)
 (cond (Nat.beq pc 5) (some (.if_icmp .ge 21, 3)) (none))
 (cond (Nat.beq pc 8) (some (.aload 0, 1)) (none)))))
 (cond (Nat.blt pc 14)
 (cond (Nat.blt pc 12)
 (cond (Nat.beq pc 9) (some (.getfield 804, 3)) (none))
 (cond (Nat.blt pc 13)
 (cond (Nat.beq pc 12) (some (.iload 1, 1)) (none))
 (cond (Nat.beq pc 13) (some (.iconst 0, 1)) (none))))
 (cond (Nat.blt pc 18)
 (cond (Nat.blt pc 15)
 (cond (Nat.beq pc 14) (some (.iastore, 1)) (none))
 (cond (Nat.beq pc 15) (some (.iinc 1 1, 3)) (none)))
 (cond (Nat.blt pc 21)
 (cond (Nat.beq pc 18) (some (.goto 2, 3)) (none))
 (cond (Nat.beq pc 21) (some (.aload 0, 1)) (none))))))
 (cond (Nat.blt pc 32)
 (cond (Nat.blt pc 27)
 (cond (Nat.blt pc 25)
 (cond (Nat.beq pc 22) (some (.getfield 804, 3)) (none))
 (cond (Nat.blt pc 26)
 (cond (Nat.beq pc 25) (some (.iconst 0, 1)) (none))
 (cond (Nat.beq pc 26) (some (.iconst 4, 1)) (none))))
 (cond (Nat.blt pc 28)
 (cond (Nat.beq pc 27) (some (.iastore, 1)) (none))
 (cond (Nat.blt pc 29)
 (cond (Nat.beq pc 28) (some (.aload 0, 1)) (none))
 (cond (Nat.beq pc 29) (some (.getfield 804, 3)) (none)))))
 (cond (Nat.blt pc 35)
 (cond (Nat.blt pc 33)
 (cond (Nat.beq pc 32) (some (.iconst 3, 1)) (none))
 (cond (Nat.blt pc 34)
 (cond (Nat.beq pc 33) (some (.iconst 3, 1)) (none))
 (cond (Nat.beq pc 34) (some (.iastore, 1)) (none))))
 (cond (Nat.blt pc 37)
 (cond (Nat.blt pc 36)
 (cond (Nat.beq pc 35) (some (.aload 0, 1)) (none))
 (cond (Nat.beq pc 36) (some (.iconst 0, 1)) (none)))
 (cond (Nat.blt pc 40)
 (cond (Nat.beq pc 37) (some (.putfield 811, 3)) (none))
 (cond (Nat.beq pc 40) (some (.aload 0, 1)) (none)))))))
 (cond (Nat.blt pc 68)
 (cond (Nat.blt pc 55)
 (cond (Nat.blt pc 48)
 (cond (Nat.blt pc 44)
 (cond (Nat.beq pc 41) (some (.invokevirtual 113, 3)) (none))
 (cond (Nat.blt pc 45)
 (cond (Nat.beq pc 44) (some (.aload 0, 1)) (none))
 (cond (Nat.beq pc 45) (some (.getfield 812, 3)) (none))))
 (cond (Nat.blt pc 51)
 (cond (Nat.beq pc 48) (some (.ifCond .eq 86, 3)) (none))
 (cond (Nat.blt pc 52)
 (cond (Nat.beq pc 51) (some (.aload 0, 1)) (none))
 (cond (Nat.beq pc 52) (some (.invokevirtual 122, 3)) (none)))))
 (cond (Nat.blt pc 62)
 (cond (Nat.blt pc 58)
 (cond (Nat.beq pc 55) (some (.ifCond .eq 66, 3)) (none))
 (cond (Nat.blt pc 59)
 (cond (Nat.beq pc 58) (some (.aload 0, 1)) (none))
 (cond (Nat.beq pc 59) (some (.getfield 812, 3)) (none))))
 (cond (Nat.blt pc 66)
 (cond (Nat.blt pc 63)
 (cond (Nat.beq pc 62) (some (.iconst 3, 1)) (none))
 (cond (Nat.beq pc 63) (some (.if_icmp .eq 68, 3)) (none)))
 (cond (Nat.blt pc 67)
 (cond (Nat.beq pc 66) (some (.iconst 0, 1)) (none))
 (cond (Nat.beq pc 67) (some (.freturn, 1)) (none))))))
 (cond (Nat.blt pc 77)
 (cond (Nat.blt pc 74)
 (cond (Nat.blt pc 69)
 (cond (Nat.beq pc 68) (some (.aload 0, 1)) (none))
 (cond (Nat.blt pc 72)
 (cond (Nat.beq pc 69) (some (.getfield 804, 3)) (none))
 (cond (Nat.beq pc 72) (some (.iconst 6, 2)) (none))))
 (cond (Nat.blt pc 75)
 (cond (Nat.beq pc 74) (some (.dup2, 1)) (none))
 (cond (Nat.blt pc 76)
 (cond (Nat.beq pc 75) (some (.iaload, 1)) (none))
 (cond (Nat.beq pc 76) (some (.iconst 1, 1)) (none)))))
 (cond (Nat.blt pc 80)
 (cond (Nat.blt pc 78)
 (cond (Nat.beq pc 77) (some (.iadd, 1)) (none))
 (cond (Nat.blt pc 79)
 (cond (Nat.beq pc 78) (some (.iastore, 1)) (none))
 (cond (Nat.beq pc 79) (some (.aload 0, 1)) (none))))
 (cond (Nat.blt pc 86)
 (cond (Nat.blt pc 83)
 (cond (Nat.beq pc 80) (some (.invokevirtual 113, 3)) (none))
 (cond (Nat.beq pc 83) (some (.goto 44, 3)) (none)))
 (cond (Nat.blt pc 87)
 (cond (Nat.beq pc 86) (some (.iconst 1, 1)) (none))
 (cond (Nat.beq pc 87) (some (.freturn, 1)) (none)))))))
-- AlwaysThereModel.tells()V
noncomputable def qc_124 (pc : Nat) : Option (Instr × Nat) := cond (Nat.blt pc 131)
 (cond (Nat.blt pc 68)
 (cond (Nat.blt pc 31)
 (cond (Nat.blt pc 14)
 (cond (Nat.blt pc 5)
 (cond (Nat.blt pc 2)
 (cond (Nat.blt pc 1)
 (cond (Nat.beq pc 0) (some (.iconst 0, 1)) (none))
 (cond (Nat.beq pc 1) (some (.istore 1, 1)) (none)))
 (cond (Nat.blt pc 3)
 (cond (Nat.beq pc 2) (some (.iload 1, 1)) (none))
 (cond (Nat.beq pc 3) (some (.iconst 93, 2)) (none))))
 (cond (Nat.blt pc 9)
 (cond (Nat.blt pc 8)
 (cond (Nat.beq pc 5) (some (.if_icmp .ge 26, 3)) (none))
 (cond (Nat.beq pc 8) (some (.aload 0, 1)) (none)))
 (cond (Nat.blt pc 12)
 (cond (Nat.beq pc 9) (some (.getfield 803, 3)) (none))
 (cond (Nat.blt pc 13)
 (cond (Nat.beq pc 12) (some (.iload 1, 1)) (none))
 (cond (Nat.beq pc 13) (some (.aload 0, 1)) (none))))))
 (cond (Nat.blt pc 23)
 (cond (Nat.blt pc 18)
 (cond (Nat.blt pc 17)
 (cond (Nat.beq pc 14) (some (.getfield 804, 3)) (none))
 (cond (Nat.beq pc 17) (some (.iload 1, 1)) (none)))
 (cond (Nat.blt pc 19)
 (cond (Nat.beq pc 18) (some (.iaload, 1)) (none))
 (cond (Nat.blt pc 20)
 (cond (Nat.beq pc 19) (some (.iastore, 1)) (none))
 (cond (Nat.beq pc 20) (some (.iinc 1 1, 3)) (none)))))
 (cond (Nat.blt pc 27)
 (cond (Nat.blt pc 26)
 (cond (Nat.beq pc 23) (some (.goto 2, 3)) (none))
 (cond (Nat.beq pc 26) (some (.iconst 0, 1)) (none)))
 (cond (Nat.blt pc 28)
 (cond (Nat.beq pc 27) (some (.istore 1, 1)) (none))
 (cond (Nat.blt pc 29)
 (cond (Nat.beq pc 28) (some (.iload 1, 1)) (none))
 (cond (Nat.beq pc 29) (some (.iconst 65, 2)) (none)))))))
 (cond (Nat.blt pc 49)
 (cond (Nat.blt pc 39)
 (cond (Nat.blt pc 35)
 (cond (Nat.blt pc 34)
 (cond (Nat.beq pc 31) (some (.if_icmp .ge 58, 3)) (none))
 (cond (Nat.beq pc 34) (some (.aload 0, 1)) (none)))
 (cond (Nat.blt pc 38)
 (cond (Nat.beq pc 35) (some (.getfield 805, 3)) (none))
 (cond (Nat.beq pc 38) (some (.iload 1, 1)) (none))))
 (cond (Nat.blt pc 42)
 (cond (Nat.blt pc 40)
 (cond (Nat.beq pc 39) (some (.iload 1, 1)) (none))
 (cond (Nat.beq pc 40) (some (.iconst 57, 2)) (none)))
 (cond (Nat.blt pc 45)
 (cond (Nat.beq pc 42) (some (.if_icmp .ge 49, 3)) (none))
 (cond (Nat.blt pc 46)
 (cond (Nat.beq pc 45) (some (.iconst 0, 1)) (none))
 (cond (Nat.beq pc 46) (some (.goto 51, 3)) (none))))))
 (cond (Nat.blt pc 59)
 (cond (Nat.blt pc 52)
 (cond (Nat.blt pc 51)
 (cond (Nat.beq pc 49) (some (.iconst (-9), 2)) (none))
 (cond (Nat.beq pc 51) (some (.iastore, 1)) (none)))
 (cond (Nat.blt pc 55)
 (cond (Nat.beq pc 52) (some (.iinc 1 1, 3)) (none))
 (cond (Nat.blt pc 58)
 (cond (Nat.beq pc 55) (some (.goto 28, 3)) (none))
 (cond (Nat.beq pc 58) (some (.aload 0, 1)) (none)))))
 (cond (Nat.blt pc 63)
 (cond (Nat.blt pc 60)
 (cond (Nat.beq pc 59) (some (.iconst 0, 1)) (none))
 (cond (Nat.beq pc 60) (some (.putfield 807, 3)) (none)))
 (cond (Nat.blt pc 64)
 (cond (Nat.beq pc 63) (some (.aload 0, 1)) (none))
 (cond (Nat.blt pc 67)
 (cond (Nat.beq pc 64) (some (.getfield 809, 3)) (none))
 (cond (Nat.beq pc 67) (some (.iconst 0, 1)) (none))))))))
 (cond (Nat.blt pc 95)
 (cond (Nat.blt pc 79)
 (cond (Nat.blt pc 74)
 (cond (Nat.blt pc 70)
 (cond (Nat.blt pc 69)
 (cond (Nat.beq pc 68) (some (.iconst 0, 1)) (none))
 (cond (Nat.beq pc 69) (some (.bastore, 1)) (none)))
 (cond (Nat.blt pc 71)
 (cond (Nat.beq pc 70) (some (.aload 0, 1)) (none))
 (cond (Nat.beq pc 71) (some (.getfield 809, 3)) (none))))
 (cond (Nat.blt pc 76)
 (cond (Nat.blt pc 75)
 (cond (Nat.beq pc 74) (some (.iconst 1, 1)) (none))
 (cond (Nat.beq pc 75) (some (.iconst 0, 1)) (none)))
 (cond (Nat.blt pc 77)
 (cond (Nat.beq pc 76) (some (.bastore, 1)) (none))
 (cond (Nat.blt pc 78)
 (cond (Nat.beq pc 77) (some (.iconst 0, 1)) (none))
 (cond (Nat.beq pc 78) (some (.istore 1, 1)) (none))))))
 (cond (Nat.blt pc 89)
 (cond (Nat.blt pc 82)
 (cond (Nat.blt pc 80)
 (cond (Nat.beq pc 79) (some (.iload 1, 1)) (none))
 (cond (Nat.beq pc 80) (some (.iconst 64, 2)) (none)))
 (cond (Nat.blt pc 85)
 (cond (Nat.beq pc 82) (some (.if_icmp .ge 138, 3)) (none))
 (cond (Nat.blt pc 86)
 (cond (Nat.beq pc 85) (some (.aload 0, 1)) (none))
 (cond (Nat.beq pc 86) (some (.getfield 810, 3)) (none)))))
 (cond (Nat.blt pc 91)
 (cond (Nat.blt pc 90)
 (cond (Nat.beq pc 89) (some (.iload 1, 1)) (none))
 (cond (Nat.beq pc 90) (some (.iload 1, 1)) (none)))
 (cond (Nat.blt pc 93)
 (cond (Nat.beq pc 91) (some (.iconst 8, 2)) (none))
 (cond (Nat.blt pc 94)
 (cond (Nat.beq pc 93) (some (.idiv, 1)) (none))
 (cond (Nat.beq pc 94) (some (.iload 1, 1)) (none)))))))
 (cond (Nat.blt pc 113)
 (cond (Nat.blt pc 105)
 (cond (Nat.blt pc 98)
 (cond (Nat.blt pc 97)
 (cond (Nat.beq pc 95) (some (.iconst 8, 2)) (none))
 (cond (Nat.beq pc 97) (some (.irem, 1)) (none)))
 (cond (Nat.blt pc 101)
 (cond (Nat.beq pc 98) (some (.if_icmp .ne 105, 3)) (none))
 (cond (Nat.blt pc 102)
 (cond (Nat.beq pc 101) (some (.iconst 0, 1)) (none))
 (cond (Nat.beq pc 102) (some (.goto 131, 3)) (none)))))
 (cond (Nat.blt pc 109)
 (cond (Nat.blt pc 106)
 (cond (Nat.beq pc 105) (some (.aload 0, 1)) (none))
 (cond (Nat.beq pc 106) (some (.getfield 803, 3)) (none)))
 (cond (Nat.blt pc 111)
 (cond (Nat.beq pc 109) (some (.iconst 21, 2)) (none))
 (cond (Nat.blt pc 112)
 (cond (Nat.beq pc 111) (some (.iload 1, 1)) (none))
 (cond (Nat.beq pc 112) (some (.iadd, 1)) (none))))))
 (cond (Nat.blt pc 123)
 (cond (Nat.blt pc 117)
 (cond (Nat.blt pc 114)
 (cond (Nat.beq pc 113) (some (.iaload, 1)) (none))
 (cond (Nat.beq pc 114) (some (.ifCond .ne 122, 3)) (none)))
 (cond (Nat.blt pc 119)
 (cond (Nat.beq pc 117) (some (.iconst (-9), 2)) (none))
 (cond (Nat.blt pc 122)
 (cond (Nat.beq pc 119) (some (.goto 131, 3)) (none))
 (cond (Nat.beq pc 122) (some (.aload 0, 1)) (none)))))
 (cond (Nat.blt pc 128)
 (cond (Nat.blt pc 126)
 (cond (Nat.beq pc 123) (some (.getfield 803, 3)) (none))
 (cond (Nat.beq pc 126) (some (.iconst 21, 2)) (none)))
 (cond (Nat.blt pc 129)
 (cond (Nat.beq pc 128) (some (.iload 1, 1)) (none))
 (cond (Nat.blt pc 130)
 (cond (Nat.beq pc 129) (some (.iadd, 1)) (none))
 (cond (Nat.beq pc 130) (some (.iaload, 1)) (none)))))))))
 (cond (Nat.blt pc 193)
 (cond (Nat.blt pc 164)
 (cond (Nat.blt pc 147)
 (cond (Nat.blt pc 139)
 (cond (Nat.blt pc 135)
 (cond (Nat.blt pc 132)
 (cond (Nat.beq pc 131) (some (.iastore, 1)) (none))
 (cond (Nat.beq pc 132) (some (.iinc 1 1, 3)) (none)))
 (cond (Nat.blt pc 138)
 (cond (Nat.beq pc 135) (some (.goto 79, 3)) (none))
 (cond (Nat.beq pc 138) (some (.iconst 0, 1)) (none))))
 (cond (Nat.blt pc 141)
 (cond (Nat.blt pc 140)
 (cond (Nat.beq pc 139) (some (.istore 1, 1)) (none))
 (cond (Nat.beq pc 140) (some (.iload 1, 1)) (none)))
 (cond (Nat.blt pc 143)
 (cond (Nat.beq pc 141) (some (.iconst 8, 2)) (none))
 (cond (Nat.blt pc 146)
 (cond (Nat.beq pc 143) (some (.if_icmp .ge 265, 3)) (none))
 (cond (Nat.beq pc 146) (some (.iconst 0, 1)) (none))))))
 (cond (Nat.blt pc 155)
 (cond (Nat.blt pc 149)
 (cond (Nat.blt pc 148)
 (cond (Nat.beq pc 147) (some (.istore 2, 1)) (none))
 (cond (Nat.beq pc 148) (some (.iload 2, 1)) (none)))
 (cond (Nat.blt pc 151)
 (cond (Nat.beq pc 149) (some (.iconst 64, 2)) (none))
 (cond (Nat.blt pc 154)
 (cond (Nat.beq pc 151) (some (.if_icmp .ge 259, 3)) (none))
 (cond (Nat.beq pc 154) (some (.aload 0, 1)) (none)))))
 (cond (Nat.blt pc 159)
 (cond (Nat.blt pc 158)
 (cond (Nat.beq pc 155) (some (.getfield 810, 3)) (none))
 (cond (Nat.beq pc 158) (some (.iload 2, 1)) (none)))
 (cond (Nat.blt pc 161)
 (cond (Nat.beq pc 159) (some (.iconst 8, 2)) (none))
 (cond (Nat.blt pc 162)
 (cond (Nat.beq pc 161) (some (.idiv, 1)) (none))
 (cond (Nat.beq pc 162) (some (.iconst 8, 2)) (none)))))))
 (cond (Nat.blt pc 177)
 (cond (Nat.blt pc 169)
 (cond (Nat.blt pc 166)
 (cond (Nat.blt pc 165)
 (cond (Nat.beq pc 164) (some (.imul, 1)) (none))
 (cond (Nat.beq pc 165) (some (.iload 1, 1)) (none)))
 (cond (Nat.blt pc 167)
 (cond (Nat.beq pc 166) (some (.iadd, 1)) (none))
 (cond (Nat.blt pc 168)
 (cond (Nat.beq pc 167) (some (.iaload, 1)) (none))
 (cond (Nat.beq pc 168) (some (.istore 3, 1)) (none)))))
 (cond (Nat.blt pc 173)
 (cond (Nat.blt pc 170)
 (cond (Nat.beq pc 169) (some (.aload 0, 1)) (none))
 (cond (Nat.beq pc 170) (some (.getfield 810, 3)) (none)))
 (cond (Nat.blt pc 175)
 (cond (Nat.beq pc 173) (some (.iconst 8, 2)) (none))
 (cond (Nat.blt pc 176)
 (cond (Nat.beq pc 175) (some (.iload 1, 1)) (none))
 (cond (Nat.beq pc 176) (some (.imul, 1)) (none))))))
 (cond (Nat.blt pc 183)
 (cond (Nat.blt pc 180)
 (cond (Nat.blt pc 178)
 (cond (Nat.beq pc 177) (some (.iload 2, 1)) (none))
 (cond (Nat.beq pc 178) (some (.iconst 8, 2)) (none)))
 (cond (Nat.blt pc 181)
 (cond (Nat.beq pc 180) (some (.irem, 1)) (none))
 (cond (Nat.blt pc 182)
 (cond (Nat.beq pc 181) (some (.iadd, 1)) (none))
 (cond (Nat.beq pc 182) (some (.iaload, 1)) (none)))))
 (cond (Nat.blt pc 186)
 (cond (Nat.blt pc 185)
 (cond (Nat.beq pc 183) (some (.istore 4, 2)) (none))
 (cond (Nat.beq pc 185) (some (.iload 3, 1)) (none)))
 (cond (Nat.blt pc 188)
 (cond (Nat.beq pc 186) (some (.iconst (-9), 2)) (none))
 (cond (Nat.blt pc 191)
 (cond (Nat.beq pc 188) (some (.if_icmp .eq 226, 3)) (none))
 (cond (Nat.beq pc 191) (some (.iload 4, 2)) (none))))))))
 (cond (Nat.blt pc 227)
 (cond (Nat.blt pc 210)
 (cond (Nat.blt pc 202)
 (cond (Nat.blt pc 198)
 (cond (Nat.blt pc 195)
 (cond (Nat.beq pc 193) (some (.iconst (-9), 2)) (none))
 (cond (Nat.beq pc 195) (some (.if_icmp .eq 226, 3)) (none)))
 (cond (Nat.blt pc 199)
 (cond (Nat.beq pc 198) (some (.aload 0, 1)) (none))
 (cond (Nat.beq pc 199) (some (.getfield 810, 3)) (none))))
 (cond (Nat.blt pc 204)
 (cond (Nat.blt pc 203)
 (cond (Nat.beq pc 202) (some (.iload 2, 1)) (none))
 (cond (Nat.beq pc 203) (some (.iaload, 1)) (none)))
 (cond (Nat.blt pc 206)
 (cond (Nat.beq pc 204) (some (.iconst (-9), 2)) (none))
 (cond (Nat.blt pc 209)
 (cond (Nat.beq pc 206) (some (.if_icmp .eq 222, 3)) (none))
 (cond (Nat.beq pc 209) (some (.iload 3, 1)) (none))))))
 (cond (Nat.blt pc 218)
 (cond (Nat.blt pc 213)
 (cond (Nat.blt pc 212)
 (cond (Nat.beq pc 210) (some (.iload 4, 2)) (none))
 (cond (Nat.beq pc 212) (some (.iadd, 1)) (none)))
 (cond (Nat.blt pc 214)
 (cond (Nat.beq pc 213) (some (.aload 0, 1)) (none))
 (cond (Nat.blt pc 217)
 (cond (Nat.beq pc 214) (some (.getfield 810, 3)) (none))
 (cond (Nat.beq pc 217) (some (.iload 2, 1)) (none)))))
 (cond (Nat.blt pc 222)
 (cond (Nat.blt pc 219)
 (cond (Nat.beq pc 218) (some (.iaload, 1)) (none))
 (cond (Nat.beq pc 219) (some (.if_icmp .ge 226, 3)) (none)))
 (cond (Nat.blt pc 223)
 (cond (Nat.beq pc 222) (some (.iconst 1, 1)) (none))
 (cond (Nat.blt pc 226)
 (cond (Nat.beq pc 223) (some (.goto 227, 3)) (none))
 (cond (Nat.beq pc 226) (some (.iconst 0, 1)) (none)))))))
 (cond (Nat.blt pc 246)
 (cond (Nat.blt pc 236)
 (cond (Nat.blt pc 230)
 (cond (Nat.blt pc 229)
 (cond (Nat.beq pc 227) (some (.istore 5, 2)) (none))
 (cond (Nat.beq pc 229) (some (.aload 0, 1)) (none)))
 (cond (Nat.blt pc 233)
 (cond (Nat.beq pc 230) (some (.getfield 810, 3)) (none))
 (cond (Nat.blt pc 234)
 (cond (Nat.beq pc 233) (some (.iload 2, 1)) (none))
 (cond (Nat.beq pc 234) (some (.iload 5, 2)) (none)))))
 (cond (Nat.blt pc 240)
 (cond (Nat.blt pc 239)
 (cond (Nat.beq pc 236) (some (.ifCond .eq 246, 3)) (none))
 (cond (Nat.beq pc 239) (some (.iload 3, 1)) (none)))
 (cond (Nat.blt pc 242)
 (cond (Nat.beq pc 240) (some (.iload 4, 2)) (none))
 (cond (Nat.blt pc 243)
 (cond (Nat.beq pc 242) (some (.iadd, 1)) (none))
 (cond (Nat.beq pc 243) (some (.goto 252, 3)) (none))))))
 (cond (Nat.blt pc 253)
 (cond (Nat.blt pc 250)
 (cond (Nat.blt pc 247)
 (cond (Nat.beq pc 246) (some (.aload 0, 1)) (none))
 (cond (Nat.beq pc 247) (some (.getfield 810, 3)) (none)))
 (cond (Nat.blt pc 251)
 (cond (Nat.beq pc 250) (some (.iload 2, 1)) (none))
 (cond (Nat.blt pc 252)
 (cond (Nat.beq pc 251) (some (.iaload, 1)) (none))
 (cond (Nat.beq pc 252) (some (.iastore, 1)) (none)))))
 (cond (Nat.blt pc 259)
 (cond (Nat.blt pc 256)
 (cond (Nat.beq pc 253) (some (.iinc 2 1, 3)) (none))
 (cond (Nat.beq pc 256) (some (.goto 148, 3)) (none)))
 (cond (Nat.blt pc 262)
 (cond (Nat.beq pc 259) (some (.iinc 1 1, 3)) (none))
 (cond (Nat.blt pc 265)
 (cond (Nat.beq pc 262) (some (.goto 140, 3)) (none))
 (cond (Nat.beq pc 265) (some (.return_, 1)) (none)))))))))
-- AlwaysThereModel.furrows()I
noncomputable def qc_125 (pc : Nat) : Option (Instr × Nat) := cond (Nat.blt pc 16)
 (cond (Nat.blt pc 9)
 (cond (Nat.blt pc 4)
 (cond (Nat.blt pc 1)
 (cond (Nat.beq pc 0) (some (.aload 0, 1)) (none))
 (cond (Nat.beq pc 1) (some (.invokevirtual 123, 3)) (none)))
 (cond (Nat.blt pc 7)
 (cond (Nat.beq pc 4) (some (.ifCond .ne 15, 3)) (none))
 (cond (Nat.beq pc 7) (some (.iconst (-10), 2)) (none))))
 (cond (Nat.blt pc 13)
 (cond (Nat.blt pc 10)
 (cond (Nat.beq pc 9) (some (.aload 0, 1)) (none))
 (cond (Nat.beq pc 10) (some (.getfield 813, 3)) (none)))
 (cond (Nat.blt pc 14)
 (cond (Nat.beq pc 13) (some (.isub, 1)) (none))
 (cond (Nat.blt pc 15)
 (cond (Nat.beq pc 14) (some (.ireturn, 1)) (none))
 (cond (Nat.beq pc 15) (some (.aload 0, 1)) (none))))))
 (cond (Nat.blt pc 24)
 (cond (Nat.blt pc 20)
 (cond (Nat.blt pc 19)
 (cond (Nat.beq pc 16) (some (.invokevirtual 124, 3)) (none))
 (cond (Nat.beq pc 19) (some (.aload 0, 1)) (none)))
 (cond (Nat.blt pc 21)
 (cond (Nat.beq pc 20) (some (.iconst 0, 1)) (none))
 (cond (Nat.beq pc 21) (some (.putfield 802, 3)) (none))))
 (cond (Nat.blt pc 28)
 (cond (Nat.blt pc 25)
 (cond (Nat.beq pc 24) (some (.aload 0, 1)) (none))
 (cond (Nat.beq pc 25) (some (.getfield 803, 3)) (none)))
 (cond (Nat.blt pc 30)
 (cond (Nat.beq pc 28) (some (.iconst 6, 2)) (none))
 (cond (Nat.blt pc 31)
 (cond (Nat.beq pc 30) (some (.iaload, 1)) (none))
 (cond (Nat.beq pc 31) (some (.ireturn, 1)) (none))))))
-- AlwaysThereModel.furrow(II)I
noncomputable def qc_126 (pc : Nat) : Option (Instr × Nat) := cond (Nat.blt pc 20)
 (cond (Nat.blt pc 9)
 (cond (Nat.blt pc 2)
 (cond (Nat.blt pc 1)
 (cond (Nat.beq pc 0) (some (.aload 0, 1)) (none))
 (cond (Nat.beq pc 1) (some (.iload 1, 1)) (none)))
 (cond (Nat.blt pc 5)
 (cond (Nat.beq pc 2) (some (.invokevirtual 105, 3)) (none))
 (cond (Nat.blt pc 8)
 (cond (Nat.beq pc 5) (some (.ifCond .eq 33, 3)) (none))
 (cond (Nat.beq pc 8) (some (.aload 0, 1)) (none)))))
 (cond (Nat.blt pc 13)
 (cond (Nat.blt pc 10)
 (cond (Nat.beq pc 9) (some (.iload 2, 1)) (none))
 (cond (Nat.beq pc 10) (some (.invokevirtual 105, 3)) (none)))
 (cond (Nat.blt pc 16)
 (cond (Nat.beq pc 13) (some (.ifCond .eq 33, 3)) (none))
 (cond (Nat.blt pc 17)
 (cond (Nat.beq pc 16) (some (.aload 0, 1)) (none))
 (cond (Nat.beq pc 17) (some (.getfield 803, 3)) (none))))))
 (cond (Nat.blt pc 27)
 (cond (Nat.blt pc 24)
 (cond (Nat.blt pc 22)
 (cond (Nat.beq pc 20) (some (.iconst 21, 2)) (none))
 (cond (Nat.beq pc 22) (some (.iconst 8, 2)) (none)))
 (cond (Nat.blt pc 25)
 (cond (Nat.beq pc 24) (some (.iload 1, 1)) (none))
 (cond (Nat.blt pc 26)
 (cond (Nat.beq pc 25) (some (.imul, 1)) (none))
 (cond (Nat.beq pc 26) (some (.iadd, 1)) (none)))))
 (cond (Nat.blt pc 30)
 (cond (Nat.blt pc 28)
 (cond (Nat.beq pc 27) (some (.iload 2, 1)) (none))
 (cond (Nat.blt pc 29)
 (cond (Nat.beq pc 28) (some (.iadd, 1)) (none))
 (cond (Nat.beq pc 29) (some (.iaload, 1)) (none))))
 (cond (Nat.blt pc 33)
 (cond (Nat.beq pc 30) (some (.goto 34, 3)) (none))
 (cond (Nat.blt pc 34)
 (cond (Nat.beq pc 33) (some (.iconst (-1), 1)) (none))
 (cond (Nat.beq pc 34) (some (.ireturn, 1)) (none))))))
-- AlwaysThereModel.wayOf(II)I
noncomputable def qc_127 (pc : Nat) : Option (Instr × Nat) := cond (Nat.blt pc 13)
 (cond (Nat.blt pc 8)
 (cond (Nat.blt pc 4)
 (cond (Nat.blt pc 1)
 (cond (Nat.beq pc 0) (some (.aload 0, 1)) (none))
 (cond (Nat.beq pc 1) (some (.getfield 810, 3)) (none)))
 (cond (Nat.blt pc 6)
 (cond (Nat.beq pc 4) (some (.iconst 8, 2)) (none))
 (cond (Nat.blt pc 7)
 (cond (Nat.beq pc 6) (some (.iload 1, 1)) (none))
 (cond (Nat.beq pc 7) (some (.imul, 1)) (none)))))
 (cond (Nat.blt pc 10)
 (cond (Nat.blt pc 9)
 (cond (Nat.beq pc 8) (some (.iload 2, 1)) (none))
 (cond (Nat.beq pc 9) (some (.iadd, 1)) (none)))
 (cond (Nat.blt pc 11)
 (cond (Nat.beq pc 10) (some (.iaload, 1)) (none))
 (cond (Nat.blt pc 12)
 (cond (Nat.beq pc 11) (some (.istore 3, 1)) (none))
 (cond (Nat.beq pc 12) (some (.iload 3, 1)) (none))))))
 (cond (Nat.blt pc 24)
 (cond (Nat.blt pc 18)
 (cond (Nat.blt pc 15)
 (cond (Nat.beq pc 13) (some (.iconst (-9), 2)) (none))
 (cond (Nat.beq pc 15) (some (.if_icmp .ne 23, 3)) (none)))
 (cond (Nat.blt pc 20)
 (cond (Nat.beq pc 18) (some (.iconst (-9), 2)) (none))
 (cond (Nat.blt pc 23)
 (cond (Nat.beq pc 20) (some (.goto 31, 3)) (none))
 (cond (Nat.beq pc 23) (some (.iload 3, 1)) (none)))))
 (cond (Nat.blt pc 29)
 (cond (Nat.blt pc 25)
 (cond (Nat.beq pc 24) (some (.aload 0, 1)) (none))
 (cond (Nat.blt pc 28)
 (cond (Nat.beq pc 25) (some (.getfield 803, 3)) (none))
 (cond (Nat.beq pc 28) (some (.iconst 3, 1)) (none))))
 (cond (Nat.blt pc 30)
 (cond (Nat.beq pc 29) (some (.iaload, 1)) (none))
 (cond (Nat.blt pc 31)
 (cond (Nat.beq pc 30) (some (.imul, 1)) (none))
 (cond (Nat.beq pc 31) (some (.ireturn, 1)) (none))))))
-- AlwaysThereModel.way(II)I
noncomputable def qc_128 (pc : Nat) : Option (Instr × Nat) := cond (Nat.blt pc 13)
 (cond (Nat.blt pc 5)
 (cond (Nat.blt pc 1)
 (cond (Nat.beq pc 0) (some (.aload 0, 1)) (none))
 (cond (Nat.blt pc 2)
 (cond (Nat.beq pc 1) (some (.iload 1, 1)) (none))
 (cond (Nat.beq pc 2) (some (.invokevirtual 105, 3)) (none))))
 (cond (Nat.blt pc 9)
 (cond (Nat.blt pc 8)
 (cond (Nat.beq pc 5) (some (.ifCond .eq 25, 3)) (none))
 (cond (Nat.beq pc 8) (some (.aload 0, 1)) (none)))
 (cond (Nat.blt pc 10)
 (cond (Nat.beq pc 9) (some (.iload 2, 1)) (none))
 (cond (Nat.beq pc 10) (some (.invokevirtual 105, 3)) (none)))))
 (cond (Nat.blt pc 19)
 (cond (Nat.blt pc 17)
 (cond (Nat.blt pc 16)
 (cond (Nat.beq pc 13) (some (.ifCond .eq 25, 3)) (none))
 (cond (Nat.beq pc 16) (some (.aload 0, 1)) (none)))
 (cond (Nat.blt pc 18)
 (cond (Nat.beq pc 17) (some (.iload 1, 1)) (none))
 (cond (Nat.beq pc 18) (some (.iload 2, 1)) (none))))
 (cond (Nat.blt pc 25)
 (cond (Nat.blt pc 22)
 (cond (Nat.beq pc 19) (some (.invokevirtual 127, 3)) (none))
 (cond (Nat.beq pc 22) (some (.goto 26, 3)) (none)))
 (cond (Nat.blt pc 26)
 (cond (Nat.beq pc 25) (some (.iconst (-1), 1)) (none))
 (cond (Nat.beq pc 26) (some (.ireturn, 1)) (none)))))
-- AlwaysThereModel.sights(I)I
noncomputable def qc_129 (pc : Nat) : Option (Instr × Nat) := cond (Nat.blt pc 12)
 (cond (Nat.blt pc 5)
 (cond (Nat.blt pc 1)
 (cond (Nat.beq pc 0) (some (.aload 0, 1)) (none))
 (cond (Nat.blt pc 2)
 (cond (Nat.beq pc 1) (some (.iload 1, 1)) (none))
 (cond (Nat.beq pc 2) (some (.invokevirtual 105, 3)) (none))))
 (cond (Nat.blt pc 8)
 (cond (Nat.beq pc 5) (some (.ifCond .eq 20, 3)) (none))
 (cond (Nat.blt pc 9)
 (cond (Nat.beq pc 8) (some (.aload 0, 1)) (none))
 (cond (Nat.beq pc 9) (some (.getfield 803, 3)) (none)))))
 (cond (Nat.blt pc 16)
 (cond (Nat.blt pc 14)
 (cond (Nat.beq pc 12) (some (.iconst 85, 2)) (none))
 (cond (Nat.blt pc 15)
 (cond (Nat.beq pc 14) (some (.iload 1, 1)) (none))
 (cond (Nat.beq pc 15) (some (.iadd, 1)) (none))))
 (cond (Nat.blt pc 20)
 (cond (Nat.blt pc 17)
 (cond (Nat.beq pc 16) (some (.iaload, 1)) (none))
 (cond (Nat.beq pc 17) (some (.goto 21, 3)) (none)))
 (cond (Nat.blt pc 21)
 (cond (Nat.beq pc 20) (some (.iconst (-1), 1)) (none))
 (cond (Nat.beq pc 21) (some (.ireturn, 1)) (none)))))
-- AlwaysThereModel.hedgehog(I)I
noncomputable def qc_130 (pc : Nat) : Option (Instr × Nat) := cond (Nat.blt pc 12)
 (cond (Nat.blt pc 5)
 (cond (Nat.blt pc 1)
 (cond (Nat.beq pc 0) (some (.aload 0, 1)) (none))
 (cond (Nat.blt pc 2)
 (cond (Nat.beq pc 1) (some (.iload 1, 1)) (none))
 (cond (Nat.beq pc 2) (some (.invokevirtual 106, 3)) (none))))
 (cond (Nat.blt pc 8)
 (cond (Nat.beq pc 5) (some (.ifCond .eq 20, 3)) (none))
 (cond (Nat.blt pc 9)
 (cond (Nat.beq pc 8) (some (.aload 0, 1)) (none))
 (cond (Nat.beq pc 9) (some (.getfield 803, 3)) (none)))))
 (cond (Nat.blt pc 16)
 (cond (Nat.blt pc 14)
 (cond (Nat.beq pc 12) (some (.iconst 8, 2)) (none))
 (cond (Nat.blt pc 15)
 (cond (Nat.beq pc 14) (some (.iload 1, 1)) (none))
 (cond (Nat.beq pc 15) (some (.iadd, 1)) (none))))
 (cond (Nat.blt pc 20)
 (cond (Nat.blt pc 17)
 (cond (Nat.beq pc 16) (some (.iaload, 1)) (none))
 (cond (Nat.beq pc 17) (some (.goto 21, 3)) (none)))
 (cond (Nat.blt pc 21)
 (cond (Nat.beq pc 20) (some (.iconst (-1), 1)) (none))
 (cond (Nat.beq pc 21) (some (.ireturn, 1)) (none)))))
-- AlwaysThereModel.comes(I)I
noncomputable def qc_131 (pc : Nat) : Option (Instr × Nat) := cond (Nat.blt pc 37)
 (cond (Nat.blt pc 17)
 (cond (Nat.blt pc 6)
 (cond (Nat.blt pc 3)
 (cond (Nat.blt pc 1)
 (cond (Nat.beq pc 0) (some (.iconst 0, 1)) (none))
 (cond (Nat.blt pc 2)
 (cond (Nat.beq pc 1) (some (.istore 2, 1)) (none))
 (cond (Nat.beq pc 2) (some (.iconst 0, 1)) (none))))
 (cond (Nat.blt pc 4)
 (cond (Nat.beq pc 3) (some (.istore 3, 1)) (none))
 (cond (Nat.blt pc 5)
 (cond (Nat.beq pc 4) (some (.iload 3, 1)) (none))
 (cond (Nat.beq pc 5) (some (.iload 1, 1)) (none)))))
 (cond (Nat.blt pc 11)
 (cond (Nat.blt pc 9)
 (cond (Nat.beq pc 6) (some (.if_icmp .ge 69, 3)) (none))
 (cond (Nat.blt pc 10)
 (cond (Nat.beq pc 9) (some (.iload 2, 1)) (none))
 (cond (Nat.beq pc 10) (some (.aload 0, 1)) (none))))
 (cond (Nat.blt pc 14)
 (cond (Nat.beq pc 11) (some (.getfield 805, 3)) (none))
 (cond (Nat.blt pc 16)
 (cond (Nat.beq pc 14) (some (.iconst 49, 2)) (none))
 (cond (Nat.beq pc 16) (some (.iload 3, 1)) (none))))))
 (cond (Nat.blt pc 27)
 (cond (Nat.blt pc 20)
 (cond (Nat.blt pc 18)
 (cond (Nat.beq pc 17) (some (.iadd, 1)) (none))
 (cond (Nat.blt pc 19)
 (cond (Nat.beq pc 18) (some (.iaload, 1)) (none))
 (cond (Nat.beq pc 19) (some (.aload 0, 1)) (none))))
 (cond (Nat.blt pc 23)
 (cond (Nat.beq pc 20) (some (.getfield 803, 3)) (none))
 (cond (Nat.blt pc 25)
 (cond (Nat.beq pc 23) (some (.iconst 21, 2)) (none))
 (cond (Nat.beq pc 25) (some (.iconst 8, 2)) (none)))))
 (cond (Nat.blt pc 33)
 (cond (Nat.blt pc 28)
 (cond (Nat.beq pc 27) (some (.aload 0, 1)) (none))
 (cond (Nat.blt pc 31)
 (cond (Nat.beq pc 28) (some (.getfield 803, 3)) (none))
 (cond (Nat.beq pc 31) (some (.iconst 13, 2)) (none))))
 (cond (Nat.blt pc 35)
 (cond (Nat.blt pc 34)
 (cond (Nat.beq pc 33) (some (.iload 3, 1)) (none))
 (cond (Nat.beq pc 34) (some (.iadd, 1)) (none)))
 (cond (Nat.blt pc 36)
 (cond (Nat.beq pc 35) (some (.iaload, 1)) (none))
 (cond (Nat.beq pc 36) (some (.imul, 1)) (none)))))))
 (cond (Nat.blt pc 52)
 (cond (Nat.blt pc 46)
 (cond (Nat.blt pc 42)
 (cond (Nat.blt pc 38)
 (cond (Nat.beq pc 37) (some (.iadd, 1)) (none))
 (cond (Nat.blt pc 39)
 (cond (Nat.beq pc 38) (some (.aload 0, 1)) (none))
 (cond (Nat.beq pc 39) (some (.getfield 803, 3)) (none))))
 (cond (Nat.blt pc 44)
 (cond (Nat.beq pc 42) (some (.iconst 13, 2)) (none))
 (cond (Nat.blt pc 45)
 (cond (Nat.beq pc 44) (some (.iload 3, 1)) (none))
 (cond (Nat.beq pc 45) (some (.iadd, 1)) (none)))))
 (cond (Nat.blt pc 49)
 (cond (Nat.blt pc 47)
 (cond (Nat.beq pc 46) (some (.iconst 1, 1)) (none))
 (cond (Nat.blt pc 48)
 (cond (Nat.beq pc 47) (some (.iadd, 1)) (none))
 (cond (Nat.beq pc 48) (some (.iaload, 1)) (none))))
 (cond (Nat.blt pc 50)
 (cond (Nat.beq pc 49) (some (.iadd, 1)) (none))
 (cond (Nat.blt pc 51)
 (cond (Nat.beq pc 50) (some (.iaload, 1)) (none))
 (cond (Nat.beq pc 51) (some (.iadd, 1)) (none))))))
 (cond (Nat.blt pc 60)
 (cond (Nat.blt pc 57)
 (cond (Nat.blt pc 53)
 (cond (Nat.beq pc 52) (some (.iload 3, 1)) (none))
 (cond (Nat.blt pc 54)
 (cond (Nat.beq pc 53) (some (.aload 0, 1)) (none))
 (cond (Nat.beq pc 54) (some (.getfield 803, 3)) (none))))
 (cond (Nat.blt pc 58)
 (cond (Nat.beq pc 57) (some (.iconst 4, 1)) (none))
 (cond (Nat.blt pc 59)
 (cond (Nat.beq pc 58) (some (.iaload, 1)) (none))
 (cond (Nat.beq pc 59) (some (.imul, 1)) (none)))))
 (cond (Nat.blt pc 63)
 (cond (Nat.blt pc 61)
 (cond (Nat.beq pc 60) (some (.iadd, 1)) (none))
 (cond (Nat.blt pc 62)
 (cond (Nat.beq pc 61) (some (.iadd, 1)) (none))
 (cond (Nat.beq pc 62) (some (.istore 2, 1)) (none))))
 (cond (Nat.blt pc 69)
 (cond (Nat.blt pc 66)
 (cond (Nat.beq pc 63) (some (.iinc 3 1, 3)) (none))
 (cond (Nat.beq pc 66) (some (.goto 4, 3)) (none)))
 (cond (Nat.blt pc 70)
 (cond (Nat.beq pc 69) (some (.iload 2, 1)) (none))
 (cond (Nat.beq pc 70) (some (.ireturn, 1)) (none)))))))
-- AlwaysThereModel.sitting(II)I
noncomputable def qc_132 (pc : Nat) : Option (Instr × Nat) := cond (Nat.blt pc 46)
 (cond (Nat.blt pc 25)
 (cond (Nat.blt pc 11)
 (cond (Nat.blt pc 3)
 (cond (Nat.blt pc 1)
 (cond (Nat.beq pc 0) (some (.iconst 0, 1)) (none))
 (cond (Nat.blt pc 2)
 (cond (Nat.beq pc 1) (some (.istore 3, 1)) (none))
 (cond (Nat.beq pc 2) (some (.iconst 0, 1)) (none))))
 (cond (Nat.blt pc 7)
 (cond (Nat.blt pc 5)
 (cond (Nat.beq pc 3) (some (.istore 4, 2)) (none))
 (cond (Nat.beq pc 5) (some (.iload 4, 2)) (none)))
 (cond (Nat.blt pc 8)
 (cond (Nat.beq pc 7) (some (.aload 0, 1)) (none))
 (cond (Nat.beq pc 8) (some (.getfield 805, 3)) (none)))))
 (cond (Nat.blt pc 17)
 (cond (Nat.blt pc 13)
 (cond (Nat.blt pc 12)
 (cond (Nat.beq pc 11) (some (.iconst 0, 1)) (none))
 (cond (Nat.beq pc 12) (some (.iaload, 1)) (none)))
 (cond (Nat.blt pc 16)
 (cond (Nat.beq pc 13) (some (.if_icmp .ge 97, 3)) (none))
 (cond (Nat.beq pc 16) (some (.iload 1, 1)) (none))))
 (cond (Nat.blt pc 21)
 (cond (Nat.blt pc 18)
 (cond (Nat.beq pc 17) (some (.aload 0, 1)) (none))
 (cond (Nat.beq pc 18) (some (.getfield 805, 3)) (none)))
 (cond (Nat.blt pc 23)
 (cond (Nat.beq pc 21) (some (.iconst 13, 2)) (none))
 (cond (Nat.beq pc 23) (some (.iload 4, 2)) (none))))))
 (cond (Nat.blt pc 34)
 (cond (Nat.blt pc 28)
 (cond (Nat.blt pc 26)
 (cond (Nat.beq pc 25) (some (.iadd, 1)) (none))
 (cond (Nat.blt pc 27)
 (cond (Nat.beq pc 26) (some (.iaload, 1)) (none))
 (cond (Nat.beq pc 27) (some (.ishr, 1)) (none))))
 (cond (Nat.blt pc 30)
 (cond (Nat.blt pc 29)
 (cond (Nat.beq pc 28) (some (.iconst 1, 1)) (none))
 (cond (Nat.beq pc 29) (some (.iand, 1)) (none)))
 (cond (Nat.blt pc 31)
 (cond (Nat.beq pc 30) (some (.iconst 1, 1)) (none))
 (cond (Nat.beq pc 31) (some (.if_icmp .ne 65, 3)) (none)))))
 (cond (Nat.blt pc 41)
 (cond (Nat.blt pc 36)
 (cond (Nat.blt pc 35)
 (cond (Nat.beq pc 34) (some (.iload 2, 1)) (none))
 (cond (Nat.beq pc 35) (some (.aload 0, 1)) (none)))
 (cond (Nat.blt pc 39)
 (cond (Nat.beq pc 36) (some (.getfield 805, 3)) (none))
 (cond (Nat.beq pc 39) (some (.iconst 25, 2)) (none))))
 (cond (Nat.blt pc 44)
 (cond (Nat.blt pc 43)
 (cond (Nat.beq pc 41) (some (.iload 4, 2)) (none))
 (cond (Nat.beq pc 43) (some (.iadd, 1)) (none)))
 (cond (Nat.blt pc 45)
 (cond (Nat.beq pc 44) (some (.iaload, 1)) (none))
 (cond (Nat.beq pc 45) (some (.aload 0, 1)) (none)))))))
 (cond (Nat.blt pc 75)
 (cond (Nat.blt pc 61)
 (cond (Nat.blt pc 53)
 (cond (Nat.blt pc 49)
 (cond (Nat.beq pc 46) (some (.getfield 805, 3)) (none))
 (cond (Nat.blt pc 51)
 (cond (Nat.beq pc 49) (some (.iconst 37, 2)) (none))
 (cond (Nat.beq pc 51) (some (.iload 4, 2)) (none))))
 (cond (Nat.blt pc 55)
 (cond (Nat.blt pc 54)
 (cond (Nat.beq pc 53) (some (.iadd, 1)) (none))
 (cond (Nat.beq pc 54) (some (.iaload, 1)) (none)))
 (cond (Nat.blt pc 58)
 (cond (Nat.beq pc 55) (some (.invokestatic 104, 3)) (none))
 (cond (Nat.beq pc 58) (some (.ifCond .eq 65, 3)) (none)))))
 (cond (Nat.blt pc 68)
 (cond (Nat.blt pc 65)
 (cond (Nat.blt pc 62)
 (cond (Nat.beq pc 61) (some (.iconst 1, 1)) (none))
 (cond (Nat.beq pc 62) (some (.goto 66, 3)) (none)))
 (cond (Nat.blt pc 66)
 (cond (Nat.beq pc 65) (some (.iconst 0, 1)) (none))
 (cond (Nat.beq pc 66) (some (.istore 5, 2)) (none))))
 (cond (Nat.blt pc 71)
 (cond (Nat.blt pc 69)
 (cond (Nat.beq pc 68) (some (.iload 3, 1)) (none))
 (cond (Nat.beq pc 69) (some (.iload 5, 2)) (none)))
 (cond (Nat.blt pc 74)
 (cond (Nat.beq pc 71) (some (.ifCond .eq 88, 3)) (none))
 (cond (Nat.beq pc 74) (some (.iconst 1, 1)) (none))))))
 (cond (Nat.blt pc 85)
 (cond (Nat.blt pc 80)
 (cond (Nat.blt pc 76)
 (cond (Nat.beq pc 75) (some (.aload 0, 1)) (none))
 (cond (Nat.blt pc 79)
 (cond (Nat.beq pc 76) (some (.getfield 805, 3)) (none))
 (cond (Nat.beq pc 79) (some (.iconst 1, 1)) (none))))
 (cond (Nat.blt pc 83)
 (cond (Nat.blt pc 82)
 (cond (Nat.beq pc 80) (some (.iload 4, 2)) (none))
 (cond (Nat.beq pc 82) (some (.iadd, 1)) (none)))
 (cond (Nat.blt pc 84)
 (cond (Nat.beq pc 83) (some (.iaload, 1)) (none))
 (cond (Nat.beq pc 84) (some (.ishl, 1)) (none)))))
 (cond (Nat.blt pc 91)
 (cond (Nat.blt pc 89)
 (cond (Nat.blt pc 88)
 (cond (Nat.beq pc 85) (some (.goto 89, 3)) (none))
 (cond (Nat.beq pc 88) (some (.iconst 0, 1)) (none)))
 (cond (Nat.blt pc 90)
 (cond (Nat.beq pc 89) (some (.ior, 1)) (none))
 (cond (Nat.beq pc 90) (some (.istore 3, 1)) (none))))
 (cond (Nat.blt pc 97)
 (cond (Nat.blt pc 94)
 (cond (Nat.beq pc 91) (some (.iinc 4 1, 3)) (none))
 (cond (Nat.beq pc 94) (some (.goto 5, 3)) (none)))
 (cond (Nat.blt pc 98)
 (cond (Nat.beq pc 97) (some (.iload 3, 1)) (none))
 (cond (Nat.beq pc 98) (some (.ireturn, 1)) (none)))))))
-- AlwaysThereModel.meets(I)I
noncomputable def qc_133 (pc : Nat) : Option (Instr × Nat) := cond (Nat.blt pc 10)
 (cond (Nat.blt pc 3)
 (cond (Nat.blt pc 1)
 (cond (Nat.beq pc 0) (some (.aload 0, 1)) (none))
 (cond (Nat.blt pc 2)
 (cond (Nat.beq pc 1) (some (.iconst 1, 1)) (none))
 (cond (Nat.beq pc 2) (some (.aload 0, 1)) (none))))
 (cond (Nat.blt pc 8)
 (cond (Nat.blt pc 6)
 (cond (Nat.beq pc 3) (some (.getfield 803, 3)) (none))
 (cond (Nat.beq pc 6) (some (.iconst 13, 2)) (none)))
 (cond (Nat.blt pc 9)
 (cond (Nat.beq pc 8) (some (.iload 1, 1)) (none))
 (cond (Nat.beq pc 9) (some (.iadd, 1)) (none)))))
 (cond (Nat.blt pc 13)
 (cond (Nat.blt pc 11)
 (cond (Nat.beq pc 10) (some (.iaload, 1)) (none))
 (cond (Nat.blt pc 12)
 (cond (Nat.beq pc 11) (some (.ishl, 1)) (none))
 (cond (Nat.beq pc 12) (some (.aload 0, 1)) (none))))
 (cond (Nat.blt pc 17)
 (cond (Nat.blt pc 14)
 (cond (Nat.beq pc 13) (some (.iload 1, 1)) (none))
 (cond (Nat.beq pc 14) (some (.invokevirtual 131, 3)) (none)))
 (cond (Nat.blt pc 20)
 (cond (Nat.beq pc 17) (some (.invokevirtual 132, 3)) (none))
 (cond (Nat.beq pc 20) (some (.ireturn, 1)) (none)))))
-- AlwaysThereModel.sees(I)I
noncomputable def qc_134 (pc : Nat) : Option (Instr × Nat) := cond (Nat.blt pc 14)
 (cond (Nat.blt pc 8)
 (cond (Nat.blt pc 4)
 (cond (Nat.blt pc 1)
 (cond (Nat.beq pc 0) (some (.aload 0, 1)) (none))
 (cond (Nat.beq pc 1) (some (.getfield 803, 3)) (none)))
 (cond (Nat.blt pc 6)
 (cond (Nat.beq pc 4) (some (.iconst 13, 2)) (none))
 (cond (Nat.blt pc 7)
 (cond (Nat.beq pc 6) (some (.iload 1, 1)) (none))
 (cond (Nat.beq pc 7) (some (.iadd, 1)) (none)))))
 (cond (Nat.blt pc 11)
 (cond (Nat.blt pc 9)
 (cond (Nat.beq pc 8) (some (.iaload, 1)) (none))
 (cond (Nat.blt pc 10)
 (cond (Nat.beq pc 9) (some (.istore 2, 1)) (none))
 (cond (Nat.beq pc 10) (some (.aload 0, 1)) (none))))
 (cond (Nat.blt pc 12)
 (cond (Nat.beq pc 11) (some (.iconst 1, 1)) (none))
 (cond (Nat.blt pc 13)
 (cond (Nat.beq pc 12) (some (.iload 2, 1)) (none))
 (cond (Nat.beq pc 13) (some (.ishl, 1)) (none))))))
 (cond (Nat.blt pc 23)
 (cond (Nat.blt pc 20)
 (cond (Nat.blt pc 15)
 (cond (Nat.beq pc 14) (some (.aload 0, 1)) (none))
 (cond (Nat.blt pc 18)
 (cond (Nat.beq pc 15) (some (.getfield 803, 3)) (none))
 (cond (Nat.beq pc 18) (some (.iconst 85, 2)) (none))))
 (cond (Nat.blt pc 21)
 (cond (Nat.beq pc 20) (some (.iload 2, 1)) (none))
 (cond (Nat.blt pc 22)
 (cond (Nat.beq pc 21) (some (.iadd, 1)) (none))
 (cond (Nat.beq pc 22) (some (.iaload, 1)) (none)))))
 (cond (Nat.blt pc 26)
 (cond (Nat.blt pc 24)
 (cond (Nat.beq pc 23) (some (.ior, 1)) (none))
 (cond (Nat.blt pc 25)
 (cond (Nat.beq pc 24) (some (.aload 0, 1)) (none))
 (cond (Nat.beq pc 25) (some (.iload 1, 1)) (none))))
 (cond (Nat.blt pc 29)
 (cond (Nat.beq pc 26) (some (.invokevirtual 131, 3)) (none))
 (cond (Nat.blt pc 32)
 (cond (Nat.beq pc 29) (some (.invokevirtual 132, 3)) (none))
 (cond (Nat.beq pc 32) (some (.ireturn, 1)) (none))))))
-- AlwaysThereModel.point(II)I
noncomputable def qc_135 (pc : Nat) : Option (Instr × Nat) := cond (Nat.blt pc 50)
 (cond (Nat.blt pc 24)
 (cond (Nat.blt pc 11)
 (cond (Nat.blt pc 5)
 (cond (Nat.blt pc 1)
 (cond (Nat.beq pc 0) (some (.aload 0, 1)) (none))
 (cond (Nat.blt pc 2)
 (cond (Nat.beq pc 1) (some (.iload 1, 1)) (none))
 (cond (Nat.beq pc 2) (some (.invokevirtual 107, 3)) (none))))
 (cond (Nat.blt pc 9)
 (cond (Nat.blt pc 8)
 (cond (Nat.beq pc 5) (some (.ifCond .eq 17, 3)) (none))
 (cond (Nat.beq pc 8) (some (.iload 2, 1)) (none)))
 (cond (Nat.blt pc 10)
 (cond (Nat.beq pc 9) (some (.iconst 0, 1)) (none))
 (cond (Nat.beq pc 10) (some (.iconst 5, 1)) (none)))))
 (cond (Nat.blt pc 18)
 (cond (Nat.blt pc 14)
 (cond (Nat.beq pc 11) (some (.invokestatic 104, 3)) (none))
 (cond (Nat.blt pc 17)
 (cond (Nat.beq pc 14) (some (.ifCond .ne 19, 3)) (none))
 (cond (Nat.beq pc 17) (some (.iconst (-1), 1)) (none))))
 (cond (Nat.blt pc 20)
 (cond (Nat.blt pc 19)
 (cond (Nat.beq pc 18) (some (.ireturn, 1)) (none))
 (cond (Nat.beq pc 19) (some (.iload 2, 1)) (none)))
 (cond (Nat.blt pc 23)
 (cond (Nat.beq pc 20) (some (.ifCond .ne 35, 3)) (none))
 (cond (Nat.beq pc 23) (some (.aload 0, 1)) (none))))))
 (cond (Nat.blt pc 36)
 (cond (Nat.blt pc 30)
 (cond (Nat.blt pc 27)
 (cond (Nat.beq pc 24) (some (.getfield 803, 3)) (none))
 (cond (Nat.blt pc 29)
 (cond (Nat.beq pc 27) (some (.iconst 13, 2)) (none))
 (cond (Nat.beq pc 29) (some (.iload 1, 1)) (none))))
 (cond (Nat.blt pc 32)
 (cond (Nat.blt pc 31)
 (cond (Nat.beq pc 30) (some (.iadd, 1)) (none))
 (cond (Nat.beq pc 31) (some (.iaload, 1)) (none)))
 (cond (Nat.blt pc 35)
 (cond (Nat.beq pc 32) (some (.goto 100, 3)) (none))
 (cond (Nat.beq pc 35) (some (.iload 2, 1)) (none)))))
 (cond (Nat.blt pc 42)
 (cond (Nat.blt pc 40)
 (cond (Nat.blt pc 37)
 (cond (Nat.beq pc 36) (some (.iconst 1, 1)) (none))
 (cond (Nat.beq pc 37) (some (.if_icmp .ne 48, 3)) (none)))
 (cond (Nat.blt pc 41)
 (cond (Nat.beq pc 40) (some (.aload 0, 1)) (none))
 (cond (Nat.beq pc 41) (some (.iload 1, 1)) (none))))
 (cond (Nat.blt pc 48)
 (cond (Nat.blt pc 45)
 (cond (Nat.beq pc 42) (some (.invokevirtual 131, 3)) (none))
 (cond (Nat.beq pc 45) (some (.goto 100, 3)) (none)))
 (cond (Nat.blt pc 49)
 (cond (Nat.beq pc 48) (some (.iload 2, 1)) (none))
 (cond (Nat.beq pc 49) (some (.iconst 2, 1)) (none)))))))
 (cond (Nat.blt pc 75)
 (cond (Nat.blt pc 62)
 (cond (Nat.blt pc 57)
 (cond (Nat.blt pc 53)
 (cond (Nat.beq pc 50) (some (.if_icmp .ne 65, 3)) (none))
 (cond (Nat.blt pc 54)
 (cond (Nat.beq pc 53) (some (.aload 0, 1)) (none))
 (cond (Nat.beq pc 54) (some (.getfield 805, 3)) (none))))
 (cond (Nat.blt pc 60)
 (cond (Nat.blt pc 59)
 (cond (Nat.beq pc 57) (some (.iconst 49, 2)) (none))
 (cond (Nat.beq pc 59) (some (.iload 1, 1)) (none)))
 (cond (Nat.blt pc 61)
 (cond (Nat.beq pc 60) (some (.iadd, 1)) (none))
 (cond (Nat.beq pc 61) (some (.iaload, 1)) (none)))))
 (cond (Nat.blt pc 67)
 (cond (Nat.blt pc 65)
 (cond (Nat.beq pc 62) (some (.goto 100, 3)) (none))
 (cond (Nat.blt pc 66)
 (cond (Nat.beq pc 65) (some (.iload 2, 1)) (none))
 (cond (Nat.beq pc 66) (some (.iconst 3, 1)) (none))))
 (cond (Nat.blt pc 71)
 (cond (Nat.blt pc 70)
 (cond (Nat.beq pc 67) (some (.if_icmp .ne 78, 3)) (none))
 (cond (Nat.beq pc 70) (some (.aload 0, 1)) (none)))
 (cond (Nat.blt pc 72)
 (cond (Nat.beq pc 71) (some (.iload 1, 1)) (none))
 (cond (Nat.beq pc 72) (some (.invokevirtual 133, 3)) (none))))))
 (cond (Nat.blt pc 88)
 (cond (Nat.blt pc 80)
 (cond (Nat.blt pc 78)
 (cond (Nat.beq pc 75) (some (.goto 100, 3)) (none))
 (cond (Nat.blt pc 79)
 (cond (Nat.beq pc 78) (some (.iload 2, 1)) (none))
 (cond (Nat.beq pc 79) (some (.iconst 4, 1)) (none))))
 (cond (Nat.blt pc 84)
 (cond (Nat.blt pc 83)
 (cond (Nat.beq pc 80) (some (.if_icmp .ne 91, 3)) (none))
 (cond (Nat.beq pc 83) (some (.aload 0, 1)) (none)))
 (cond (Nat.blt pc 85)
 (cond (Nat.beq pc 84) (some (.iload 1, 1)) (none))
 (cond (Nat.beq pc 85) (some (.invokevirtual 134, 3)) (none)))))
 (cond (Nat.blt pc 97)
 (cond (Nat.blt pc 92)
 (cond (Nat.blt pc 91)
 (cond (Nat.beq pc 88) (some (.goto 100, 3)) (none))
 (cond (Nat.beq pc 91) (some (.aload 0, 1)) (none)))
 (cond (Nat.blt pc 95)
 (cond (Nat.beq pc 92) (some (.getfield 805, 3)) (none))
 (cond (Nat.beq pc 95) (some (.iconst 57, 2)) (none))))
 (cond (Nat.blt pc 99)
 (cond (Nat.blt pc 98)
 (cond (Nat.beq pc 97) (some (.iload 1, 1)) (none))
 (cond (Nat.beq pc 98) (some (.iadd, 1)) (none)))
 (cond (Nat.blt pc 100)
 (cond (Nat.beq pc 99) (some (.iaload, 1)) (none))
 (cond (Nat.beq pc 100) (some (.ireturn, 1)) (none)))))))
-- AlwaysThereModel.keeps()V
noncomputable def qc_136 (pc : Nat) : Option (Instr × Nat) := cond (Nat.blt pc 49)
 (cond (Nat.blt pc 24)
 (cond (Nat.blt pc 11)
 (cond (Nat.blt pc 6)
 (cond (Nat.blt pc 1)
 (cond (Nat.beq pc 0) (some (.aload 0, 1)) (none))
 (cond (Nat.blt pc 4)
 (cond (Nat.beq pc 1) (some (.getfield 807, 3)) (none))
 (cond (Nat.beq pc 4) (some (.iconst 12, 2)) (none))))
 (cond (Nat.blt pc 9)
 (cond (Nat.beq pc 6) (some (.if_icmp .ne 49, 3)) (none))
 (cond (Nat.blt pc 10)
 (cond (Nat.beq pc 9) (some (.iconst 0, 1)) (none))
 (cond (Nat.beq pc 10) (some (.istore 1, 1)) (none)))))
 (cond (Nat.blt pc 18)
 (cond (Nat.blt pc 12)
 (cond (Nat.beq pc 11) (some (.iload 1, 1)) (none))
 (cond (Nat.blt pc 15)
 (cond (Nat.beq pc 12) (some (.iconst 627, 3)) (none))
 (cond (Nat.beq pc 15) (some (.if_icmp .ge 39, 3)) (none))))
 (cond (Nat.blt pc 22)
 (cond (Nat.blt pc 19)
 (cond (Nat.beq pc 18) (some (.aload 0, 1)) (none))
 (cond (Nat.beq pc 19) (some (.getfield 806, 3)) (none)))
 (cond (Nat.blt pc 23)
 (cond (Nat.beq pc 22) (some (.iload 1, 1)) (none))
 (cond (Nat.beq pc 23) (some (.aload 0, 1)) (none))))))
 (cond (Nat.blt pc 36)
 (cond (Nat.blt pc 30)
 (cond (Nat.blt pc 27)
 (cond (Nat.beq pc 24) (some (.getfield 806, 3)) (none))
 (cond (Nat.blt pc 28)
 (cond (Nat.beq pc 27) (some (.iload 1, 1)) (none))
 (cond (Nat.beq pc 28) (some (.iconst 57, 2)) (none))))
 (cond (Nat.blt pc 32)
 (cond (Nat.blt pc 31)
 (cond (Nat.beq pc 30) (some (.iadd, 1)) (none))
 (cond (Nat.beq pc 31) (some (.iaload, 1)) (none)))
 (cond (Nat.blt pc 33)
 (cond (Nat.beq pc 32) (some (.iastore, 1)) (none))
 (cond (Nat.beq pc 33) (some (.iinc 1 1, 3)) (none)))))
 (cond (Nat.blt pc 41)
 (cond (Nat.blt pc 39)
 (cond (Nat.beq pc 36) (some (.goto 11, 3)) (none))
 (cond (Nat.blt pc 40)
 (cond (Nat.beq pc 39) (some (.aload 0, 1)) (none))
 (cond (Nat.beq pc 40) (some (.dup, 1)) (none))))
 (cond (Nat.blt pc 45)
 (cond (Nat.blt pc 44)
 (cond (Nat.beq pc 41) (some (.getfield 807, 3)) (none))
 (cond (Nat.beq pc 44) (some (.iconst 1, 1)) (none)))
 (cond (Nat.blt pc 46)
 (cond (Nat.beq pc 45) (some (.isub, 1)) (none))
 (cond (Nat.beq pc 46) (some (.putfield 807, 3)) (none)))))))
 (cond (Nat.blt pc 70)
 (cond (Nat.blt pc 58)
 (cond (Nat.blt pc 52)
 (cond (Nat.blt pc 50)
 (cond (Nat.beq pc 49) (some (.iconst 0, 1)) (none))
 (cond (Nat.blt pc 51)
 (cond (Nat.beq pc 50) (some (.istore 1, 1)) (none))
 (cond (Nat.beq pc 51) (some (.iload 1, 1)) (none))))
 (cond (Nat.blt pc 54)
 (cond (Nat.beq pc 52) (some (.iconst 57, 2)) (none))
 (cond (Nat.blt pc 57)
 (cond (Nat.beq pc 54) (some (.if_icmp .ge 83, 3)) (none))
 (cond (Nat.beq pc 57) (some (.aload 0, 1)) (none)))))
 (cond (Nat.blt pc 64)
 (cond (Nat.blt pc 61)
 (cond (Nat.beq pc 58) (some (.getfield 806, 3)) (none))
 (cond (Nat.blt pc 63)
 (cond (Nat.beq pc 61) (some (.iconst 57, 2)) (none))
 (cond (Nat.beq pc 63) (some (.aload 0, 1)) (none))))
 (cond (Nat.blt pc 68)
 (cond (Nat.blt pc 67)
 (cond (Nat.beq pc 64) (some (.getfield 807, 3)) (none))
 (cond (Nat.beq pc 67) (some (.imul, 1)) (none)))
 (cond (Nat.blt pc 69)
 (cond (Nat.beq pc 68) (some (.iload 1, 1)) (none))
 (cond (Nat.beq pc 69) (some (.iadd, 1)) (none))))))
 (cond (Nat.blt pc 83)
 (cond (Nat.blt pc 75)
 (cond (Nat.blt pc 71)
 (cond (Nat.beq pc 70) (some (.aload 0, 1)) (none))
 (cond (Nat.blt pc 74)
 (cond (Nat.beq pc 71) (some (.getfield 805, 3)) (none))
 (cond (Nat.beq pc 74) (some (.iload 1, 1)) (none))))
 (cond (Nat.blt pc 77)
 (cond (Nat.blt pc 76)
 (cond (Nat.beq pc 75) (some (.iaload, 1)) (none))
 (cond (Nat.beq pc 76) (some (.iastore, 1)) (none)))
 (cond (Nat.blt pc 80)
 (cond (Nat.beq pc 77) (some (.iinc 1 1, 3)) (none))
 (cond (Nat.beq pc 80) (some (.goto 51, 3)) (none)))))
 (cond (Nat.blt pc 88)
 (cond (Nat.blt pc 84)
 (cond (Nat.beq pc 83) (some (.aload 0, 1)) (none))
 (cond (Nat.blt pc 85)
 (cond (Nat.beq pc 84) (some (.dup, 1)) (none))
 (cond (Nat.beq pc 85) (some (.getfield 807, 3)) (none))))
 (cond (Nat.blt pc 90)
 (cond (Nat.blt pc 89)
 (cond (Nat.beq pc 88) (some (.iconst 1, 1)) (none))
 (cond (Nat.beq pc 89) (some (.iadd, 1)) (none)))
 (cond (Nat.blt pc 93)
 (cond (Nat.beq pc 90) (some (.putfield 807, 3)) (none))
 (cond (Nat.beq pc 93) (some (.return_, 1)) (none)))))))
-- AlwaysThereModel.areOne(IIIIII)Z
noncomputable def qc_137 (pc : Nat) : Option (Instr × Nat) := cond (Nat.blt pc 33)
 (cond (Nat.blt pc 18)
 (cond (Nat.blt pc 8)
 (cond (Nat.blt pc 3)
 (cond (Nat.blt pc 1)
 (cond (Nat.beq pc 0) (some (.iload 2, 1)) (none))
 (cond (Nat.beq pc 1) (some (.iload 6, 2)) (none)))
 (cond (Nat.blt pc 6)
 (cond (Nat.beq pc 3) (some (.if_icmp .gt 24, 3)) (none))
 (cond (Nat.beq pc 6) (some (.iload 5, 2)) (none))))
 (cond (Nat.blt pc 12)
 (cond (Nat.blt pc 9)
 (cond (Nat.beq pc 8) (some (.iload 3, 1)) (none))
 (cond (Nat.beq pc 9) (some (.if_icmp .gt 24, 3)) (none)))
 (cond (Nat.blt pc 13)
 (cond (Nat.beq pc 12) (some (.iload 1, 1)) (none))
 (cond (Nat.blt pc 15)
 (cond (Nat.beq pc 13) (some (.iload 4, 2)) (none))
 (cond (Nat.beq pc 15) (some (.if_icmp .ne 22, 3)) (none))))))
 (cond (Nat.blt pc 24)
 (cond (Nat.blt pc 22)
 (cond (Nat.blt pc 19)
 (cond (Nat.beq pc 18) (some (.iconst 1, 1)) (none))
 (cond (Nat.beq pc 19) (some (.goto 23, 3)) (none)))
 (cond (Nat.blt pc 23)
 (cond (Nat.beq pc 22) (some (.iconst 0, 1)) (none))
 (cond (Nat.beq pc 23) (some (.freturn, 1)) (none))))
 (cond (Nat.blt pc 26)
 (cond (Nat.blt pc 25)
 (cond (Nat.beq pc 24) (some (.aload 0, 1)) (none))
 (cond (Nat.beq pc 25) (some (.iload 1, 1)) (none)))
 (cond (Nat.blt pc 28)
 (cond (Nat.beq pc 26) (some (.iload 4, 2)) (none))
 (cond (Nat.blt pc 31)
 (cond (Nat.beq pc 28) (some (.invokevirtual 127, 3)) (none))
 (cond (Nat.beq pc 31) (some (.istore 7, 2)) (none)))))))
 (cond (Nat.blt pc 51)
 (cond (Nat.blt pc 42)
 (cond (Nat.blt pc 37)
 (cond (Nat.blt pc 35)
 (cond (Nat.beq pc 33) (some (.iload 7, 2)) (none))
 (cond (Nat.beq pc 35) (some (.iconst (-9), 2)) (none)))
 (cond (Nat.blt pc 40)
 (cond (Nat.beq pc 37) (some (.if_icmp .eq 66, 3)) (none))
 (cond (Nat.beq pc 40) (some (.iload 7, 2)) (none))))
 (cond (Nat.blt pc 45)
 (cond (Nat.blt pc 43)
 (cond (Nat.beq pc 42) (some (.iload 2, 1)) (none))
 (cond (Nat.beq pc 43) (some (.iload 6, 2)) (none)))
 (cond (Nat.blt pc 48)
 (cond (Nat.beq pc 45) (some (.if_icmp .le 55, 3)) (none))
 (cond (Nat.blt pc 49)
 (cond (Nat.beq pc 48) (some (.iload 2, 1)) (none))
 (cond (Nat.beq pc 49) (some (.iload 6, 2)) (none))))))
 (cond (Nat.blt pc 59)
 (cond (Nat.blt pc 55)
 (cond (Nat.blt pc 52)
 (cond (Nat.beq pc 51) (some (.isub, 1)) (none))
 (cond (Nat.beq pc 52) (some (.goto 59, 3)) (none)))
 (cond (Nat.blt pc 57)
 (cond (Nat.beq pc 55) (some (.iload 5, 2)) (none))
 (cond (Nat.blt pc 58)
 (cond (Nat.beq pc 57) (some (.iload 3, 1)) (none))
 (cond (Nat.beq pc 58) (some (.isub, 1)) (none)))))
 (cond (Nat.blt pc 63)
 (cond (Nat.blt pc 62)
 (cond (Nat.beq pc 59) (some (.if_icmp .gt 66, 3)) (none))
 (cond (Nat.beq pc 62) (some (.iconst 1, 1)) (none)))
 (cond (Nat.blt pc 66)
 (cond (Nat.beq pc 63) (some (.goto 67, 3)) (none))
 (cond (Nat.blt pc 67)
 (cond (Nat.beq pc 66) (some (.iconst 0, 1)) (none))
 (cond (Nat.beq pc 67) (some (.freturn, 1)) (none)))))))
-- AlwaysThereModel.sits(IIII)I
noncomputable def qc_138 (pc : Nat) : Option (Instr × Nat) := cond (Nat.blt pc 118)
 (cond (Nat.blt pc 63)
 (cond (Nat.blt pc 33)
 (cond (Nat.blt pc 16)
 (cond (Nat.blt pc 8)
 (cond (Nat.blt pc 2)
 (cond (Nat.blt pc 1)
 (cond (Nat.beq pc 0) (some (.aload 0, 1)) (none))
 (cond (Nat.beq pc 1) (some (.iload 1, 1)) (none)))
 (cond (Nat.blt pc 5)
 (cond (Nat.beq pc 2) (some (.invokevirtual 106, 3)) (none))
 (cond (Nat.beq pc 5) (some (.ifCond .eq 39, 3)) (none))))
 (cond (Nat.blt pc 10)
 (cond (Nat.blt pc 9)
 (cond (Nat.beq pc 8) (some (.aload 0, 1)) (none))
 (cond (Nat.beq pc 9) (some (.iload 2, 1)) (none)))
 (cond (Nat.blt pc 13)
 (cond (Nat.beq pc 10) (some (.invokevirtual 105, 3)) (none))
 (cond (Nat.beq pc 13) (some (.ifCond .eq 39, 3)) (none)))))
 (cond (Nat.blt pc 24)
 (cond (Nat.blt pc 18)
 (cond (Nat.blt pc 17)
 (cond (Nat.beq pc 16) (some (.iload 3, 1)) (none))
 (cond (Nat.beq pc 17) (some (.iconst 0, 1)) (none)))
 (cond (Nat.blt pc 21)
 (cond (Nat.beq pc 18) (some (.iconst 999, 3)) (none))
 (cond (Nat.beq pc 21) (some (.invokestatic 104, 3)) (none))))
 (cond (Nat.blt pc 29)
 (cond (Nat.blt pc 27)
 (cond (Nat.beq pc 24) (some (.ifCond .eq 39, 3)) (none))
 (cond (Nat.beq pc 27) (some (.iload 4, 2)) (none)))
 (cond (Nat.blt pc 30)
 (cond (Nat.beq pc 29) (some (.iload 3, 1)) (none))
 (cond (Nat.beq pc 30) (some (.iconst 999, 3)) (none))))))
 (cond (Nat.blt pc 47)
 (cond (Nat.blt pc 41)
 (cond (Nat.blt pc 39)
 (cond (Nat.blt pc 36)
 (cond (Nat.beq pc 33) (some (.invokestatic 104, 3)) (none))
 (cond (Nat.beq pc 36) (some (.ifCond .ne 41, 3)) (none)))
 (cond (Nat.blt pc 40)
 (cond (Nat.beq pc 39) (some (.iconst (-1), 1)) (none))
 (cond (Nat.beq pc 40) (some (.ireturn, 1)) (none))))
 (cond (Nat.blt pc 44)
 (cond (Nat.blt pc 42)
 (cond (Nat.beq pc 41) (some (.iconst 1, 1)) (none))
 (cond (Nat.beq pc 42) (some (.istore 5, 2)) (none)))
 (cond (Nat.blt pc 45)
 (cond (Nat.beq pc 44) (some (.iconst 0, 1)) (none))
 (cond (Nat.beq pc 45) (some (.istore 6, 2)) (none)))))
 (cond (Nat.blt pc 54)
 (cond (Nat.blt pc 50)
 (cond (Nat.blt pc 49)
 (cond (Nat.beq pc 47) (some (.iload 6, 2)) (none))
 (cond (Nat.beq pc 49) (some (.aload 0, 1)) (none)))
 (cond (Nat.blt pc 53)
 (cond (Nat.beq pc 50) (some (.getfield 805, 3)) (none))
 (cond (Nat.beq pc 53) (some (.iconst 0, 1)) (none))))
 (cond (Nat.blt pc 58)
 (cond (Nat.blt pc 55)
 (cond (Nat.beq pc 54) (some (.iaload, 1)) (none))
 (cond (Nat.beq pc 55) (some (.if_icmp .ge 130, 3)) (none)))
 (cond (Nat.blt pc 60)
 (cond (Nat.beq pc 58) (some (.iload 5, 2)) (none))
 (cond (Nat.beq pc 60) (some (.ifCond .eq 121, 3)) (none)))))))
 (cond (Nat.blt pc 89)
 (cond (Nat.blt pc 76)
 (cond (Nat.blt pc 70)
 (cond (Nat.blt pc 67)
 (cond (Nat.blt pc 64)
 (cond (Nat.beq pc 63) (some (.aload 0, 1)) (none))
 (cond (Nat.beq pc 64) (some (.getfield 805, 3)) (none)))
 (cond (Nat.blt pc 68)
 (cond (Nat.beq pc 67) (some (.iconst 1, 1)) (none))
 (cond (Nat.beq pc 68) (some (.iload 6, 2)) (none))))
 (cond (Nat.blt pc 72)
 (cond (Nat.blt pc 71)
 (cond (Nat.beq pc 70) (some (.iadd, 1)) (none))
 (cond (Nat.beq pc 71) (some (.iaload, 1)) (none)))
 (cond (Nat.blt pc 73)
 (cond (Nat.beq pc 72) (some (.iload 1, 1)) (none))
 (cond (Nat.beq pc 73) (some (.if_icmp .ne 117, 3)) (none)))))
 (cond (Nat.blt pc 81)
 (cond (Nat.blt pc 78)
 (cond (Nat.blt pc 77)
 (cond (Nat.beq pc 76) (some (.aload 0, 1)) (none))
 (cond (Nat.beq pc 77) (some (.iload 2, 1)) (none)))
 (cond (Nat.blt pc 79)
 (cond (Nat.beq pc 78) (some (.iload 3, 1)) (none))
 (cond (Nat.beq pc 79) (some (.iload 4, 2)) (none))))
 (cond (Nat.blt pc 85)
 (cond (Nat.blt pc 82)
 (cond (Nat.beq pc 81) (some (.aload 0, 1)) (none))
 (cond (Nat.beq pc 82) (some (.getfield 805, 3)) (none)))
 (cond (Nat.blt pc 87)
 (cond (Nat.beq pc 85) (some (.iconst 13, 2)) (none))
 (cond (Nat.beq pc 87) (some (.iload 6, 2)) (none))))))
 (cond (Nat.blt pc 101)
 (cond (Nat.blt pc 95)
 (cond (Nat.blt pc 91)
 (cond (Nat.blt pc 90)
 (cond (Nat.beq pc 89) (some (.iadd, 1)) (none))
 (cond (Nat.beq pc 90) (some (.iaload, 1)) (none)))
 (cond (Nat.blt pc 92)
 (cond (Nat.beq pc 91) (some (.aload 0, 1)) (none))
 (cond (Nat.beq pc 92) (some (.getfield 805, 3)) (none))))
 (cond (Nat.blt pc 99)
 (cond (Nat.blt pc 97)
 (cond (Nat.beq pc 95) (some (.iconst 25, 2)) (none))
 (cond (Nat.beq pc 97) (some (.iload 6, 2)) (none)))
 (cond (Nat.blt pc 100)
 (cond (Nat.beq pc 99) (some (.iadd, 1)) (none))
 (cond (Nat.beq pc 100) (some (.iaload, 1)) (none)))))
 (cond (Nat.blt pc 109)
 (cond (Nat.blt pc 105)
 (cond (Nat.blt pc 102)
 (cond (Nat.beq pc 101) (some (.aload 0, 1)) (none))
 (cond (Nat.beq pc 102) (some (.getfield 805, 3)) (none)))
 (cond (Nat.blt pc 107)
 (cond (Nat.beq pc 105) (some (.iconst 37, 2)) (none))
 (cond (Nat.beq pc 107) (some (.iload 6, 2)) (none))))
 (cond (Nat.blt pc 111)
 (cond (Nat.blt pc 110)
 (cond (Nat.beq pc 109) (some (.iadd, 1)) (none))
 (cond (Nat.beq pc 110) (some (.iaload, 1)) (none)))
 (cond (Nat.blt pc 114)
 (cond (Nat.beq pc 111) (some (.invokevirtual 137, 3)) (none))
 (cond (Nat.blt pc 117)
 (cond (Nat.beq pc 114) (some (.ifCond .eq 121, 3)) (none))
 (cond (Nat.beq pc 117) (some (.iconst 1, 1)) (none)))))))))
 (cond (Nat.blt pc 175)
 (cond (Nat.blt pc 151)
 (cond (Nat.blt pc 137)
 (cond (Nat.blt pc 127)
 (cond (Nat.blt pc 122)
 (cond (Nat.blt pc 121)
 (cond (Nat.beq pc 118) (some (.goto 122, 3)) (none))
 (cond (Nat.beq pc 121) (some (.iconst 0, 1)) (none)))
 (cond (Nat.blt pc 124)
 (cond (Nat.beq pc 122) (some (.istore 5, 2)) (none))
 (cond (Nat.beq pc 124) (some (.iinc 6 1, 3)) (none))))
 (cond (Nat.blt pc 132)
 (cond (Nat.blt pc 130)
 (cond (Nat.beq pc 127) (some (.goto 47, 3)) (none))
 (cond (Nat.beq pc 130) (some (.iload 5, 2)) (none)))
 (cond (Nat.blt pc 135)
 (cond (Nat.beq pc 132) (some (.ifCond .ne 138, 3)) (none))
 (cond (Nat.beq pc 135) (some (.iconst (-2), 2)) (none)))))
 (cond (Nat.blt pc 143)
 (cond (Nat.blt pc 139)
 (cond (Nat.blt pc 138)
 (cond (Nat.beq pc 137) (some (.ireturn, 1)) (none))
 (cond (Nat.beq pc 138) (some (.aload 0, 1)) (none)))
 (cond (Nat.blt pc 142)
 (cond (Nat.beq pc 139) (some (.getfield 805, 3)) (none))
 (cond (Nat.beq pc 142) (some (.iconst 0, 1)) (none))))
 (cond (Nat.blt pc 146)
 (cond (Nat.blt pc 144)
 (cond (Nat.beq pc 143) (some (.iaload, 1)) (none))
 (cond (Nat.beq pc 144) (some (.iconst 12, 2)) (none)))
 (cond (Nat.blt pc 149)
 (cond (Nat.beq pc 146) (some (.if_icmp .ne 152, 3)) (none))
 (cond (Nat.beq pc 149) (some (.iconst (-3), 2)) (none))))))
 (cond (Nat.blt pc 163)
 (cond (Nat.blt pc 157)
 (cond (Nat.blt pc 153)
 (cond (Nat.blt pc 152)
 (cond (Nat.beq pc 151) (some (.ireturn, 1)) (none))
 (cond (Nat.beq pc 152) (some (.aload 0, 1)) (none)))
 (cond (Nat.blt pc 156)
 (cond (Nat.beq pc 153) (some (.invokevirtual 136, 3)) (none))
 (cond (Nat.beq pc 156) (some (.iconst 1, 1)) (none))))
 (cond (Nat.blt pc 161)
 (cond (Nat.blt pc 158)
 (cond (Nat.beq pc 157) (some (.aload 0, 1)) (none))
 (cond (Nat.beq pc 158) (some (.getfield 805, 3)) (none)))
 (cond (Nat.blt pc 162)
 (cond (Nat.beq pc 161) (some (.iconst 0, 1)) (none))
 (cond (Nat.beq pc 162) (some (.iaload, 1)) (none)))))
 (cond (Nat.blt pc 170)
 (cond (Nat.blt pc 166)
 (cond (Nat.blt pc 164)
 (cond (Nat.beq pc 163) (some (.iadd, 1)) (none))
 (cond (Nat.beq pc 164) (some (.istore 6, 2)) (none)))
 (cond (Nat.blt pc 167)
 (cond (Nat.beq pc 166) (some (.aload 0, 1)) (none))
 (cond (Nat.beq pc 167) (some (.getfield 805, 3)) (none))))
 (cond (Nat.blt pc 173)
 (cond (Nat.blt pc 172)
 (cond (Nat.beq pc 170) (some (.iload 6, 2)) (none))
 (cond (Nat.beq pc 172) (some (.iload 1, 1)) (none)))
 (cond (Nat.blt pc 174)
 (cond (Nat.beq pc 173) (some (.iastore, 1)) (none))
 (cond (Nat.beq pc 174) (some (.aload 0, 1)) (none)))))))
 (cond (Nat.blt pc 202)
 (cond (Nat.blt pc 189)
 (cond (Nat.blt pc 183)
 (cond (Nat.blt pc 180)
 (cond (Nat.blt pc 178)
 (cond (Nat.beq pc 175) (some (.getfield 805, 3)) (none))
 (cond (Nat.beq pc 178) (some (.iload 6, 2)) (none)))
 (cond (Nat.blt pc 182)
 (cond (Nat.beq pc 180) (some (.iconst 12, 2)) (none))
 (cond (Nat.beq pc 182) (some (.iadd, 1)) (none))))
 (cond (Nat.blt pc 185)
 (cond (Nat.blt pc 184)
 (cond (Nat.beq pc 183) (some (.iload 2, 1)) (none))
 (cond (Nat.beq pc 184) (some (.iastore, 1)) (none)))
 (cond (Nat.blt pc 186)
 (cond (Nat.beq pc 185) (some (.aload 0, 1)) (none))
 (cond (Nat.beq pc 186) (some (.getfield 805, 3)) (none)))))
 (cond (Nat.blt pc 195)
 (cond (Nat.blt pc 193)
 (cond (Nat.blt pc 191)
 (cond (Nat.beq pc 189) (some (.iload 6, 2)) (none))
 (cond (Nat.beq pc 191) (some (.iconst 24, 2)) (none)))
 (cond (Nat.blt pc 194)
 (cond (Nat.beq pc 193) (some (.iadd, 1)) (none))
 (cond (Nat.beq pc 194) (some (.iload 3, 1)) (none))))
 (cond (Nat.blt pc 197)
 (cond (Nat.blt pc 196)
 (cond (Nat.beq pc 195) (some (.iastore, 1)) (none))
 (cond (Nat.beq pc 196) (some (.aload 0, 1)) (none)))
 (cond (Nat.blt pc 200)
 (cond (Nat.beq pc 197) (some (.getfield 805, 3)) (none))
 (cond (Nat.beq pc 200) (some (.iload 6, 2)) (none))))))
 (cond (Nat.blt pc 214)
 (cond (Nat.blt pc 208)
 (cond (Nat.blt pc 205)
 (cond (Nat.blt pc 204)
 (cond (Nat.beq pc 202) (some (.iconst 36, 2)) (none))
 (cond (Nat.beq pc 204) (some (.iadd, 1)) (none)))
 (cond (Nat.blt pc 207)
 (cond (Nat.beq pc 205) (some (.iload 4, 2)) (none))
 (cond (Nat.beq pc 207) (some (.iastore, 1)) (none))))
 (cond (Nat.blt pc 212)
 (cond (Nat.blt pc 209)
 (cond (Nat.beq pc 208) (some (.aload 0, 1)) (none))
 (cond (Nat.beq pc 209) (some (.getfield 805, 3)) (none)))
 (cond (Nat.blt pc 213)
 (cond (Nat.beq pc 212) (some (.iconst 0, 1)) (none))
 (cond (Nat.beq pc 213) (some (.dup2, 1)) (none)))))
 (cond (Nat.blt pc 218)
 (cond (Nat.blt pc 216)
 (cond (Nat.blt pc 215)
 (cond (Nat.beq pc 214) (some (.iaload, 1)) (none))
 (cond (Nat.beq pc 215) (some (.iconst 1, 1)) (none)))
 (cond (Nat.blt pc 217)
 (cond (Nat.beq pc 216) (some (.iadd, 1)) (none))
 (cond (Nat.beq pc 217) (some (.iastore, 1)) (none))))
 (cond (Nat.blt pc 222)
 (cond (Nat.blt pc 219)
 (cond (Nat.beq pc 218) (some (.aload 0, 1)) (none))
 (cond (Nat.beq pc 219) (some (.getfield 805, 3)) (none)))
 (cond (Nat.blt pc 223)
 (cond (Nat.beq pc 222) (some (.iconst 0, 1)) (none))
 (cond (Nat.blt pc 224)
 (cond (Nat.beq pc 223) (some (.iaload, 1)) (none))
 (cond (Nat.beq pc 224) (some (.ireturn, 1)) (none)))))))))
-- AlwaysThereModel.waits(II)I
noncomputable def qc_139 (pc : Nat) : Option (Instr × Nat) := cond (Nat.blt pc 25)
 (cond (Nat.blt pc 12)
 (cond (Nat.blt pc 5)
 (cond (Nat.blt pc 1)
 (cond (Nat.beq pc 0) (some (.aload 0, 1)) (none))
 (cond (Nat.blt pc 2)
 (cond (Nat.beq pc 1) (some (.iload 1, 1)) (none))
 (cond (Nat.beq pc 2) (some (.invokevirtual 107, 3)) (none))))
 (cond (Nat.blt pc 9)
 (cond (Nat.blt pc 8)
 (cond (Nat.beq pc 5) (some (.ifCond .eq 18, 3)) (none))
 (cond (Nat.beq pc 8) (some (.iload 2, 1)) (none)))
 (cond (Nat.blt pc 10)
 (cond (Nat.beq pc 9) (some (.iconst 0, 1)) (none))
 (cond (Nat.beq pc 10) (some (.iconst 20, 2)) (none)))))
 (cond (Nat.blt pc 19)
 (cond (Nat.blt pc 15)
 (cond (Nat.beq pc 12) (some (.invokestatic 104, 3)) (none))
 (cond (Nat.blt pc 18)
 (cond (Nat.beq pc 15) (some (.ifCond .ne 20, 3)) (none))
 (cond (Nat.beq pc 18) (some (.iconst (-1), 1)) (none))))
 (cond (Nat.blt pc 21)
 (cond (Nat.blt pc 20)
 (cond (Nat.beq pc 19) (some (.ireturn, 1)) (none))
 (cond (Nat.beq pc 20) (some (.aload 0, 1)) (none)))
 (cond (Nat.blt pc 24)
 (cond (Nat.beq pc 21) (some (.invokevirtual 136, 3)) (none))
 (cond (Nat.beq pc 24) (some (.aload 0, 1)) (none))))))
 (cond (Nat.blt pc 35)
 (cond (Nat.blt pc 31)
 (cond (Nat.blt pc 28)
 (cond (Nat.beq pc 25) (some (.getfield 805, 3)) (none))
 (cond (Nat.blt pc 30)
 (cond (Nat.beq pc 28) (some (.iconst 49, 2)) (none))
 (cond (Nat.beq pc 30) (some (.iload 1, 1)) (none))))
 (cond (Nat.blt pc 33)
 (cond (Nat.blt pc 32)
 (cond (Nat.beq pc 31) (some (.iadd, 1)) (none))
 (cond (Nat.beq pc 32) (some (.iload 2, 1)) (none)))
 (cond (Nat.blt pc 34)
 (cond (Nat.beq pc 33) (some (.iastore, 1)) (none))
 (cond (Nat.beq pc 34) (some (.aload 0, 1)) (none)))))
 (cond (Nat.blt pc 41)
 (cond (Nat.blt pc 39)
 (cond (Nat.blt pc 36)
 (cond (Nat.beq pc 35) (some (.aload 0, 1)) (none))
 (cond (Nat.beq pc 36) (some (.getfield 803, 3)) (none)))
 (cond (Nat.blt pc 40)
 (cond (Nat.beq pc 39) (some (.iconst 2, 1)) (none))
 (cond (Nat.beq pc 40) (some (.iaload, 1)) (none))))
 (cond (Nat.blt pc 43)
 (cond (Nat.blt pc 42)
 (cond (Nat.beq pc 41) (some (.iconst 1, 1)) (none))
 (cond (Nat.beq pc 42) (some (.isub, 1)) (none)))
 (cond (Nat.blt pc 46)
 (cond (Nat.beq pc 43) (some (.invokevirtual 131, 3)) (none))
 (cond (Nat.beq pc 46) (some (.ireturn, 1)) (none))))))
-- AlwaysThereModel.undo()I
noncomputable def qc_140 (pc : Nat) : Option (Instr × Nat) := cond (Nat.blt pc 29)
 (cond (Nat.blt pc 15)
 (cond (Nat.blt pc 9)
 (cond (Nat.blt pc 4)
 (cond (Nat.blt pc 1)
 (cond (Nat.beq pc 0) (some (.aload 0, 1)) (none))
 (cond (Nat.beq pc 1) (some (.getfield 807, 3)) (none)))
 (cond (Nat.blt pc 7)
 (cond (Nat.beq pc 4) (some (.ifCond .ne 10, 3)) (none))
 (cond (Nat.beq pc 7) (some (.iconst (-2), 2)) (none))))
 (cond (Nat.blt pc 11)
 (cond (Nat.blt pc 10)
 (cond (Nat.beq pc 9) (some (.ireturn, 1)) (none))
 (cond (Nat.beq pc 10) (some (.aload 0, 1)) (none)))
 (cond (Nat.blt pc 12)
 (cond (Nat.beq pc 11) (some (.dup, 1)) (none))
 (cond (Nat.beq pc 12) (some (.getfield 807, 3)) (none)))))
 (cond (Nat.blt pc 21)
 (cond (Nat.blt pc 17)
 (cond (Nat.blt pc 16)
 (cond (Nat.beq pc 15) (some (.iconst 1, 1)) (none))
 (cond (Nat.beq pc 16) (some (.isub, 1)) (none)))
 (cond (Nat.blt pc 20)
 (cond (Nat.beq pc 17) (some (.putfield 807, 3)) (none))
 (cond (Nat.beq pc 20) (some (.iconst 0, 1)) (none))))
 (cond (Nat.blt pc 23)
 (cond (Nat.blt pc 22)
 (cond (Nat.beq pc 21) (some (.istore 1, 1)) (none))
 (cond (Nat.beq pc 22) (some (.iload 1, 1)) (none)))
 (cond (Nat.blt pc 25)
 (cond (Nat.beq pc 23) (some (.iconst 57, 2)) (none))
 (cond (Nat.blt pc 28)
 (cond (Nat.beq pc 25) (some (.if_icmp .ge 54, 3)) (none))
 (cond (Nat.beq pc 28) (some (.aload 0, 1)) (none)))))))
 (cond (Nat.blt pc 44)
 (cond (Nat.blt pc 37)
 (cond (Nat.blt pc 33)
 (cond (Nat.blt pc 32)
 (cond (Nat.beq pc 29) (some (.getfield 805, 3)) (none))
 (cond (Nat.beq pc 32) (some (.iload 1, 1)) (none)))
 (cond (Nat.blt pc 34)
 (cond (Nat.beq pc 33) (some (.aload 0, 1)) (none))
 (cond (Nat.beq pc 34) (some (.getfield 806, 3)) (none))))
 (cond (Nat.blt pc 40)
 (cond (Nat.blt pc 39)
 (cond (Nat.beq pc 37) (some (.iconst 57, 2)) (none))
 (cond (Nat.beq pc 39) (some (.aload 0, 1)) (none)))
 (cond (Nat.blt pc 43)
 (cond (Nat.beq pc 40) (some (.getfield 807, 3)) (none))
 (cond (Nat.beq pc 43) (some (.imul, 1)) (none)))))
 (cond (Nat.blt pc 48)
 (cond (Nat.blt pc 46)
 (cond (Nat.blt pc 45)
 (cond (Nat.beq pc 44) (some (.iload 1, 1)) (none))
 (cond (Nat.beq pc 45) (some (.iadd, 1)) (none)))
 (cond (Nat.blt pc 47)
 (cond (Nat.beq pc 46) (some (.iaload, 1)) (none))
 (cond (Nat.beq pc 47) (some (.iastore, 1)) (none))))
 (cond (Nat.blt pc 54)
 (cond (Nat.blt pc 51)
 (cond (Nat.beq pc 48) (some (.iinc 1 1, 3)) (none))
 (cond (Nat.beq pc 51) (some (.goto 22, 3)) (none)))
 (cond (Nat.blt pc 55)
 (cond (Nat.beq pc 54) (some (.aload 0, 1)) (none))
 (cond (Nat.blt pc 58)
 (cond (Nat.beq pc 55) (some (.getfield 807, 3)) (none))
 (cond (Nat.beq pc 58) (some (.ireturn, 1)) (none)))))))
-- AlwaysThereModel.sat(II)I
noncomputable def qc_141 (pc : Nat) : Option (Instr × Nat) := cond (Nat.blt pc 22)
 (cond (Nat.blt pc 9)
 (cond (Nat.blt pc 3)
 (cond (Nat.blt pc 1)
 (cond (Nat.beq pc 0) (some (.iload 1, 1)) (none))
 (cond (Nat.blt pc 2)
 (cond (Nat.beq pc 1) (some (.iconst 0, 1)) (none))
 (cond (Nat.beq pc 2) (some (.aload 0, 1)) (none))))
 (cond (Nat.blt pc 7)
 (cond (Nat.blt pc 6)
 (cond (Nat.beq pc 3) (some (.getfield 805, 3)) (none))
 (cond (Nat.beq pc 6) (some (.iconst 0, 1)) (none)))
 (cond (Nat.blt pc 8)
 (cond (Nat.beq pc 7) (some (.iaload, 1)) (none))
 (cond (Nat.beq pc 8) (some (.iconst 1, 1)) (none)))))
 (cond (Nat.blt pc 16)
 (cond (Nat.blt pc 10)
 (cond (Nat.beq pc 9) (some (.isub, 1)) (none))
 (cond (Nat.blt pc 13)
 (cond (Nat.beq pc 10) (some (.invokestatic 104, 3)) (none))
 (cond (Nat.beq pc 13) (some (.ifCond .eq 41, 3)) (none))))
 (cond (Nat.blt pc 18)
 (cond (Nat.blt pc 17)
 (cond (Nat.beq pc 16) (some (.iload 2, 1)) (none))
 (cond (Nat.beq pc 17) (some (.iconst 0, 1)) (none)))
 (cond (Nat.blt pc 19)
 (cond (Nat.beq pc 18) (some (.iconst 3, 1)) (none))
 (cond (Nat.beq pc 19) (some (.invokestatic 104, 3)) (none))))))
 (cond (Nat.blt pc 34)
 (cond (Nat.blt pc 29)
 (cond (Nat.blt pc 25)
 (cond (Nat.beq pc 22) (some (.ifCond .eq 41, 3)) (none))
 (cond (Nat.blt pc 26)
 (cond (Nat.beq pc 25) (some (.aload 0, 1)) (none))
 (cond (Nat.beq pc 26) (some (.getfield 805, 3)) (none))))
 (cond (Nat.blt pc 32)
 (cond (Nat.blt pc 30)
 (cond (Nat.beq pc 29) (some (.iconst 1, 1)) (none))
 (cond (Nat.beq pc 30) (some (.iconst 12, 2)) (none)))
 (cond (Nat.blt pc 33)
 (cond (Nat.beq pc 32) (some (.iload 2, 1)) (none))
 (cond (Nat.beq pc 33) (some (.imul, 1)) (none)))))
 (cond (Nat.blt pc 37)
 (cond (Nat.blt pc 35)
 (cond (Nat.beq pc 34) (some (.iadd, 1)) (none))
 (cond (Nat.blt pc 36)
 (cond (Nat.beq pc 35) (some (.iload 1, 1)) (none))
 (cond (Nat.beq pc 36) (some (.iadd, 1)) (none))))
 (cond (Nat.blt pc 41)
 (cond (Nat.blt pc 38)
 (cond (Nat.beq pc 37) (some (.iaload, 1)) (none))
 (cond (Nat.beq pc 38) (some (.goto 42, 3)) (none)))
 (cond (Nat.blt pc 42)
 (cond (Nat.beq pc 41) (some (.iconst (-1), 1)) (none))
 (cond (Nat.beq pc 42) (some (.ireturn, 1)) (none))))))
-- AlwaysThereModel.ones(I)I
noncomputable def qc_142 (pc : Nat) : Option (Instr × Nat) := cond (Nat.blt pc 12)
 (cond (Nat.blt pc 4)
 (cond (Nat.blt pc 2)
 (cond (Nat.blt pc 1)
 (cond (Nat.beq pc 0) (some (.iconst 0, 1)) (none))
 (cond (Nat.beq pc 1) (some (.istore 1, 1)) (none)))
 (cond (Nat.blt pc 3)
 (cond (Nat.beq pc 2) (some (.iconst 0, 1)) (none))
 (cond (Nat.beq pc 3) (some (.istore 2, 1)) (none))))
 (cond (Nat.blt pc 7)
 (cond (Nat.blt pc 5)
 (cond (Nat.beq pc 4) (some (.iload 2, 1)) (none))
 (cond (Nat.beq pc 5) (some (.iconst 8, 2)) (none)))
 (cond (Nat.blt pc 10)
 (cond (Nat.beq pc 7) (some (.if_icmp .ge 24, 3)) (none))
 (cond (Nat.blt pc 11)
 (cond (Nat.beq pc 10) (some (.iload 1, 1)) (none))
 (cond (Nat.beq pc 11) (some (.iload 0, 1)) (none))))))
 (cond (Nat.blt pc 17)
 (cond (Nat.blt pc 14)
 (cond (Nat.blt pc 13)
 (cond (Nat.beq pc 12) (some (.iload 2, 1)) (none))
 (cond (Nat.beq pc 13) (some (.ishr, 1)) (none)))
 (cond (Nat.blt pc 15)
 (cond (Nat.beq pc 14) (some (.iconst 1, 1)) (none))
 (cond (Nat.blt pc 16)
 (cond (Nat.beq pc 15) (some (.iand, 1)) (none))
 (cond (Nat.beq pc 16) (some (.iadd, 1)) (none)))))
 (cond (Nat.blt pc 21)
 (cond (Nat.blt pc 18)
 (cond (Nat.beq pc 17) (some (.istore 1, 1)) (none))
 (cond (Nat.beq pc 18) (some (.iinc 2 1, 3)) (none)))
 (cond (Nat.blt pc 24)
 (cond (Nat.beq pc 21) (some (.goto 4, 3)) (none))
 (cond (Nat.blt pc 25)
 (cond (Nat.beq pc 24) (some (.iload 1, 1)) (none))
 (cond (Nat.beq pc 25) (some (.ireturn, 1)) (none))))))
-- AlwaysThereModel.vain()I
noncomputable def qc_143 (pc : Nat) : Option (Instr × Nat) := cond (Nat.blt pc 27)
 (cond (Nat.blt pc 14)
 (cond (Nat.blt pc 5)
 (cond (Nat.blt pc 2)
 (cond (Nat.blt pc 1)
 (cond (Nat.beq pc 0) (some (.iconst 0, 1)) (none))
 (cond (Nat.beq pc 1) (some (.istore 1, 1)) (none)))
 (cond (Nat.blt pc 3)
 (cond (Nat.beq pc 2) (some (.iconst 0, 1)) (none))
 (cond (Nat.blt pc 4)
 (cond (Nat.beq pc 3) (some (.istore 2, 1)) (none))
 (cond (Nat.beq pc 4) (some (.iload 2, 1)) (none)))))
 (cond (Nat.blt pc 9)
 (cond (Nat.blt pc 6)
 (cond (Nat.beq pc 5) (some (.aload 0, 1)) (none))
 (cond (Nat.beq pc 6) (some (.getfield 805, 3)) (none)))
 (cond (Nat.blt pc 10)
 (cond (Nat.beq pc 9) (some (.iconst 0, 1)) (none))
 (cond (Nat.blt pc 11)
 (cond (Nat.beq pc 10) (some (.iaload, 1)) (none))
 (cond (Nat.beq pc 11) (some (.if_icmp .ge 33, 3)) (none))))))
 (cond (Nat.blt pc 21)
 (cond (Nat.blt pc 16)
 (cond (Nat.blt pc 15)
 (cond (Nat.beq pc 14) (some (.iload 1, 1)) (none))
 (cond (Nat.beq pc 15) (some (.iconst 1, 1)) (none)))
 (cond (Nat.blt pc 17)
 (cond (Nat.beq pc 16) (some (.aload 0, 1)) (none))
 (cond (Nat.blt pc 20)
 (cond (Nat.beq pc 17) (some (.getfield 805, 3)) (none))
 (cond (Nat.beq pc 20) (some (.iconst 1, 1)) (none)))))
 (cond (Nat.blt pc 24)
 (cond (Nat.blt pc 22)
 (cond (Nat.beq pc 21) (some (.iload 2, 1)) (none))
 (cond (Nat.blt pc 23)
 (cond (Nat.beq pc 22) (some (.iadd, 1)) (none))
 (cond (Nat.beq pc 23) (some (.iaload, 1)) (none))))
 (cond (Nat.blt pc 25)
 (cond (Nat.beq pc 24) (some (.ishl, 1)) (none))
 (cond (Nat.blt pc 26)
 (cond (Nat.beq pc 25) (some (.ior, 1)) (none))
 (cond (Nat.beq pc 26) (some (.istore 1, 1)) (none)))))))
 (cond (Nat.blt pc 46)
 (cond (Nat.blt pc 36)
 (cond (Nat.blt pc 33)
 (cond (Nat.blt pc 30)
 (cond (Nat.beq pc 27) (some (.iinc 2 1, 3)) (none))
 (cond (Nat.beq pc 30) (some (.goto 4, 3)) (none)))
 (cond (Nat.blt pc 34)
 (cond (Nat.beq pc 33) (some (.iconst 0, 1)) (none))
 (cond (Nat.blt pc 35)
 (cond (Nat.beq pc 34) (some (.istore 2, 1)) (none))
 (cond (Nat.beq pc 35) (some (.iload 2, 1)) (none)))))
 (cond (Nat.blt pc 41)
 (cond (Nat.blt pc 37)
 (cond (Nat.beq pc 36) (some (.aload 0, 1)) (none))
 (cond (Nat.blt pc 40)
 (cond (Nat.beq pc 37) (some (.getfield 803, 3)) (none))
 (cond (Nat.beq pc 40) (some (.iconst 2, 1)) (none))))
 (cond (Nat.blt pc 42)
 (cond (Nat.beq pc 41) (some (.iaload, 1)) (none))
 (cond (Nat.blt pc 45)
 (cond (Nat.beq pc 42) (some (.if_icmp .ge 61, 3)) (none))
 (cond (Nat.beq pc 45) (some (.iload 1, 1)) (none))))))
 (cond (Nat.blt pc 53)
 (cond (Nat.blt pc 48)
 (cond (Nat.blt pc 47)
 (cond (Nat.beq pc 46) (some (.aload 0, 1)) (none))
 (cond (Nat.beq pc 47) (some (.iload 2, 1)) (none)))
 (cond (Nat.blt pc 51)
 (cond (Nat.beq pc 48) (some (.invokevirtual 133, 3)) (none))
 (cond (Nat.blt pc 52)
 (cond (Nat.beq pc 51) (some (.iconst (-1), 1)) (none))
 (cond (Nat.beq pc 52) (some (.ixor, 1)) (none)))))
 (cond (Nat.blt pc 58)
 (cond (Nat.blt pc 54)
 (cond (Nat.beq pc 53) (some (.iand, 1)) (none))
 (cond (Nat.blt pc 55)
 (cond (Nat.beq pc 54) (some (.istore 1, 1)) (none))
 (cond (Nat.beq pc 55) (some (.iinc 2 1, 3)) (none))))
 (cond (Nat.blt pc 61)
 (cond (Nat.beq pc 58) (some (.goto 35, 3)) (none))
 (cond (Nat.blt pc 62)
 (cond (Nat.beq pc 61) (some (.iload 1, 1)) (none))
 (cond (Nat.beq pc 62) (some (.ireturn, 1)) (none)))))))
-- AlwaysThereModel.race(I)I
noncomputable def qc_144 (pc : Nat) : Option (Instr × Nat) := cond (Nat.blt pc 68)
 (cond (Nat.blt pc 29)
 (cond (Nat.blt pc 14)
 (cond (Nat.blt pc 6)
 (cond (Nat.blt pc 2)
 (cond (Nat.blt pc 1)
 (cond (Nat.beq pc 0) (some (.iload 1, 1)) (none))
 (cond (Nat.beq pc 1) (some (.iconst 0, 1)) (none)))
 (cond (Nat.blt pc 3)
 (cond (Nat.beq pc 2) (some (.iconst 4, 1)) (none))
 (cond (Nat.beq pc 3) (some (.invokestatic 104, 3)) (none))))
 (cond (Nat.blt pc 10)
 (cond (Nat.blt pc 9)
 (cond (Nat.beq pc 6) (some (.ifCond .ne 11, 3)) (none))
 (cond (Nat.beq pc 9) (some (.iconst (-1), 1)) (none)))
 (cond (Nat.blt pc 11)
 (cond (Nat.beq pc 10) (some (.ireturn, 1)) (none))
 (cond (Nat.blt pc 13)
 (cond (Nat.beq pc 11) (some (.iconst (-9), 2)) (none))
 (cond (Nat.beq pc 13) (some (.istore 2, 1)) (none))))))
 (cond (Nat.blt pc 22)
 (cond (Nat.blt pc 17)
 (cond (Nat.blt pc 16)
 (cond (Nat.beq pc 14) (some (.iconst (-9), 2)) (none))
 (cond (Nat.beq pc 16) (some (.istore 3, 1)) (none)))
 (cond (Nat.blt pc 18)
 (cond (Nat.beq pc 17) (some (.aload 0, 1)) (none))
 (cond (Nat.blt pc 21)
 (cond (Nat.beq pc 18) (some (.getfield 803, 3)) (none))
 (cond (Nat.beq pc 21) (some (.iconst 2, 1)) (none)))))
 (cond (Nat.blt pc 24)
 (cond (Nat.blt pc 23)
 (cond (Nat.beq pc 22) (some (.iaload, 1)) (none))
 (cond (Nat.beq pc 23) (some (.iconst 1, 1)) (none)))
 (cond (Nat.blt pc 25)
 (cond (Nat.beq pc 24) (some (.isub, 1)) (none))
 (cond (Nat.blt pc 27)
 (cond (Nat.beq pc 25) (some (.istore 4, 2)) (none))
 (cond (Nat.beq pc 27) (some (.iload 4, 2)) (none)))))))
 (cond (Nat.blt pc 48)
 (cond (Nat.blt pc 38)
 (cond (Nat.blt pc 33)
 (cond (Nat.blt pc 32)
 (cond (Nat.beq pc 29) (some (.ifCond .lt 74, 3)) (none))
 (cond (Nat.beq pc 32) (some (.aload 0, 1)) (none)))
 (cond (Nat.blt pc 35)
 (cond (Nat.beq pc 33) (some (.iload 4, 2)) (none))
 (cond (Nat.beq pc 35) (some (.invokevirtual 133, 3)) (none))))
 (cond (Nat.blt pc 43)
 (cond (Nat.blt pc 41)
 (cond (Nat.beq pc 38) (some (.ifCond .ne 46, 3)) (none))
 (cond (Nat.beq pc 41) (some (.iload 4, 2)) (none)))
 (cond (Nat.blt pc 46)
 (cond (Nat.beq pc 43) (some (.goto 47, 3)) (none))
 (cond (Nat.blt pc 47)
 (cond (Nat.beq pc 46) (some (.iload 2, 1)) (none))
 (cond (Nat.beq pc 47) (some (.istore 2, 1)) (none))))))
 (cond (Nat.blt pc 58)
 (cond (Nat.blt pc 51)
 (cond (Nat.blt pc 49)
 (cond (Nat.beq pc 48) (some (.aload 0, 1)) (none))
 (cond (Nat.beq pc 49) (some (.iload 4, 2)) (none)))
 (cond (Nat.blt pc 54)
 (cond (Nat.beq pc 51) (some (.invokevirtual 134, 3)) (none))
 (cond (Nat.blt pc 57)
 (cond (Nat.beq pc 54) (some (.invokestatic 142, 3)) (none))
 (cond (Nat.beq pc 57) (some (.iconst 1, 1)) (none)))))
 (cond (Nat.blt pc 63)
 (cond (Nat.blt pc 61)
 (cond (Nat.beq pc 58) (some (.if_icmp .le 66, 3)) (none))
 (cond (Nat.beq pc 61) (some (.iload 4, 2)) (none)))
 (cond (Nat.blt pc 66)
 (cond (Nat.beq pc 63) (some (.goto 67, 3)) (none))
 (cond (Nat.blt pc 67)
 (cond (Nat.beq pc 66) (some (.iload 3, 1)) (none))
 (cond (Nat.beq pc 67) (some (.istore 3, 1)) (none))))))))
 (cond (Nat.blt pc 105)
 (cond (Nat.blt pc 87)
 (cond (Nat.blt pc 78)
 (cond (Nat.blt pc 74)
 (cond (Nat.blt pc 71)
 (cond (Nat.beq pc 68) (some (.iinc 4 (-1), 3)) (none))
 (cond (Nat.beq pc 71) (some (.goto 27, 3)) (none)))
 (cond (Nat.blt pc 75)
 (cond (Nat.beq pc 74) (some (.iload 1, 1)) (none))
 (cond (Nat.beq pc 75) (some (.ifCond .ne 82, 3)) (none))))
 (cond (Nat.blt pc 82)
 (cond (Nat.blt pc 79)
 (cond (Nat.beq pc 78) (some (.iload 2, 1)) (none))
 (cond (Nat.beq pc 79) (some (.goto 141, 3)) (none)))
 (cond (Nat.blt pc 83)
 (cond (Nat.beq pc 82) (some (.iload 1, 1)) (none))
 (cond (Nat.blt pc 84)
 (cond (Nat.beq pc 83) (some (.iconst 1, 1)) (none))
 (cond (Nat.beq pc 84) (some (.if_icmp .ne 91, 3)) (none))))))
 (cond (Nat.blt pc 96)
 (cond (Nat.blt pc 91)
 (cond (Nat.blt pc 88)
 (cond (Nat.beq pc 87) (some (.iload 3, 1)) (none))
 (cond (Nat.beq pc 88) (some (.goto 141, 3)) (none)))
 (cond (Nat.blt pc 92)
 (cond (Nat.beq pc 91) (some (.iload 1, 1)) (none))
 (cond (Nat.blt pc 93)
 (cond (Nat.beq pc 92) (some (.iconst 2, 1)) (none))
 (cond (Nat.beq pc 93) (some (.if_icmp .ne 103, 3)) (none)))))
 (cond (Nat.blt pc 100)
 (cond (Nat.blt pc 97)
 (cond (Nat.beq pc 96) (some (.aload 0, 1)) (none))
 (cond (Nat.beq pc 97) (some (.invokevirtual 143, 3)) (none)))
 (cond (Nat.blt pc 103)
 (cond (Nat.beq pc 100) (some (.goto 141, 3)) (none))
 (cond (Nat.blt pc 104)
 (cond (Nat.beq pc 103) (some (.iload 1, 1)) (none))
 (cond (Nat.beq pc 104) (some (.iconst 4, 1)) (none)))))))
 (cond (Nat.blt pc 126)
 (cond (Nat.blt pc 116)
 (cond (Nat.blt pc 109)
 (cond (Nat.blt pc 108)
 (cond (Nat.beq pc 105) (some (.if_icmp .ne 115, 3)) (none))
 (cond (Nat.beq pc 108) (some (.aload 0, 1)) (none)))
 (cond (Nat.blt pc 112)
 (cond (Nat.beq pc 109) (some (.getfield 807, 3)) (none))
 (cond (Nat.blt pc 115)
 (cond (Nat.beq pc 112) (some (.goto 141, 3)) (none))
 (cond (Nat.beq pc 115) (some (.aload 0, 1)) (none)))))
 (cond (Nat.blt pc 120)
 (cond (Nat.blt pc 119)
 (cond (Nat.beq pc 116) (some (.getfield 803, 3)) (none))
 (cond (Nat.beq pc 119) (some (.iconst 2, 1)) (none)))
 (cond (Nat.blt pc 121)
 (cond (Nat.beq pc 120) (some (.iaload, 1)) (none))
 (cond (Nat.blt pc 124)
 (cond (Nat.beq pc 121) (some (.ifCond .ne 129, 3)) (none))
 (cond (Nat.beq pc 124) (some (.iconst (-9), 2)) (none))))))
 (cond (Nat.blt pc 135)
 (cond (Nat.blt pc 130)
 (cond (Nat.blt pc 129)
 (cond (Nat.beq pc 126) (some (.goto 141, 3)) (none))
 (cond (Nat.beq pc 129) (some (.aload 0, 1)) (none)))
 (cond (Nat.blt pc 131)
 (cond (Nat.beq pc 130) (some (.aload 0, 1)) (none))
 (cond (Nat.blt pc 134)
 (cond (Nat.beq pc 131) (some (.getfield 803, 3)) (none))
 (cond (Nat.beq pc 134) (some (.iconst 2, 1)) (none)))))
 (cond (Nat.blt pc 137)
 (cond (Nat.blt pc 136)
 (cond (Nat.beq pc 135) (some (.iaload, 1)) (none))
 (cond (Nat.beq pc 136) (some (.iconst 1, 1)) (none)))
 (cond (Nat.blt pc 138)
 (cond (Nat.beq pc 137) (some (.isub, 1)) (none))
 (cond (Nat.blt pc 141)
 (cond (Nat.beq pc 138) (some (.invokevirtual 131, 3)) (none))
 (cond (Nat.beq pc 141) (some (.ireturn, 1)) (none))))))))
-- AlwaysThereModel.lays()V
noncomputable def qc_145 (pc : Nat) : Option (Instr × Nat) := cond (Nat.blt pc 26)
 (cond (Nat.blt pc 12)
 (cond (Nat.blt pc 6)
 (cond (Nat.blt pc 2)
 (cond (Nat.blt pc 1)
 (cond (Nat.beq pc 0) (some (.aload 0, 1)) (none))
 (cond (Nat.beq pc 1) (some (.aload 0, 1)) (none)))
 (cond (Nat.blt pc 5)
 (cond (Nat.beq pc 2) (some (.getfield 803, 3)) (none))
 (cond (Nat.beq pc 5) (some (.iconst 2, 1)) (none))))
 (cond (Nat.blt pc 10)
 (cond (Nat.blt pc 7)
 (cond (Nat.beq pc 6) (some (.iaload, 1)) (none))
 (cond (Nat.beq pc 7) (some (.putfield 817, 3)) (none)))
 (cond (Nat.blt pc 11)
 (cond (Nat.beq pc 10) (some (.iconst 0, 1)) (none))
 (cond (Nat.beq pc 11) (some (.istore 1, 1)) (none)))))
 (cond (Nat.blt pc 20)
 (cond (Nat.blt pc 14)
 (cond (Nat.blt pc 13)
 (cond (Nat.beq pc 12) (some (.iload 1, 1)) (none))
 (cond (Nat.beq pc 13) (some (.aload 0, 1)) (none)))
 (cond (Nat.blt pc 17)
 (cond (Nat.beq pc 14) (some (.getfield 817, 3)) (none))
 (cond (Nat.beq pc 17) (some (.if_icmp .ge 52, 3)) (none))))
 (cond (Nat.blt pc 24)
 (cond (Nat.blt pc 21)
 (cond (Nat.beq pc 20) (some (.aload 0, 1)) (none))
 (cond (Nat.beq pc 21) (some (.getfield 815, 3)) (none)))
 (cond (Nat.blt pc 25)
 (cond (Nat.beq pc 24) (some (.iload 1, 1)) (none))
 (cond (Nat.beq pc 25) (some (.aload 0, 1)) (none))))))
 (cond (Nat.blt pc 39)
 (cond (Nat.blt pc 33)
 (cond (Nat.blt pc 31)
 (cond (Nat.blt pc 29)
 (cond (Nat.beq pc 26) (some (.getfield 803, 3)) (none))
 (cond (Nat.beq pc 29) (some (.iconst 13, 2)) (none)))
 (cond (Nat.blt pc 32)
 (cond (Nat.beq pc 31) (some (.iload 1, 1)) (none))
 (cond (Nat.beq pc 32) (some (.iadd, 1)) (none))))
 (cond (Nat.blt pc 35)
 (cond (Nat.blt pc 34)
 (cond (Nat.beq pc 33) (some (.iaload, 1)) (none))
 (cond (Nat.beq pc 34) (some (.iastore, 1)) (none)))
 (cond (Nat.blt pc 36)
 (cond (Nat.beq pc 35) (some (.aload 0, 1)) (none))
 (cond (Nat.beq pc 36) (some (.getfield 816, 3)) (none)))))
 (cond (Nat.blt pc 45)
 (cond (Nat.blt pc 41)
 (cond (Nat.blt pc 40)
 (cond (Nat.beq pc 39) (some (.iload 1, 1)) (none))
 (cond (Nat.beq pc 40) (some (.aload 0, 1)) (none)))
 (cond (Nat.blt pc 42)
 (cond (Nat.beq pc 41) (some (.iload 1, 1)) (none))
 (cond (Nat.beq pc 42) (some (.invokevirtual 131, 3)) (none))))
 (cond (Nat.blt pc 49)
 (cond (Nat.blt pc 46)
 (cond (Nat.beq pc 45) (some (.iastore, 1)) (none))
 (cond (Nat.beq pc 46) (some (.iinc 1 1, 3)) (none)))
 (cond (Nat.blt pc 52)
 (cond (Nat.beq pc 49) (some (.goto 12, 3)) (none))
 (cond (Nat.beq pc 52) (some (.return_, 1)) (none))))))
-- AlwaysThereModel.canGo(II)Z
noncomputable def qc_146 (pc : Nat) : Option (Instr × Nat) := cond (Nat.blt pc 23)
 (cond (Nat.blt pc 11)
 (cond (Nat.blt pc 5)
 (cond (Nat.blt pc 1)
 (cond (Nat.beq pc 0) (some (.aload 0, 1)) (none))
 (cond (Nat.blt pc 2)
 (cond (Nat.beq pc 1) (some (.aload 0, 1)) (none))
 (cond (Nat.beq pc 2) (some (.getfield 815, 3)) (none))))
 (cond (Nat.blt pc 7)
 (cond (Nat.blt pc 6)
 (cond (Nat.beq pc 5) (some (.iload 1, 1)) (none))
 (cond (Nat.beq pc 6) (some (.iaload, 1)) (none)))
 (cond (Nat.blt pc 8)
 (cond (Nat.beq pc 7) (some (.aload 0, 1)) (none))
 (cond (Nat.beq pc 8) (some (.getfield 815, 3)) (none)))))
 (cond (Nat.blt pc 16)
 (cond (Nat.blt pc 12)
 (cond (Nat.beq pc 11) (some (.iload 2, 1)) (none))
 (cond (Nat.blt pc 13)
 (cond (Nat.beq pc 12) (some (.iaload, 1)) (none))
 (cond (Nat.beq pc 13) (some (.invokevirtual 127, 3)) (none))))
 (cond (Nat.blt pc 18)
 (cond (Nat.blt pc 17)
 (cond (Nat.beq pc 16) (some (.istore 3, 1)) (none))
 (cond (Nat.beq pc 17) (some (.iload 3, 1)) (none)))
 (cond (Nat.blt pc 20)
 (cond (Nat.beq pc 18) (some (.iconst (-9), 2)) (none))
 (cond (Nat.beq pc 20) (some (.if_icmp .eq 44, 3)) (none))))))
 (cond (Nat.blt pc 34)
 (cond (Nat.blt pc 28)
 (cond (Nat.blt pc 24)
 (cond (Nat.beq pc 23) (some (.iload 3, 1)) (none))
 (cond (Nat.blt pc 25)
 (cond (Nat.beq pc 24) (some (.aload 0, 1)) (none))
 (cond (Nat.beq pc 25) (some (.getfield 816, 3)) (none))))
 (cond (Nat.blt pc 30)
 (cond (Nat.blt pc 29)
 (cond (Nat.beq pc 28) (some (.iload 2, 1)) (none))
 (cond (Nat.beq pc 29) (some (.iaload, 1)) (none)))
 (cond (Nat.blt pc 31)
 (cond (Nat.beq pc 30) (some (.aload 0, 1)) (none))
 (cond (Nat.beq pc 31) (some (.getfield 816, 3)) (none)))))
 (cond (Nat.blt pc 40)
 (cond (Nat.blt pc 36)
 (cond (Nat.blt pc 35)
 (cond (Nat.beq pc 34) (some (.iload 1, 1)) (none))
 (cond (Nat.beq pc 35) (some (.iaload, 1)) (none)))
 (cond (Nat.blt pc 37)
 (cond (Nat.beq pc 36) (some (.isub, 1)) (none))
 (cond (Nat.beq pc 37) (some (.if_icmp .gt 44, 3)) (none))))
 (cond (Nat.blt pc 44)
 (cond (Nat.blt pc 41)
 (cond (Nat.beq pc 40) (some (.iconst 1, 1)) (none))
 (cond (Nat.beq pc 41) (some (.goto 45, 3)) (none)))
 (cond (Nat.blt pc 45)
 (cond (Nat.beq pc 44) (some (.iconst 0, 1)) (none))
 (cond (Nat.beq pc 45) (some (.freturn, 1)) (none))))))
-- AlwaysThereModel.one()I
noncomputable def qc_147 (pc : Nat) : Option (Instr × Nat) := cond (Nat.blt pc 23)
 (cond (Nat.blt pc 9)
 (cond (Nat.blt pc 5)
 (cond (Nat.blt pc 1)
 (cond (Nat.beq pc 0) (some (.aload 0, 1)) (none))
 (cond (Nat.blt pc 4)
 (cond (Nat.beq pc 1) (some (.invokevirtual 145, 3)) (none))
 (cond (Nat.beq pc 4) (some (.iconst 1, 1)) (none))))
 (cond (Nat.blt pc 7)
 (cond (Nat.blt pc 6)
 (cond (Nat.beq pc 5) (some (.istore 1, 1)) (none))
 (cond (Nat.beq pc 6) (some (.iconst 1, 1)) (none)))
 (cond (Nat.blt pc 8)
 (cond (Nat.beq pc 7) (some (.istore 2, 1)) (none))
 (cond (Nat.beq pc 8) (some (.iload 2, 1)) (none)))))
 (cond (Nat.blt pc 17)
 (cond (Nat.blt pc 13)
 (cond (Nat.blt pc 10)
 (cond (Nat.beq pc 9) (some (.aload 0, 1)) (none))
 (cond (Nat.beq pc 10) (some (.getfield 817, 3)) (none)))
 (cond (Nat.blt pc 16)
 (cond (Nat.beq pc 13) (some (.if_icmp .ge 43, 3)) (none))
 (cond (Nat.beq pc 16) (some (.iload 1, 1)) (none))))
 (cond (Nat.blt pc 21)
 (cond (Nat.blt pc 20)
 (cond (Nat.beq pc 17) (some (.ifCond .eq 35, 3)) (none))
 (cond (Nat.beq pc 20) (some (.aload 0, 1)) (none)))
 (cond (Nat.blt pc 22)
 (cond (Nat.beq pc 21) (some (.iload 2, 1)) (none))
 (cond (Nat.beq pc 22) (some (.iconst 1, 1)) (none))))))
 (cond (Nat.blt pc 37)
 (cond (Nat.blt pc 31)
 (cond (Nat.blt pc 25)
 (cond (Nat.blt pc 24)
 (cond (Nat.beq pc 23) (some (.isub, 1)) (none))
 (cond (Nat.beq pc 24) (some (.iload 2, 1)) (none)))
 (cond (Nat.blt pc 28)
 (cond (Nat.beq pc 25) (some (.invokevirtual 146, 3)) (none))
 (cond (Nat.beq pc 28) (some (.ifCond .eq 35, 3)) (none))))
 (cond (Nat.blt pc 35)
 (cond (Nat.blt pc 32)
 (cond (Nat.beq pc 31) (some (.iconst 1, 1)) (none))
 (cond (Nat.beq pc 32) (some (.goto 36, 3)) (none)))
 (cond (Nat.blt pc 36)
 (cond (Nat.beq pc 35) (some (.iconst 0, 1)) (none))
 (cond (Nat.beq pc 36) (some (.istore 1, 1)) (none)))))
 (cond (Nat.blt pc 47)
 (cond (Nat.blt pc 43)
 (cond (Nat.blt pc 40)
 (cond (Nat.beq pc 37) (some (.iinc 2 1, 3)) (none))
 (cond (Nat.beq pc 40) (some (.goto 8, 3)) (none)))
 (cond (Nat.blt pc 44)
 (cond (Nat.beq pc 43) (some (.iload 1, 1)) (none))
 (cond (Nat.beq pc 44) (some (.ifCond .eq 51, 3)) (none))))
 (cond (Nat.blt pc 51)
 (cond (Nat.blt pc 48)
 (cond (Nat.beq pc 47) (some (.iconst 1, 1)) (none))
 (cond (Nat.beq pc 48) (some (.goto 52, 3)) (none)))
 (cond (Nat.blt pc 52)
 (cond (Nat.beq pc 51) (some (.iconst 0, 1)) (none))
 (cond (Nat.beq pc 52) (some (.ireturn, 1)) (none))))))
-- AlwaysThereModel.finds(I)Z
noncomputable def qc_148 (pc : Nat) : Option (Instr × Nat) := cond (Nat.blt pc 56)
 (cond (Nat.blt pc 28)
 (cond (Nat.blt pc 13)
 (cond (Nat.blt pc 5)
 (cond (Nat.blt pc 2)
 (cond (Nat.blt pc 1)
 (cond (Nat.beq pc 0) (some (.iconst 0, 1)) (none))
 (cond (Nat.beq pc 1) (some (.istore 2, 1)) (none)))
 (cond (Nat.blt pc 3)
 (cond (Nat.beq pc 2) (some (.iload 2, 1)) (none))
 (cond (Nat.beq pc 3) (some (.iconst 8, 2)) (none))))
 (cond (Nat.blt pc 9)
 (cond (Nat.blt pc 8)
 (cond (Nat.beq pc 5) (some (.if_icmp .ge 21, 3)) (none))
 (cond (Nat.beq pc 8) (some (.aload 0, 1)) (none)))
 (cond (Nat.blt pc 12)
 (cond (Nat.beq pc 9) (some (.getfield 818, 3)) (none))
 (cond (Nat.beq pc 12) (some (.iload 2, 1)) (none)))))
 (cond (Nat.blt pc 21)
 (cond (Nat.blt pc 15)
 (cond (Nat.blt pc 14)
 (cond (Nat.beq pc 13) (some (.iconst (-1), 1)) (none))
 (cond (Nat.beq pc 14) (some (.iastore, 1)) (none)))
 (cond (Nat.blt pc 18)
 (cond (Nat.beq pc 15) (some (.iinc 2 1, 3)) (none))
 (cond (Nat.beq pc 18) (some (.goto 2, 3)) (none))))
 (cond (Nat.blt pc 23)
 (cond (Nat.blt pc 22)
 (cond (Nat.beq pc 21) (some (.iconst 0, 1)) (none))
 (cond (Nat.beq pc 22) (some (.istore 2, 1)) (none)))
 (cond (Nat.blt pc 24)
 (cond (Nat.beq pc 23) (some (.iload 2, 1)) (none))
 (cond (Nat.blt pc 27)
 (cond (Nat.beq pc 24) (some (.ifCond .lt 105, 3)) (none))
 (cond (Nat.beq pc 27) (some (.iload 2, 1)) (none)))))))
 (cond (Nat.blt pc 43)
 (cond (Nat.blt pc 36)
 (cond (Nat.blt pc 32)
 (cond (Nat.blt pc 29)
 (cond (Nat.beq pc 28) (some (.aload 0, 1)) (none))
 (cond (Nat.beq pc 29) (some (.getfield 817, 3)) (none)))
 (cond (Nat.blt pc 35)
 (cond (Nat.beq pc 32) (some (.if_icmp .ge 105, 3)) (none))
 (cond (Nat.beq pc 35) (some (.aload 0, 1)) (none))))
 (cond (Nat.blt pc 40)
 (cond (Nat.blt pc 39)
 (cond (Nat.beq pc 36) (some (.getfield 818, 3)) (none))
 (cond (Nat.beq pc 39) (some (.iload 2, 1)) (none)))
 (cond (Nat.blt pc 41)
 (cond (Nat.beq pc 40) (some (.dup2, 1)) (none))
 (cond (Nat.blt pc 42)
 (cond (Nat.beq pc 41) (some (.iaload, 1)) (none))
 (cond (Nat.beq pc 42) (some (.iconst 1, 1)) (none))))))
 (cond (Nat.blt pc 49)
 (cond (Nat.blt pc 45)
 (cond (Nat.blt pc 44)
 (cond (Nat.beq pc 43) (some (.iadd, 1)) (none))
 (cond (Nat.beq pc 44) (some (.iastore, 1)) (none)))
 (cond (Nat.blt pc 46)
 (cond (Nat.beq pc 45) (some (.aload 0, 1)) (none))
 (cond (Nat.beq pc 46) (some (.getfield 818, 3)) (none))))
 (cond (Nat.blt pc 51)
 (cond (Nat.blt pc 50)
 (cond (Nat.beq pc 49) (some (.iload 2, 1)) (none))
 (cond (Nat.beq pc 50) (some (.iaload, 1)) (none)))
 (cond (Nat.blt pc 52)
 (cond (Nat.beq pc 51) (some (.iload 1, 1)) (none))
 (cond (Nat.blt pc 55)
 (cond (Nat.beq pc 52) (some (.if_icmp .ge 76, 3)) (none))
 (cond (Nat.beq pc 55) (some (.aload 0, 1)) (none))))))))
 (cond (Nat.blt pc 83)
 (cond (Nat.blt pc 70)
 (cond (Nat.blt pc 64)
 (cond (Nat.blt pc 60)
 (cond (Nat.blt pc 57)
 (cond (Nat.beq pc 56) (some (.iload 2, 1)) (none))
 (cond (Nat.beq pc 57) (some (.invokevirtual 149, 3)) (none)))
 (cond (Nat.blt pc 63)
 (cond (Nat.beq pc 60) (some (.ifCond .ne 76, 3)) (none))
 (cond (Nat.beq pc 63) (some (.aload 0, 1)) (none))))
 (cond (Nat.blt pc 68)
 (cond (Nat.blt pc 67)
 (cond (Nat.beq pc 64) (some (.getfield 818, 3)) (none))
 (cond (Nat.beq pc 67) (some (.iload 2, 1)) (none)))
 (cond (Nat.blt pc 69)
 (cond (Nat.beq pc 68) (some (.dup2, 1)) (none))
 (cond (Nat.beq pc 69) (some (.iaload, 1)) (none)))))
 (cond (Nat.blt pc 76)
 (cond (Nat.blt pc 72)
 (cond (Nat.blt pc 71)
 (cond (Nat.beq pc 70) (some (.iconst 1, 1)) (none))
 (cond (Nat.beq pc 71) (some (.iadd, 1)) (none)))
 (cond (Nat.blt pc 73)
 (cond (Nat.beq pc 72) (some (.iastore, 1)) (none))
 (cond (Nat.beq pc 73) (some (.goto 45, 3)) (none))))
 (cond (Nat.blt pc 80)
 (cond (Nat.blt pc 77)
 (cond (Nat.beq pc 76) (some (.aload 0, 1)) (none))
 (cond (Nat.beq pc 77) (some (.getfield 818, 3)) (none)))
 (cond (Nat.blt pc 81)
 (cond (Nat.beq pc 80) (some (.iload 2, 1)) (none))
 (cond (Nat.blt pc 82)
 (cond (Nat.beq pc 81) (some (.iaload, 1)) (none))
 (cond (Nat.beq pc 82) (some (.iload 1, 1)) (none)))))))
 (cond (Nat.blt pc 102)
 (cond (Nat.blt pc 93)
 (cond (Nat.blt pc 89)
 (cond (Nat.blt pc 86)
 (cond (Nat.beq pc 83) (some (.if_icmp .ge 92, 3)) (none))
 (cond (Nat.beq pc 86) (some (.iinc 2 1, 3)) (none)))
 (cond (Nat.blt pc 92)
 (cond (Nat.beq pc 89) (some (.goto 23, 3)) (none))
 (cond (Nat.beq pc 92) (some (.aload 0, 1)) (none))))
 (cond (Nat.blt pc 97)
 (cond (Nat.blt pc 96)
 (cond (Nat.beq pc 93) (some (.getfield 818, 3)) (none))
 (cond (Nat.beq pc 96) (some (.iload 2, 1)) (none)))
 (cond (Nat.blt pc 98)
 (cond (Nat.beq pc 97) (some (.iconst (-1), 1)) (none))
 (cond (Nat.blt pc 99)
 (cond (Nat.beq pc 98) (some (.iastore, 1)) (none))
 (cond (Nat.beq pc 99) (some (.iinc 2 (-1), 3)) (none))))))
 (cond (Nat.blt pc 110)
 (cond (Nat.blt pc 106)
 (cond (Nat.blt pc 105)
 (cond (Nat.beq pc 102) (some (.goto 23, 3)) (none))
 (cond (Nat.beq pc 105) (some (.iload 2, 1)) (none)))
 (cond (Nat.blt pc 107)
 (cond (Nat.beq pc 106) (some (.aload 0, 1)) (none))
 (cond (Nat.beq pc 107) (some (.getfield 817, 3)) (none))))
 (cond (Nat.blt pc 114)
 (cond (Nat.blt pc 113)
 (cond (Nat.beq pc 110) (some (.if_icmp .ne 117, 3)) (none))
 (cond (Nat.beq pc 113) (some (.iconst 1, 1)) (none)))
 (cond (Nat.blt pc 117)
 (cond (Nat.beq pc 114) (some (.goto 118, 3)) (none))
 (cond (Nat.blt pc 118)
 (cond (Nat.beq pc 117) (some (.iconst 0, 1)) (none))
 (cond (Nat.beq pc 118) (some (.freturn, 1)) (none))))))))
-- AlwaysThereModel.fitsAt(I)Z
noncomputable def qc_149 (pc : Nat) : Option (Instr × Nat) := cond (Nat.blt pc 46)
 (cond (Nat.blt pc 22)
 (cond (Nat.blt pc 10)
 (cond (Nat.blt pc 4)
 (cond (Nat.blt pc 1)
 (cond (Nat.beq pc 0) (some (.iconst 0, 1)) (none))
 (cond (Nat.blt pc 2)
 (cond (Nat.beq pc 1) (some (.istore 2, 1)) (none))
 (cond (Nat.beq pc 2) (some (.iconst (-9), 2)) (none))))
 (cond (Nat.blt pc 6)
 (cond (Nat.blt pc 5)
 (cond (Nat.beq pc 4) (some (.istore 3, 1)) (none))
 (cond (Nat.beq pc 5) (some (.iconst 0, 1)) (none)))
 (cond (Nat.blt pc 8)
 (cond (Nat.beq pc 6) (some (.istore 4, 2)) (none))
 (cond (Nat.beq pc 8) (some (.iload 4, 2)) (none)))))
 (cond (Nat.blt pc 15)
 (cond (Nat.blt pc 11)
 (cond (Nat.beq pc 10) (some (.iload 1, 1)) (none))
 (cond (Nat.blt pc 14)
 (cond (Nat.beq pc 11) (some (.if_icmp .ge 68, 3)) (none))
 (cond (Nat.beq pc 14) (some (.aload 0, 1)) (none))))
 (cond (Nat.blt pc 20)
 (cond (Nat.blt pc 18)
 (cond (Nat.beq pc 15) (some (.getfield 818, 3)) (none))
 (cond (Nat.beq pc 18) (some (.iload 4, 2)) (none)))
 (cond (Nat.blt pc 21)
 (cond (Nat.beq pc 20) (some (.iaload, 1)) (none))
 (cond (Nat.beq pc 21) (some (.iload 2, 1)) (none))))))
 (cond (Nat.blt pc 34)
 (cond (Nat.blt pc 29)
 (cond (Nat.blt pc 25)
 (cond (Nat.beq pc 22) (some (.if_icmp .lt 37, 3)) (none))
 (cond (Nat.blt pc 26)
 (cond (Nat.beq pc 25) (some (.aload 0, 1)) (none))
 (cond (Nat.beq pc 26) (some (.getfield 818, 3)) (none))))
 (cond (Nat.blt pc 32)
 (cond (Nat.blt pc 31)
 (cond (Nat.beq pc 29) (some (.iload 4, 2)) (none))
 (cond (Nat.beq pc 31) (some (.iaload, 1)) (none)))
 (cond (Nat.blt pc 33)
 (cond (Nat.beq pc 32) (some (.iconst 1, 1)) (none))
 (cond (Nat.beq pc 33) (some (.iadd, 1)) (none)))))
 (cond (Nat.blt pc 39)
 (cond (Nat.blt pc 37)
 (cond (Nat.beq pc 34) (some (.goto 38, 3)) (none))
 (cond (Nat.blt pc 38)
 (cond (Nat.beq pc 37) (some (.iload 2, 1)) (none))
 (cond (Nat.beq pc 38) (some (.istore 2, 1)) (none))))
 (cond (Nat.blt pc 43)
 (cond (Nat.blt pc 40)
 (cond (Nat.beq pc 39) (some (.aload 0, 1)) (none))
 (cond (Nat.beq pc 40) (some (.getfield 818, 3)) (none)))
 (cond (Nat.blt pc 45)
 (cond (Nat.beq pc 43) (some (.iload 4, 2)) (none))
 (cond (Nat.beq pc 45) (some (.iaload, 1)) (none)))))))
 (cond (Nat.blt pc 73)
 (cond (Nat.blt pc 60)
 (cond (Nat.blt pc 51)
 (cond (Nat.blt pc 47)
 (cond (Nat.beq pc 46) (some (.aload 0, 1)) (none))
 (cond (Nat.blt pc 50)
 (cond (Nat.beq pc 47) (some (.getfield 818, 3)) (none))
 (cond (Nat.beq pc 50) (some (.iload 1, 1)) (none))))
 (cond (Nat.blt pc 55)
 (cond (Nat.blt pc 52)
 (cond (Nat.beq pc 51) (some (.iaload, 1)) (none))
 (cond (Nat.beq pc 52) (some (.if_icmp .ne 60, 3)) (none)))
 (cond (Nat.blt pc 57)
 (cond (Nat.beq pc 55) (some (.iload 4, 2)) (none))
 (cond (Nat.beq pc 57) (some (.goto 61, 3)) (none)))))
 (cond (Nat.blt pc 65)
 (cond (Nat.blt pc 61)
 (cond (Nat.beq pc 60) (some (.iload 3, 1)) (none))
 (cond (Nat.blt pc 62)
 (cond (Nat.beq pc 61) (some (.istore 3, 1)) (none))
 (cond (Nat.beq pc 62) (some (.iinc 4 1, 3)) (none))))
 (cond (Nat.blt pc 69)
 (cond (Nat.blt pc 68)
 (cond (Nat.beq pc 65) (some (.goto 8, 3)) (none))
 (cond (Nat.beq pc 68) (some (.aload 0, 1)) (none)))
 (cond (Nat.blt pc 72)
 (cond (Nat.beq pc 69) (some (.getfield 818, 3)) (none))
 (cond (Nat.beq pc 72) (some (.iload 1, 1)) (none))))))
 (cond (Nat.blt pc 85)
 (cond (Nat.blt pc 78)
 (cond (Nat.blt pc 74)
 (cond (Nat.beq pc 73) (some (.iaload, 1)) (none))
 (cond (Nat.blt pc 75)
 (cond (Nat.beq pc 74) (some (.iload 2, 1)) (none))
 (cond (Nat.beq pc 75) (some (.if_icmp .gt 97, 3)) (none))))
 (cond (Nat.blt pc 81)
 (cond (Nat.blt pc 79)
 (cond (Nat.beq pc 78) (some (.iload 3, 1)) (none))
 (cond (Nat.beq pc 79) (some (.iconst (-9), 2)) (none)))
 (cond (Nat.blt pc 84)
 (cond (Nat.beq pc 81) (some (.if_icmp .eq 93, 3)) (none))
 (cond (Nat.beq pc 84) (some (.aload 0, 1)) (none)))))
 (cond (Nat.blt pc 93)
 (cond (Nat.blt pc 87)
 (cond (Nat.blt pc 86)
 (cond (Nat.beq pc 85) (some (.iload 3, 1)) (none))
 (cond (Nat.beq pc 86) (some (.iload 1, 1)) (none)))
 (cond (Nat.blt pc 90)
 (cond (Nat.beq pc 87) (some (.invokevirtual 146, 3)) (none))
 (cond (Nat.beq pc 90) (some (.ifCond .eq 97, 3)) (none))))
 (cond (Nat.blt pc 97)
 (cond (Nat.blt pc 94)
 (cond (Nat.beq pc 93) (some (.iconst 1, 1)) (none))
 (cond (Nat.beq pc 94) (some (.goto 98, 3)) (none)))
 (cond (Nat.blt pc 98)
 (cond (Nat.beq pc 97) (some (.iconst 0, 1)) (none))
 (cond (Nat.beq pc 98) (some (.freturn, 1)) (none)))))))
-- AlwaysThereModel.fewest()I
noncomputable def qc_150 (pc : Nat) : Option (Instr × Nat) := cond (Nat.blt pc 13)
 (cond (Nat.blt pc 7)
 (cond (Nat.blt pc 1)
 (cond (Nat.beq pc 0) (some (.aload 0, 1)) (none))
 (cond (Nat.blt pc 4)
 (cond (Nat.beq pc 1) (some (.getfield 817, 3)) (none))
 (cond (Nat.beq pc 4) (some (.ifCond .ne 11, 3)) (none))))
 (cond (Nat.blt pc 11)
 (cond (Nat.blt pc 8)
 (cond (Nat.beq pc 7) (some (.iconst 0, 1)) (none))
 (cond (Nat.beq pc 8) (some (.goto 12, 3)) (none)))
 (cond (Nat.blt pc 12)
 (cond (Nat.beq pc 11) (some (.iconst 1, 1)) (none))
 (cond (Nat.beq pc 12) (some (.istore 1, 1)) (none)))))
 (cond (Nat.blt pc 21)
 (cond (Nat.blt pc 15)
 (cond (Nat.blt pc 14)
 (cond (Nat.beq pc 13) (some (.aload 0, 1)) (none))
 (cond (Nat.beq pc 14) (some (.iload 1, 1)) (none)))
 (cond (Nat.blt pc 18)
 (cond (Nat.beq pc 15) (some (.invokevirtual 148, 3)) (none))
 (cond (Nat.beq pc 18) (some (.ifCond .ne 27, 3)) (none))))
 (cond (Nat.blt pc 27)
 (cond (Nat.blt pc 24)
 (cond (Nat.beq pc 21) (some (.iinc 1 1, 3)) (none))
 (cond (Nat.beq pc 24) (some (.goto 13, 3)) (none)))
 (cond (Nat.blt pc 28)
 (cond (Nat.beq pc 27) (some (.iload 1, 1)) (none))
 (cond (Nat.beq pc 28) (some (.ireturn, 1)) (none)))))
-- AlwaysThereModel.needed(I)I
noncomputable def qc_151 (pc : Nat) : Option (Instr × Nat) := cond (Nat.blt pc 20)
 (cond (Nat.blt pc 10)
 (cond (Nat.blt pc 5)
 (cond (Nat.blt pc 1)
 (cond (Nat.beq pc 0) (some (.iload 1, 1)) (none))
 (cond (Nat.blt pc 2)
 (cond (Nat.beq pc 1) (some (.iconst (-1), 1)) (none))
 (cond (Nat.beq pc 2) (some (.if_icmp .eq 15, 3)) (none))))
 (cond (Nat.blt pc 6)
 (cond (Nat.beq pc 5) (some (.aload 0, 1)) (none))
 (cond (Nat.blt pc 7)
 (cond (Nat.beq pc 6) (some (.iload 1, 1)) (none))
 (cond (Nat.beq pc 7) (some (.invokevirtual 107, 3)) (none)))))
 (cond (Nat.blt pc 15)
 (cond (Nat.blt pc 13)
 (cond (Nat.beq pc 10) (some (.ifCond .ne 15, 3)) (none))
 (cond (Nat.blt pc 14)
 (cond (Nat.beq pc 13) (some (.iconst (-1), 1)) (none))
 (cond (Nat.beq pc 14) (some (.ireturn, 1)) (none))))
 (cond (Nat.blt pc 16)
 (cond (Nat.beq pc 15) (some (.aload 0, 1)) (none))
 (cond (Nat.blt pc 19)
 (cond (Nat.beq pc 16) (some (.invokevirtual 145, 3)) (none))
 (cond (Nat.beq pc 19) (some (.aload 0, 1)) (none))))))
 (cond (Nat.blt pc 30)
 (cond (Nat.blt pc 25)
 (cond (Nat.blt pc 23)
 (cond (Nat.beq pc 20) (some (.invokevirtual 150, 3)) (none))
 (cond (Nat.blt pc 24)
 (cond (Nat.beq pc 23) (some (.istore 2, 1)) (none))
 (cond (Nat.beq pc 24) (some (.iload 1, 1)) (none))))
 (cond (Nat.blt pc 26)
 (cond (Nat.beq pc 25) (some (.iconst (-1), 1)) (none))
 (cond (Nat.blt pc 29)
 (cond (Nat.beq pc 26) (some (.if_icmp .ne 33, 3)) (none))
 (cond (Nat.beq pc 29) (some (.iload 2, 1)) (none)))))
 (cond (Nat.blt pc 37)
 (cond (Nat.blt pc 33)
 (cond (Nat.beq pc 30) (some (.goto 39, 3)) (none))
 (cond (Nat.blt pc 34)
 (cond (Nat.beq pc 33) (some (.aload 0, 1)) (none))
 (cond (Nat.beq pc 34) (some (.getfield 818, 3)) (none))))
 (cond (Nat.blt pc 38)
 (cond (Nat.beq pc 37) (some (.iload 1, 1)) (none))
 (cond (Nat.blt pc 39)
 (cond (Nat.beq pc 38) (some (.iaload, 1)) (none))
 (cond (Nat.beq pc 39) (some (.ireturn, 1)) (none))))))
-- AlwaysThereModel.laysCourse(III)Z
noncomputable def qc_152 (pc : Nat) : Option (Instr × Nat) := cond (Nat.blt pc 94)
 (cond (Nat.blt pc 43)
 (cond (Nat.blt pc 19)
 (cond (Nat.blt pc 8)
 (cond (Nat.blt pc 3)
 (cond (Nat.blt pc 1)
 (cond (Nat.beq pc 0) (some (.aload 0, 1)) (none))
 (cond (Nat.blt pc 2)
 (cond (Nat.beq pc 1) (some (.iload 2, 1)) (none))
 (cond (Nat.beq pc 2) (some (.iconst 1, 1)) (none))))
 (cond (Nat.blt pc 4)
 (cond (Nat.beq pc 3) (some (.iadd, 1)) (none))
 (cond (Nat.blt pc 7)
 (cond (Nat.beq pc 4) (some (.putfield 817, 3)) (none))
 (cond (Nat.beq pc 7) (some (.aload 0, 1)) (none)))))
 (cond (Nat.blt pc 13)
 (cond (Nat.blt pc 11)
 (cond (Nat.beq pc 8) (some (.getfield 815, 3)) (none))
 (cond (Nat.blt pc 12)
 (cond (Nat.beq pc 11) (some (.iconst 0, 1)) (none))
 (cond (Nat.beq pc 12) (some (.iload 1, 1)) (none))))
 (cond (Nat.blt pc 15)
 (cond (Nat.blt pc 14)
 (cond (Nat.beq pc 13) (some (.iastore, 1)) (none))
 (cond (Nat.beq pc 14) (some (.aload 0, 1)) (none)))
 (cond (Nat.blt pc 18)
 (cond (Nat.beq pc 15) (some (.getfield 816, 3)) (none))
 (cond (Nat.beq pc 18) (some (.iconst 0, 1)) (none))))))
 (cond (Nat.blt pc 29)
 (cond (Nat.blt pc 22)
 (cond (Nat.blt pc 20)
 (cond (Nat.beq pc 19) (some (.iconst 0, 1)) (none))
 (cond (Nat.blt pc 21)
 (cond (Nat.beq pc 20) (some (.iastore, 1)) (none))
 (cond (Nat.beq pc 21) (some (.iconst 1, 1)) (none))))
 (cond (Nat.blt pc 25)
 (cond (Nat.blt pc 24)
 (cond (Nat.beq pc 22) (some (.istore 4, 2)) (none))
 (cond (Nat.beq pc 24) (some (.iconst 1, 1)) (none)))
 (cond (Nat.blt pc 27)
 (cond (Nat.beq pc 25) (some (.istore 5, 2)) (none))
 (cond (Nat.beq pc 27) (some (.iload 5, 2)) (none)))))
 (cond (Nat.blt pc 35)
 (cond (Nat.blt pc 30)
 (cond (Nat.beq pc 29) (some (.iload 2, 1)) (none))
 (cond (Nat.blt pc 33)
 (cond (Nat.beq pc 30) (some (.if_icmp .ge 46, 3)) (none))
 (cond (Nat.beq pc 33) (some (.iload 4, 2)) (none))))
 (cond (Nat.blt pc 38)
 (cond (Nat.blt pc 37)
 (cond (Nat.beq pc 35) (some (.iconst 8, 2)) (none))
 (cond (Nat.beq pc 37) (some (.imul, 1)) (none)))
 (cond (Nat.blt pc 40)
 (cond (Nat.beq pc 38) (some (.istore 4, 2)) (none))
 (cond (Nat.beq pc 40) (some (.iinc 5 1, 3)) (none)))))))
 (cond (Nat.blt pc 66)
 (cond (Nat.blt pc 55)
 (cond (Nat.blt pc 49)
 (cond (Nat.blt pc 46)
 (cond (Nat.beq pc 43) (some (.goto 27, 3)) (none))
 (cond (Nat.blt pc 47)
 (cond (Nat.beq pc 46) (some (.iconst 1, 1)) (none))
 (cond (Nat.beq pc 47) (some (.istore 5, 2)) (none))))
 (cond (Nat.blt pc 51)
 (cond (Nat.beq pc 49) (some (.iload 5, 2)) (none))
 (cond (Nat.blt pc 52)
 (cond (Nat.beq pc 51) (some (.iload 2, 1)) (none))
 (cond (Nat.beq pc 52) (some (.if_icmp .gt 175, 3)) (none)))))
 (cond (Nat.blt pc 59)
 (cond (Nat.blt pc 56)
 (cond (Nat.beq pc 55) (some (.iload 3, 1)) (none))
 (cond (Nat.blt pc 58)
 (cond (Nat.beq pc 56) (some (.iload 4, 2)) (none))
 (cond (Nat.beq pc 58) (some (.idiv, 1)) (none))))
 (cond (Nat.blt pc 62)
 (cond (Nat.blt pc 61)
 (cond (Nat.beq pc 59) (some (.iconst 8, 2)) (none))
 (cond (Nat.beq pc 61) (some (.irem, 1)) (none)))
 (cond (Nat.blt pc 64)
 (cond (Nat.beq pc 62) (some (.istore 6, 2)) (none))
 (cond (Nat.beq pc 64) (some (.iload 4, 2)) (none))))))
 (cond (Nat.blt pc 80)
 (cond (Nat.blt pc 71)
 (cond (Nat.blt pc 68)
 (cond (Nat.beq pc 66) (some (.iconst 8, 2)) (none))
 (cond (Nat.blt pc 69)
 (cond (Nat.beq pc 68) (some (.idiv, 1)) (none))
 (cond (Nat.beq pc 69) (some (.istore 4, 2)) (none))))
 (cond (Nat.blt pc 74)
 (cond (Nat.blt pc 72)
 (cond (Nat.beq pc 71) (some (.aload 0, 1)) (none))
 (cond (Nat.beq pc 72) (some (.iload 6, 2)) (none)))
 (cond (Nat.blt pc 77)
 (cond (Nat.beq pc 74) (some (.invokevirtual 105, 3)) (none))
 (cond (Nat.beq pc 77) (some (.ifCond .eq 106, 3)) (none)))))
 (cond (Nat.blt pc 86)
 (cond (Nat.blt pc 81)
 (cond (Nat.beq pc 80) (some (.aload 0, 1)) (none))
 (cond (Nat.blt pc 84)
 (cond (Nat.beq pc 81) (some (.getfield 803, 3)) (none))
 (cond (Nat.beq pc 84) (some (.iconst 21, 2)) (none))))
 (cond (Nat.blt pc 89)
 (cond (Nat.blt pc 88)
 (cond (Nat.beq pc 86) (some (.iconst 8, 2)) (none))
 (cond (Nat.beq pc 88) (some (.aload 0, 1)) (none)))
 (cond (Nat.blt pc 92)
 (cond (Nat.beq pc 89) (some (.getfield 815, 3)) (none))
 (cond (Nat.beq pc 92) (some (.iload 5, 2)) (none))))))))
 (cond (Nat.blt pc 136)
 (cond (Nat.blt pc 112)
 (cond (Nat.blt pc 101)
 (cond (Nat.blt pc 97)
 (cond (Nat.blt pc 95)
 (cond (Nat.beq pc 94) (some (.iconst 1, 1)) (none))
 (cond (Nat.blt pc 96)
 (cond (Nat.beq pc 95) (some (.isub, 1)) (none))
 (cond (Nat.beq pc 96) (some (.iaload, 1)) (none))))
 (cond (Nat.blt pc 98)
 (cond (Nat.beq pc 97) (some (.imul, 1)) (none))
 (cond (Nat.blt pc 99)
 (cond (Nat.beq pc 98) (some (.iadd, 1)) (none))
 (cond (Nat.beq pc 99) (some (.iload 6, 2)) (none)))))
 (cond (Nat.blt pc 106)
 (cond (Nat.blt pc 102)
 (cond (Nat.beq pc 101) (some (.iadd, 1)) (none))
 (cond (Nat.blt pc 103)
 (cond (Nat.beq pc 102) (some (.iaload, 1)) (none))
 (cond (Nat.beq pc 103) (some (.ifCond .ne 108, 3)) (none))))
 (cond (Nat.blt pc 108)
 (cond (Nat.blt pc 107)
 (cond (Nat.beq pc 106) (some (.iconst 0, 1)) (none))
 (cond (Nat.beq pc 107) (some (.freturn, 1)) (none)))
 (cond (Nat.blt pc 109)
 (cond (Nat.beq pc 108) (some (.aload 0, 1)) (none))
 (cond (Nat.beq pc 109) (some (.getfield 815, 3)) (none))))))
 (cond (Nat.blt pc 124)
 (cond (Nat.blt pc 117)
 (cond (Nat.blt pc 114)
 (cond (Nat.beq pc 112) (some (.iload 5, 2)) (none))
 (cond (Nat.blt pc 116)
 (cond (Nat.beq pc 114) (some (.iload 6, 2)) (none))
 (cond (Nat.beq pc 116) (some (.iastore, 1)) (none))))
 (cond (Nat.blt pc 121)
 (cond (Nat.blt pc 118)
 (cond (Nat.beq pc 117) (some (.aload 0, 1)) (none))
 (cond (Nat.beq pc 118) (some (.getfield 816, 3)) (none)))
 (cond (Nat.blt pc 123)
 (cond (Nat.beq pc 121) (some (.iload 5, 2)) (none))
 (cond (Nat.beq pc 123) (some (.aload 0, 1)) (none)))))
 (cond (Nat.blt pc 130)
 (cond (Nat.blt pc 127)
 (cond (Nat.beq pc 124) (some (.getfield 816, 3)) (none))
 (cond (Nat.blt pc 129)
 (cond (Nat.beq pc 127) (some (.iload 5, 2)) (none))
 (cond (Nat.beq pc 129) (some (.iconst 1, 1)) (none))))
 (cond (Nat.blt pc 132)
 (cond (Nat.blt pc 131)
 (cond (Nat.beq pc 130) (some (.isub, 1)) (none))
 (cond (Nat.beq pc 131) (some (.iaload, 1)) (none)))
 (cond (Nat.blt pc 133)
 (cond (Nat.beq pc 132) (some (.aload 0, 1)) (none))
 (cond (Nat.beq pc 133) (some (.getfield 803, 3)) (none)))))))
 (cond (Nat.blt pc 156)
 (cond (Nat.blt pc 148)
 (cond (Nat.blt pc 141)
 (cond (Nat.blt pc 138)
 (cond (Nat.beq pc 136) (some (.iconst 21, 2)) (none))
 (cond (Nat.blt pc 140)
 (cond (Nat.beq pc 138) (some (.iconst 8, 2)) (none))
 (cond (Nat.beq pc 140) (some (.aload 0, 1)) (none))))
 (cond (Nat.blt pc 146)
 (cond (Nat.blt pc 144)
 (cond (Nat.beq pc 141) (some (.getfield 815, 3)) (none))
 (cond (Nat.beq pc 144) (some (.iload 5, 2)) (none)))
 (cond (Nat.blt pc 147)
 (cond (Nat.beq pc 146) (some (.iconst 1, 1)) (none))
 (cond (Nat.beq pc 147) (some (.isub, 1)) (none)))))
 (cond (Nat.blt pc 151)
 (cond (Nat.blt pc 149)
 (cond (Nat.beq pc 148) (some (.iaload, 1)) (none))
 (cond (Nat.blt pc 150)
 (cond (Nat.beq pc 149) (some (.imul, 1)) (none))
 (cond (Nat.beq pc 150) (some (.iadd, 1)) (none))))
 (cond (Nat.blt pc 154)
 (cond (Nat.blt pc 153)
 (cond (Nat.beq pc 151) (some (.iload 6, 2)) (none))
 (cond (Nat.beq pc 153) (some (.iadd, 1)) (none)))
 (cond (Nat.blt pc 155)
 (cond (Nat.beq pc 154) (some (.iaload, 1)) (none))
 (cond (Nat.beq pc 155) (some (.iadd, 1)) (none))))))
 (cond (Nat.blt pc 166)
 (cond (Nat.blt pc 160)
 (cond (Nat.blt pc 158)
 (cond (Nat.beq pc 156) (some (.iload 5, 2)) (none))
 (cond (Nat.blt pc 159)
 (cond (Nat.beq pc 158) (some (.iconst 1, 1)) (none))
 (cond (Nat.beq pc 159) (some (.isub, 1)) (none))))
 (cond (Nat.blt pc 164)
 (cond (Nat.blt pc 161)
 (cond (Nat.beq pc 160) (some (.aload 0, 1)) (none))
 (cond (Nat.beq pc 161) (some (.getfield 803, 3)) (none)))
 (cond (Nat.blt pc 165)
 (cond (Nat.beq pc 164) (some (.iconst 4, 1)) (none))
 (cond (Nat.beq pc 165) (some (.iaload, 1)) (none)))))
 (cond (Nat.blt pc 169)
 (cond (Nat.blt pc 167)
 (cond (Nat.beq pc 166) (some (.imul, 1)) (none))
 (cond (Nat.blt pc 168)
 (cond (Nat.beq pc 167) (some (.iadd, 1)) (none))
 (cond (Nat.beq pc 168) (some (.iastore, 1)) (none))))
 (cond (Nat.blt pc 175)
 (cond (Nat.blt pc 172)
 (cond (Nat.beq pc 169) (some (.iinc 5 1, 3)) (none))
 (cond (Nat.beq pc 172) (some (.goto 49, 3)) (none)))
 (cond (Nat.blt pc 176)
 (cond (Nat.beq pc 175) (some (.iconst 1, 1)) (none))
 (cond (Nat.beq pc 176) (some (.freturn, 1)) (none))))))))
-- AlwaysThereModel.worst(III)I
noncomputable def qc_153 (pc : Nat) : Option (Instr × Nat) := cond (Nat.blt pc 73)
 (cond (Nat.blt pc 34)
 (cond (Nat.blt pc 18)
 (cond (Nat.blt pc 9)
 (cond (Nat.blt pc 2)
 (cond (Nat.blt pc 1)
 (cond (Nat.beq pc 0) (some (.aload 0, 1)) (none))
 (cond (Nat.beq pc 1) (some (.iload 1, 1)) (none)))
 (cond (Nat.blt pc 5)
 (cond (Nat.beq pc 2) (some (.invokevirtual 105, 3)) (none))
 (cond (Nat.blt pc 8)
 (cond (Nat.beq pc 5) (some (.ifCond .eq 26, 3)) (none))
 (cond (Nat.beq pc 8) (some (.iload 2, 1)) (none)))))
 (cond (Nat.blt pc 11)
 (cond (Nat.blt pc 10)
 (cond (Nat.beq pc 9) (some (.iconst 0, 1)) (none))
 (cond (Nat.beq pc 10) (some (.iconst 4, 1)) (none)))
 (cond (Nat.blt pc 14)
 (cond (Nat.beq pc 11) (some (.invokestatic 104, 3)) (none))
 (cond (Nat.blt pc 17)
 (cond (Nat.beq pc 14) (some (.ifCond .eq 26, 3)) (none))
 (cond (Nat.beq pc 17) (some (.iload 3, 1)) (none))))))
 (cond (Nat.blt pc 27)
 (cond (Nat.blt pc 20)
 (cond (Nat.blt pc 19)
 (cond (Nat.beq pc 18) (some (.iconst 0, 1)) (none))
 (cond (Nat.beq pc 19) (some (.iconst 1, 1)) (none)))
 (cond (Nat.blt pc 23)
 (cond (Nat.beq pc 20) (some (.invokestatic 104, 3)) (none))
 (cond (Nat.blt pc 26)
 (cond (Nat.beq pc 23) (some (.ifCond .ne 28, 3)) (none))
 (cond (Nat.beq pc 26) (some (.iconst (-1), 1)) (none)))))
 (cond (Nat.blt pc 29)
 (cond (Nat.blt pc 28)
 (cond (Nat.beq pc 27) (some (.ireturn, 1)) (none))
 (cond (Nat.beq pc 28) (some (.iconst 1, 1)) (none)))
 (cond (Nat.blt pc 31)
 (cond (Nat.beq pc 29) (some (.istore 4, 2)) (none))
 (cond (Nat.blt pc 32)
 (cond (Nat.beq pc 31) (some (.iconst 0, 1)) (none))
 (cond (Nat.beq pc 32) (some (.istore 5, 2)) (none)))))))
 (cond (Nat.blt pc 55)
 (cond (Nat.blt pc 44)
 (cond (Nat.blt pc 37)
 (cond (Nat.blt pc 36)
 (cond (Nat.beq pc 34) (some (.iload 5, 2)) (none))
 (cond (Nat.beq pc 36) (some (.iload 2, 1)) (none)))
 (cond (Nat.blt pc 40)
 (cond (Nat.beq pc 37) (some (.if_icmp .ge 53, 3)) (none))
 (cond (Nat.blt pc 42)
 (cond (Nat.beq pc 40) (some (.iload 4, 2)) (none))
 (cond (Nat.beq pc 42) (some (.iconst 8, 2)) (none)))))
 (cond (Nat.blt pc 47)
 (cond (Nat.blt pc 45)
 (cond (Nat.beq pc 44) (some (.imul, 1)) (none))
 (cond (Nat.beq pc 45) (some (.istore 4, 2)) (none)))
 (cond (Nat.blt pc 50)
 (cond (Nat.beq pc 47) (some (.iinc 5 1, 3)) (none))
 (cond (Nat.blt pc 53)
 (cond (Nat.beq pc 50) (some (.goto 34, 3)) (none))
 (cond (Nat.beq pc 53) (some (.iconst (-9), 2)) (none))))))
 (cond (Nat.blt pc 64)
 (cond (Nat.blt pc 59)
 (cond (Nat.blt pc 57)
 (cond (Nat.beq pc 55) (some (.istore 5, 2)) (none))
 (cond (Nat.beq pc 57) (some (.iconst (-9), 2)) (none)))
 (cond (Nat.blt pc 61)
 (cond (Nat.beq pc 59) (some (.istore 6, 2)) (none))
 (cond (Nat.blt pc 62)
 (cond (Nat.beq pc 61) (some (.iconst 0, 1)) (none))
 (cond (Nat.beq pc 62) (some (.istore 7, 2)) (none)))))
 (cond (Nat.blt pc 68)
 (cond (Nat.blt pc 66)
 (cond (Nat.beq pc 64) (some (.iload 7, 2)) (none))
 (cond (Nat.beq pc 66) (some (.iload 4, 2)) (none)))
 (cond (Nat.blt pc 71)
 (cond (Nat.beq pc 68) (some (.if_icmp .ge 140, 3)) (none))
 (cond (Nat.blt pc 72)
 (cond (Nat.beq pc 71) (some (.aload 0, 1)) (none))
 (cond (Nat.beq pc 72) (some (.iload 1, 1)) (none))))))))
 (cond (Nat.blt pc 113)
 (cond (Nat.blt pc 95)
 (cond (Nat.blt pc 83)
 (cond (Nat.blt pc 76)
 (cond (Nat.blt pc 74)
 (cond (Nat.beq pc 73) (some (.iload 2, 1)) (none))
 (cond (Nat.beq pc 74) (some (.iload 7, 2)) (none)))
 (cond (Nat.blt pc 79)
 (cond (Nat.beq pc 76) (some (.invokevirtual 152, 3)) (none))
 (cond (Nat.blt pc 82)
 (cond (Nat.beq pc 79) (some (.ifCond .eq 134, 3)) (none))
 (cond (Nat.beq pc 82) (some (.aload 0, 1)) (none)))))
 (cond (Nat.blt pc 88)
 (cond (Nat.blt pc 86)
 (cond (Nat.beq pc 83) (some (.invokevirtual 150, 3)) (none))
 (cond (Nat.beq pc 86) (some (.istore 8, 2)) (none)))
 (cond (Nat.blt pc 90)
 (cond (Nat.beq pc 88) (some (.iload 8, 2)) (none))
 (cond (Nat.blt pc 92)
 (cond (Nat.beq pc 90) (some (.iload 5, 2)) (none))
 (cond (Nat.beq pc 92) (some (.if_icmp .le 134, 3)) (none))))))
 (cond (Nat.blt pc 103)
 (cond (Nat.blt pc 99)
 (cond (Nat.blt pc 97)
 (cond (Nat.beq pc 95) (some (.iload 8, 2)) (none))
 (cond (Nat.beq pc 97) (some (.istore 5, 2)) (none)))
 (cond (Nat.blt pc 100)
 (cond (Nat.beq pc 99) (some (.iconst 0, 1)) (none))
 (cond (Nat.blt pc 102)
 (cond (Nat.beq pc 100) (some (.istore 6, 2)) (none))
 (cond (Nat.beq pc 102) (some (.iconst 0, 1)) (none)))))
 (cond (Nat.blt pc 107)
 (cond (Nat.blt pc 105)
 (cond (Nat.beq pc 103) (some (.istore 9, 2)) (none))
 (cond (Nat.beq pc 105) (some (.iload 9, 2)) (none)))
 (cond (Nat.blt pc 108)
 (cond (Nat.beq pc 107) (some (.iload 2, 1)) (none))
 (cond (Nat.blt pc 111)
 (cond (Nat.beq pc 108) (some (.if_icmp .gt 134, 3)) (none))
 (cond (Nat.beq pc 111) (some (.iconst 10, 2)) (none)))))))
 (cond (Nat.blt pc 128)
 (cond (Nat.blt pc 122)
 (cond (Nat.blt pc 116)
 (cond (Nat.blt pc 115)
 (cond (Nat.beq pc 113) (some (.iload 6, 2)) (none))
 (cond (Nat.beq pc 115) (some (.imul, 1)) (none)))
 (cond (Nat.blt pc 117)
 (cond (Nat.beq pc 116) (some (.aload 0, 1)) (none))
 (cond (Nat.blt pc 120)
 (cond (Nat.beq pc 117) (some (.getfield 815, 3)) (none))
 (cond (Nat.beq pc 120) (some (.iload 9, 2)) (none)))))
 (cond (Nat.blt pc 124)
 (cond (Nat.blt pc 123)
 (cond (Nat.beq pc 122) (some (.iaload, 1)) (none))
 (cond (Nat.beq pc 123) (some (.iadd, 1)) (none)))
 (cond (Nat.blt pc 125)
 (cond (Nat.beq pc 124) (some (.iconst 1, 1)) (none))
 (cond (Nat.blt pc 126)
 (cond (Nat.beq pc 125) (some (.iadd, 1)) (none))
 (cond (Nat.beq pc 126) (some (.istore 6, 2)) (none))))))
 (cond (Nat.blt pc 141)
 (cond (Nat.blt pc 134)
 (cond (Nat.blt pc 131)
 (cond (Nat.beq pc 128) (some (.iinc 9 1, 3)) (none))
 (cond (Nat.beq pc 131) (some (.goto 105, 3)) (none)))
 (cond (Nat.blt pc 137)
 (cond (Nat.beq pc 134) (some (.iinc 7 1, 3)) (none))
 (cond (Nat.blt pc 140)
 (cond (Nat.beq pc 137) (some (.goto 64, 3)) (none))
 (cond (Nat.beq pc 140) (some (.iload 3, 1)) (none)))))
 (cond (Nat.blt pc 146)
 (cond (Nat.blt pc 144)
 (cond (Nat.beq pc 141) (some (.ifCond .ne 149, 3)) (none))
 (cond (Nat.beq pc 144) (some (.iload 5, 2)) (none)))
 (cond (Nat.blt pc 149)
 (cond (Nat.beq pc 146) (some (.goto 151, 3)) (none))
 (cond (Nat.blt pc 151)
 (cond (Nat.beq pc 149) (some (.iload 6, 2)) (none))
 (cond (Nat.beq pc 151) (some (.ireturn, 1)) (none))))))))
-- AlwaysThereModel.saw(II)I
noncomputable def qc_154 (pc : Nat) : Option (Instr × Nat) := cond (Nat.blt pc 24)
 (cond (Nat.blt pc 10)
 (cond (Nat.blt pc 5)
 (cond (Nat.blt pc 1)
 (cond (Nat.beq pc 0) (some (.aload 0, 1)) (none))
 (cond (Nat.blt pc 2)
 (cond (Nat.beq pc 1) (some (.iload 1, 1)) (none))
 (cond (Nat.beq pc 2) (some (.invokevirtual 107, 3)) (none))))
 (cond (Nat.blt pc 8)
 (cond (Nat.beq pc 5) (some (.ifCond .eq 18, 3)) (none))
 (cond (Nat.blt pc 9)
 (cond (Nat.beq pc 8) (some (.iload 2, 1)) (none))
 (cond (Nat.beq pc 9) (some (.iconst 0, 1)) (none)))))
 (cond (Nat.blt pc 18)
 (cond (Nat.blt pc 12)
 (cond (Nat.beq pc 10) (some (.iconst 15, 2)) (none))
 (cond (Nat.blt pc 15)
 (cond (Nat.beq pc 12) (some (.invokestatic 104, 3)) (none))
 (cond (Nat.beq pc 15) (some (.ifCond .ne 20, 3)) (none))))
 (cond (Nat.blt pc 20)
 (cond (Nat.blt pc 19)
 (cond (Nat.beq pc 18) (some (.iconst (-1), 1)) (none))
 (cond (Nat.beq pc 19) (some (.ireturn, 1)) (none)))
 (cond (Nat.blt pc 21)
 (cond (Nat.beq pc 20) (some (.aload 0, 1)) (none))
 (cond (Nat.beq pc 21) (some (.getfield 805, 3)) (none))))))
 (cond (Nat.blt pc 34)
 (cond (Nat.blt pc 28)
 (cond (Nat.blt pc 26)
 (cond (Nat.beq pc 24) (some (.iconst 57, 2)) (none))
 (cond (Nat.blt pc 27)
 (cond (Nat.beq pc 26) (some (.iload 1, 1)) (none))
 (cond (Nat.beq pc 27) (some (.iadd, 1)) (none))))
 (cond (Nat.blt pc 30)
 (cond (Nat.blt pc 29)
 (cond (Nat.beq pc 28) (some (.iaload, 1)) (none))
 (cond (Nat.beq pc 29) (some (.istore 3, 1)) (none)))
 (cond (Nat.blt pc 31)
 (cond (Nat.beq pc 30) (some (.aload 0, 1)) (none))
 (cond (Nat.beq pc 31) (some (.getfield 805, 3)) (none)))))
 (cond (Nat.blt pc 38)
 (cond (Nat.blt pc 36)
 (cond (Nat.beq pc 34) (some (.iconst 57, 2)) (none))
 (cond (Nat.blt pc 37)
 (cond (Nat.beq pc 36) (some (.iload 1, 1)) (none))
 (cond (Nat.beq pc 37) (some (.iadd, 1)) (none))))
 (cond (Nat.blt pc 40)
 (cond (Nat.blt pc 39)
 (cond (Nat.beq pc 38) (some (.iload 2, 1)) (none))
 (cond (Nat.beq pc 39) (some (.iastore, 1)) (none)))
 (cond (Nat.blt pc 41)
 (cond (Nat.beq pc 40) (some (.iload 3, 1)) (none))
 (cond (Nat.beq pc 41) (some (.ireturn, 1)) (none))))))
-- AlwaysThereModel.forget()I
noncomputable def qc_155 (pc : Nat) : Option (Instr × Nat) := cond (Nat.blt pc 25)
 (cond (Nat.blt pc 11)
 (cond (Nat.blt pc 4)
 (cond (Nat.blt pc 2)
 (cond (Nat.blt pc 1)
 (cond (Nat.beq pc 0) (some (.iconst 0, 1)) (none))
 (cond (Nat.beq pc 1) (some (.istore 1, 1)) (none)))
 (cond (Nat.blt pc 3)
 (cond (Nat.beq pc 2) (some (.iconst 0, 1)) (none))
 (cond (Nat.beq pc 3) (some (.istore 2, 1)) (none))))
 (cond (Nat.blt pc 7)
 (cond (Nat.blt pc 5)
 (cond (Nat.beq pc 4) (some (.iload 2, 1)) (none))
 (cond (Nat.beq pc 5) (some (.iconst 8, 2)) (none)))
 (cond (Nat.blt pc 10)
 (cond (Nat.beq pc 7) (some (.if_icmp .ge 49, 3)) (none))
 (cond (Nat.beq pc 10) (some (.iload 1, 1)) (none)))))
 (cond (Nat.blt pc 18)
 (cond (Nat.blt pc 15)
 (cond (Nat.blt pc 12)
 (cond (Nat.beq pc 11) (some (.aload 0, 1)) (none))
 (cond (Nat.beq pc 12) (some (.getfield 805, 3)) (none)))
 (cond (Nat.blt pc 17)
 (cond (Nat.beq pc 15) (some (.iconst 57, 2)) (none))
 (cond (Nat.beq pc 17) (some (.iload 2, 1)) (none))))
 (cond (Nat.blt pc 20)
 (cond (Nat.blt pc 19)
 (cond (Nat.beq pc 18) (some (.iadd, 1)) (none))
 (cond (Nat.beq pc 19) (some (.iaload, 1)) (none)))
 (cond (Nat.blt pc 22)
 (cond (Nat.beq pc 20) (some (.iconst (-9), 2)) (none))
 (cond (Nat.beq pc 22) (some (.if_icmp .ne 29, 3)) (none))))))
 (cond (Nat.blt pc 38)
 (cond (Nat.blt pc 31)
 (cond (Nat.blt pc 29)
 (cond (Nat.blt pc 26)
 (cond (Nat.beq pc 25) (some (.iconst 0, 1)) (none))
 (cond (Nat.beq pc 26) (some (.goto 30, 3)) (none)))
 (cond (Nat.blt pc 30)
 (cond (Nat.beq pc 29) (some (.iconst 1, 1)) (none))
 (cond (Nat.beq pc 30) (some (.iadd, 1)) (none))))
 (cond (Nat.blt pc 33)
 (cond (Nat.blt pc 32)
 (cond (Nat.beq pc 31) (some (.istore 1, 1)) (none))
 (cond (Nat.beq pc 32) (some (.aload 0, 1)) (none)))
 (cond (Nat.blt pc 36)
 (cond (Nat.beq pc 33) (some (.getfield 805, 3)) (none))
 (cond (Nat.beq pc 36) (some (.iconst 57, 2)) (none)))))
 (cond (Nat.blt pc 43)
 (cond (Nat.blt pc 40)
 (cond (Nat.blt pc 39)
 (cond (Nat.beq pc 38) (some (.iload 2, 1)) (none))
 (cond (Nat.beq pc 39) (some (.iadd, 1)) (none)))
 (cond (Nat.blt pc 42)
 (cond (Nat.beq pc 40) (some (.iconst (-9), 2)) (none))
 (cond (Nat.beq pc 42) (some (.iastore, 1)) (none))))
 (cond (Nat.blt pc 49)
 (cond (Nat.blt pc 46)
 (cond (Nat.beq pc 43) (some (.iinc 2 1, 3)) (none))
 (cond (Nat.beq pc 46) (some (.goto 4, 3)) (none)))
 (cond (Nat.blt pc 50)
 (cond (Nat.beq pc 49) (some (.iload 1, 1)) (none))
 (cond (Nat.beq pc 50) (some (.ireturn, 1)) (none))))))
-- AlwaysThereModel.canBe(II)Z
noncomputable def qc_156 (pc : Nat) : Option (Instr × Nat) := cond (Nat.blt pc 65)
 (cond (Nat.blt pc 32)
 (cond (Nat.blt pc 16)
 (cond (Nat.blt pc 8)
 (cond (Nat.blt pc 4)
 (cond (Nat.blt pc 1)
 (cond (Nat.beq pc 0) (some (.aload 0, 1)) (none))
 (cond (Nat.beq pc 1) (some (.getfield 803, 3)) (none)))
 (cond (Nat.blt pc 6)
 (cond (Nat.beq pc 4) (some (.iconst 8, 2)) (none))
 (cond (Nat.blt pc 7)
 (cond (Nat.beq pc 6) (some (.iload 1, 1)) (none))
 (cond (Nat.beq pc 7) (some (.iadd, 1)) (none)))))
 (cond (Nat.blt pc 10)
 (cond (Nat.blt pc 9)
 (cond (Nat.beq pc 8) (some (.iaload, 1)) (none))
 (cond (Nat.beq pc 9) (some (.istore 3, 1)) (none)))
 (cond (Nat.blt pc 11)
 (cond (Nat.beq pc 10) (some (.aload 0, 1)) (none))
 (cond (Nat.blt pc 14)
 (cond (Nat.beq pc 11) (some (.getfield 805, 3)) (none))
 (cond (Nat.beq pc 14) (some (.iconst 57, 2)) (none))))))
 (cond (Nat.blt pc 23)
 (cond (Nat.blt pc 18)
 (cond (Nat.blt pc 17)
 (cond (Nat.beq pc 16) (some (.iload 2, 1)) (none))
 (cond (Nat.beq pc 17) (some (.iadd, 1)) (none)))
 (cond (Nat.blt pc 19)
 (cond (Nat.beq pc 18) (some (.iaload, 1)) (none))
 (cond (Nat.blt pc 21)
 (cond (Nat.beq pc 19) (some (.istore 4, 2)) (none))
 (cond (Nat.beq pc 21) (some (.iload 4, 2)) (none)))))
 (cond (Nat.blt pc 28)
 (cond (Nat.blt pc 25)
 (cond (Nat.beq pc 23) (some (.iconst (-9), 2)) (none))
 (cond (Nat.beq pc 25) (some (.if_icmp .ne 30, 3)) (none)))
 (cond (Nat.blt pc 29)
 (cond (Nat.beq pc 28) (some (.iconst 1, 1)) (none))
 (cond (Nat.blt pc 30)
 (cond (Nat.beq pc 29) (some (.freturn, 1)) (none))
 (cond (Nat.beq pc 30) (some (.iload 4, 2)) (none)))))))
 (cond (Nat.blt pc 47)
 (cond (Nat.blt pc 39)
 (cond (Nat.blt pc 34)
 (cond (Nat.blt pc 33)
 (cond (Nat.beq pc 32) (some (.iload 3, 1)) (none))
 (cond (Nat.beq pc 33) (some (.iconst (-1), 1)) (none)))
 (cond (Nat.blt pc 35)
 (cond (Nat.beq pc 34) (some (.ixor, 1)) (none))
 (cond (Nat.blt pc 36)
 (cond (Nat.beq pc 35) (some (.iand, 1)) (none))
 (cond (Nat.beq pc 36) (some (.ifCond .ne 43, 3)) (none)))))
 (cond (Nat.blt pc 43)
 (cond (Nat.blt pc 40)
 (cond (Nat.beq pc 39) (some (.iconst 1, 1)) (none))
 (cond (Nat.beq pc 40) (some (.goto 44, 3)) (none)))
 (cond (Nat.blt pc 44)
 (cond (Nat.beq pc 43) (some (.iconst 0, 1)) (none))
 (cond (Nat.blt pc 46)
 (cond (Nat.beq pc 44) (some (.istore 5, 2)) (none))
 (cond (Nat.beq pc 46) (some (.iconst 0, 1)) (none))))))
 (cond (Nat.blt pc 56)
 (cond (Nat.blt pc 51)
 (cond (Nat.blt pc 49)
 (cond (Nat.beq pc 47) (some (.istore 6, 2)) (none))
 (cond (Nat.beq pc 49) (some (.iload 6, 2)) (none)))
 (cond (Nat.blt pc 52)
 (cond (Nat.beq pc 51) (some (.iconst 4, 1)) (none))
 (cond (Nat.blt pc 55)
 (cond (Nat.beq pc 52) (some (.if_icmp .ge 133, 3)) (none))
 (cond (Nat.beq pc 55) (some (.aload 0, 1)) (none)))))
 (cond (Nat.blt pc 60)
 (cond (Nat.blt pc 59)
 (cond (Nat.beq pc 56) (some (.getfield 803, 3)) (none))
 (cond (Nat.beq pc 59) (some (.iconst 5, 1)) (none)))
 (cond (Nat.blt pc 61)
 (cond (Nat.beq pc 60) (some (.iaload, 1)) (none))
 (cond (Nat.blt pc 64)
 (cond (Nat.beq pc 61) (some (.ifCond .le 88, 3)) (none))
 (cond (Nat.beq pc 64) (some (.aload 0, 1)) (none))))))))
 (cond (Nat.blt pc 99)
 (cond (Nat.blt pc 80)
 (cond (Nat.blt pc 74)
 (cond (Nat.blt pc 69)
 (cond (Nat.blt pc 68)
 (cond (Nat.beq pc 65) (some (.getfield 816, 3)) (none))
 (cond (Nat.beq pc 68) (some (.iload 2, 1)) (none)))
 (cond (Nat.blt pc 70)
 (cond (Nat.beq pc 69) (some (.iaload, 1)) (none))
 (cond (Nat.blt pc 71)
 (cond (Nat.beq pc 70) (some (.aload 0, 1)) (none))
 (cond (Nat.beq pc 71) (some (.getfield 803, 3)) (none)))))
 (cond (Nat.blt pc 76)
 (cond (Nat.blt pc 75)
 (cond (Nat.beq pc 74) (some (.iconst 5, 1)) (none))
 (cond (Nat.beq pc 75) (some (.iaload, 1)) (none)))
 (cond (Nat.blt pc 78)
 (cond (Nat.beq pc 76) (some (.iload 6, 2)) (none))
 (cond (Nat.blt pc 79)
 (cond (Nat.beq pc 78) (some (.iconst 1, 1)) (none))
 (cond (Nat.beq pc 79) (some (.iadd, 1)) (none))))))
 (cond (Nat.blt pc 89)
 (cond (Nat.blt pc 84)
 (cond (Nat.blt pc 81)
 (cond (Nat.beq pc 80) (some (.imul, 1)) (none))
 (cond (Nat.beq pc 81) (some (.if_icmp .lt 88, 3)) (none)))
 (cond (Nat.blt pc 85)
 (cond (Nat.beq pc 84) (some (.iconst 1, 1)) (none))
 (cond (Nat.blt pc 88)
 (cond (Nat.beq pc 85) (some (.goto 89, 3)) (none))
 (cond (Nat.beq pc 88) (some (.iconst 0, 1)) (none)))))
 (cond (Nat.blt pc 93)
 (cond (Nat.blt pc 91)
 (cond (Nat.beq pc 89) (some (.istore 7, 2)) (none))
 (cond (Nat.beq pc 91) (some (.iload 5, 2)) (none)))
 (cond (Nat.blt pc 96)
 (cond (Nat.beq pc 93) (some (.ifCond .eq 124, 3)) (none))
 (cond (Nat.blt pc 97)
 (cond (Nat.beq pc 96) (some (.iload 3, 1)) (none))
 (cond (Nat.beq pc 97) (some (.iload 4, 2)) (none)))))))
 (cond (Nat.blt pc 113)
 (cond (Nat.blt pc 105)
 (cond (Nat.blt pc 101)
 (cond (Nat.blt pc 100)
 (cond (Nat.beq pc 99) (some (.iconst (-1), 1)) (none))
 (cond (Nat.beq pc 100) (some (.ixor, 1)) (none)))
 (cond (Nat.blt pc 102)
 (cond (Nat.beq pc 101) (some (.iand, 1)) (none))
 (cond (Nat.blt pc 104)
 (cond (Nat.beq pc 102) (some (.iload 6, 2)) (none))
 (cond (Nat.beq pc 104) (some (.ishr, 1)) (none)))))
 (cond (Nat.blt pc 107)
 (cond (Nat.blt pc 106)
 (cond (Nat.beq pc 105) (some (.iconst 1, 1)) (none))
 (cond (Nat.beq pc 106) (some (.iand, 1)) (none)))
 (cond (Nat.blt pc 109)
 (cond (Nat.beq pc 107) (some (.iload 7, 2)) (none))
 (cond (Nat.blt pc 112)
 (cond (Nat.beq pc 109) (some (.ifCond .eq 116, 3)) (none))
 (cond (Nat.beq pc 112) (some (.iconst 1, 1)) (none))))))
 (cond (Nat.blt pc 124)
 (cond (Nat.blt pc 117)
 (cond (Nat.blt pc 116)
 (cond (Nat.beq pc 113) (some (.goto 117, 3)) (none))
 (cond (Nat.beq pc 116) (some (.iconst 0, 1)) (none)))
 (cond (Nat.blt pc 120)
 (cond (Nat.beq pc 117) (some (.if_icmp .gt 124, 3)) (none))
 (cond (Nat.blt pc 121)
 (cond (Nat.beq pc 120) (some (.iconst 1, 1)) (none))
 (cond (Nat.beq pc 121) (some (.goto 125, 3)) (none)))))
 (cond (Nat.blt pc 130)
 (cond (Nat.blt pc 125)
 (cond (Nat.beq pc 124) (some (.iconst 0, 1)) (none))
 (cond (Nat.blt pc 127)
 (cond (Nat.beq pc 125) (some (.istore 5, 2)) (none))
 (cond (Nat.beq pc 127) (some (.iinc 6 1, 3)) (none))))
 (cond (Nat.blt pc 133)
 (cond (Nat.beq pc 130) (some (.goto 49, 3)) (none))
 (cond (Nat.blt pc 135)
 (cond (Nat.beq pc 133) (some (.iload 5, 2)) (none))
 (cond (Nat.beq pc 135) (some (.freturn, 1)) (none))))))))
-- AlwaysThereModel.ways()I
noncomputable def qc_157 (pc : Nat) : Option (Instr × Nat) := cond (Nat.blt pc 87)
 (cond (Nat.blt pc 44)
 (cond (Nat.blt pc 20)
 (cond (Nat.blt pc 9)
 (cond (Nat.blt pc 5)
 (cond (Nat.blt pc 1)
 (cond (Nat.beq pc 0) (some (.aload 0, 1)) (none))
 (cond (Nat.blt pc 4)
 (cond (Nat.beq pc 1) (some (.invokevirtual 145, 3)) (none))
 (cond (Nat.beq pc 4) (some (.iconst 0, 1)) (none))))
 (cond (Nat.blt pc 6)
 (cond (Nat.beq pc 5) (some (.istore 1, 1)) (none))
 (cond (Nat.blt pc 7)
 (cond (Nat.beq pc 6) (some (.iload 1, 1)) (none))
 (cond (Nat.beq pc 7) (some (.iconst 8, 2)) (none)))))
 (cond (Nat.blt pc 16)
 (cond (Nat.blt pc 12)
 (cond (Nat.beq pc 9) (some (.if_icmp .ge 32, 3)) (none))
 (cond (Nat.blt pc 13)
 (cond (Nat.beq pc 12) (some (.aload 0, 1)) (none))
 (cond (Nat.beq pc 13) (some (.getfield 818, 3)) (none))))
 (cond (Nat.blt pc 18)
 (cond (Nat.blt pc 17)
 (cond (Nat.beq pc 16) (some (.iload 1, 1)) (none))
 (cond (Nat.beq pc 17) (some (.iconst (-1), 1)) (none)))
 (cond (Nat.blt pc 19)
 (cond (Nat.beq pc 18) (some (.iastore, 1)) (none))
 (cond (Nat.beq pc 19) (some (.aload 0, 1)) (none))))))
 (cond (Nat.blt pc 33)
 (cond (Nat.blt pc 25)
 (cond (Nat.blt pc 23)
 (cond (Nat.beq pc 20) (some (.getfield 820, 3)) (none))
 (cond (Nat.blt pc 24)
 (cond (Nat.beq pc 23) (some (.iload 1, 1)) (none))
 (cond (Nat.beq pc 24) (some (.iconst 0, 1)) (none))))
 (cond (Nat.blt pc 29)
 (cond (Nat.blt pc 26)
 (cond (Nat.beq pc 25) (some (.iastore, 1)) (none))
 (cond (Nat.beq pc 26) (some (.iinc 1 1, 3)) (none)))
 (cond (Nat.blt pc 32)
 (cond (Nat.beq pc 29) (some (.goto 6, 3)) (none))
 (cond (Nat.beq pc 32) (some (.aload 0, 1)) (none)))))
 (cond (Nat.blt pc 40)
 (cond (Nat.blt pc 36)
 (cond (Nat.beq pc 33) (some (.getfield 817, 3)) (none))
 (cond (Nat.blt pc 39)
 (cond (Nat.beq pc 36) (some (.ifCond .ne 41, 3)) (none))
 (cond (Nat.beq pc 39) (some (.iconst 1, 1)) (none))))
 (cond (Nat.blt pc 42)
 (cond (Nat.blt pc 41)
 (cond (Nat.beq pc 40) (some (.ireturn, 1)) (none))
 (cond (Nat.beq pc 41) (some (.iconst 0, 1)) (none)))
 (cond (Nat.blt pc 43)
 (cond (Nat.beq pc 42) (some (.istore 1, 1)) (none))
 (cond (Nat.beq pc 43) (some (.iconst 0, 1)) (none)))))))
 (cond (Nat.blt pc 63)
 (cond (Nat.blt pc 54)
 (cond (Nat.blt pc 49)
 (cond (Nat.blt pc 45)
 (cond (Nat.beq pc 44) (some (.istore 2, 1)) (none))
 (cond (Nat.blt pc 46)
 (cond (Nat.beq pc 45) (some (.iload 2, 1)) (none))
 (cond (Nat.beq pc 46) (some (.ifCond .lt 178, 3)) (none))))
 (cond (Nat.blt pc 50)
 (cond (Nat.beq pc 49) (some (.aload 0, 1)) (none))
 (cond (Nat.blt pc 53)
 (cond (Nat.beq pc 50) (some (.getfield 818, 3)) (none))
 (cond (Nat.beq pc 53) (some (.iload 2, 1)) (none)))))
 (cond (Nat.blt pc 57)
 (cond (Nat.blt pc 55)
 (cond (Nat.beq pc 54) (some (.dup2, 1)) (none))
 (cond (Nat.blt pc 56)
 (cond (Nat.beq pc 55) (some (.iaload, 1)) (none))
 (cond (Nat.beq pc 56) (some (.iconst 1, 1)) (none))))
 (cond (Nat.blt pc 59)
 (cond (Nat.blt pc 58)
 (cond (Nat.beq pc 57) (some (.iadd, 1)) (none))
 (cond (Nat.beq pc 58) (some (.iastore, 1)) (none)))
 (cond (Nat.blt pc 60)
 (cond (Nat.beq pc 59) (some (.aload 0, 1)) (none))
 (cond (Nat.beq pc 60) (some (.getfield 818, 3)) (none))))))
 (cond (Nat.blt pc 74)
 (cond (Nat.blt pc 66)
 (cond (Nat.blt pc 64)
 (cond (Nat.beq pc 63) (some (.iload 2, 1)) (none))
 (cond (Nat.blt pc 65)
 (cond (Nat.beq pc 64) (some (.iaload, 1)) (none))
 (cond (Nat.beq pc 65) (some (.aload 0, 1)) (none))))
 (cond (Nat.blt pc 70)
 (cond (Nat.blt pc 69)
 (cond (Nat.beq pc 66) (some (.getfield 803, 3)) (none))
 (cond (Nat.beq pc 69) (some (.iconst 1, 1)) (none)))
 (cond (Nat.blt pc 71)
 (cond (Nat.beq pc 70) (some (.iaload, 1)) (none))
 (cond (Nat.beq pc 71) (some (.if_icmp .ge 95, 3)) (none)))))
 (cond (Nat.blt pc 79)
 (cond (Nat.blt pc 75)
 (cond (Nat.beq pc 74) (some (.aload 0, 1)) (none))
 (cond (Nat.blt pc 76)
 (cond (Nat.beq pc 75) (some (.iload 2, 1)) (none))
 (cond (Nat.beq pc 76) (some (.invokevirtual 158, 3)) (none))))
 (cond (Nat.blt pc 83)
 (cond (Nat.blt pc 82)
 (cond (Nat.beq pc 79) (some (.ifCond .ne 95, 3)) (none))
 (cond (Nat.beq pc 82) (some (.aload 0, 1)) (none)))
 (cond (Nat.blt pc 86)
 (cond (Nat.beq pc 83) (some (.getfield 818, 3)) (none))
 (cond (Nat.beq pc 86) (some (.iload 2, 1)) (none))))))))
 (cond (Nat.blt pc 130)
 (cond (Nat.blt pc 106)
 (cond (Nat.blt pc 95)
 (cond (Nat.blt pc 90)
 (cond (Nat.blt pc 88)
 (cond (Nat.beq pc 87) (some (.dup2, 1)) (none))
 (cond (Nat.blt pc 89)
 (cond (Nat.beq pc 88) (some (.iaload, 1)) (none))
 (cond (Nat.beq pc 89) (some (.iconst 1, 1)) (none))))
 (cond (Nat.blt pc 91)
 (cond (Nat.beq pc 90) (some (.iadd, 1)) (none))
 (cond (Nat.blt pc 92)
 (cond (Nat.beq pc 91) (some (.iastore, 1)) (none))
 (cond (Nat.beq pc 92) (some (.goto 59, 3)) (none)))))
 (cond (Nat.blt pc 100)
 (cond (Nat.blt pc 96)
 (cond (Nat.beq pc 95) (some (.aload 0, 1)) (none))
 (cond (Nat.blt pc 99)
 (cond (Nat.beq pc 96) (some (.getfield 818, 3)) (none))
 (cond (Nat.beq pc 99) (some (.iload 2, 1)) (none))))
 (cond (Nat.blt pc 102)
 (cond (Nat.blt pc 101)
 (cond (Nat.beq pc 100) (some (.iaload, 1)) (none))
 (cond (Nat.beq pc 101) (some (.aload 0, 1)) (none)))
 (cond (Nat.blt pc 105)
 (cond (Nat.beq pc 102) (some (.getfield 803, 3)) (none))
 (cond (Nat.beq pc 105) (some (.iconst 1, 1)) (none))))))
 (cond (Nat.blt pc 117)
 (cond (Nat.blt pc 111)
 (cond (Nat.blt pc 107)
 (cond (Nat.beq pc 106) (some (.iaload, 1)) (none))
 (cond (Nat.blt pc 110)
 (cond (Nat.beq pc 107) (some (.if_icmp .ne 123, 3)) (none))
 (cond (Nat.beq pc 110) (some (.aload 0, 1)) (none))))
 (cond (Nat.blt pc 115)
 (cond (Nat.blt pc 114)
 (cond (Nat.beq pc 111) (some (.getfield 818, 3)) (none))
 (cond (Nat.beq pc 114) (some (.iload 2, 1)) (none)))
 (cond (Nat.blt pc 116)
 (cond (Nat.beq pc 115) (some (.iconst (-1), 1)) (none))
 (cond (Nat.beq pc 116) (some (.iastore, 1)) (none)))))
 (cond (Nat.blt pc 124)
 (cond (Nat.blt pc 120)
 (cond (Nat.beq pc 117) (some (.iinc 2 (-1), 3)) (none))
 (cond (Nat.blt pc 123)
 (cond (Nat.beq pc 120) (some (.goto 45, 3)) (none))
 (cond (Nat.beq pc 123) (some (.iload 2, 1)) (none))))
 (cond (Nat.blt pc 126)
 (cond (Nat.blt pc 125)
 (cond (Nat.beq pc 124) (some (.iconst 1, 1)) (none))
 (cond (Nat.beq pc 125) (some (.iadd, 1)) (none)))
 (cond (Nat.blt pc 127)
 (cond (Nat.beq pc 126) (some (.aload 0, 1)) (none))
 (cond (Nat.beq pc 127) (some (.getfield 817, 3)) (none)))))))
 (cond (Nat.blt pc 158)
 (cond (Nat.blt pc 145)
 (cond (Nat.blt pc 139)
 (cond (Nat.blt pc 133)
 (cond (Nat.beq pc 130) (some (.if_icmp .ge 139, 3)) (none))
 (cond (Nat.blt pc 136)
 (cond (Nat.beq pc 133) (some (.iinc 2 1, 3)) (none))
 (cond (Nat.beq pc 136) (some (.goto 45, 3)) (none))))
 (cond (Nat.blt pc 143)
 (cond (Nat.blt pc 142)
 (cond (Nat.beq pc 139) (some (.iinc 1 1, 3)) (none))
 (cond (Nat.beq pc 142) (some (.iconst 0, 1)) (none)))
 (cond (Nat.blt pc 144)
 (cond (Nat.beq pc 143) (some (.istore 3, 1)) (none))
 (cond (Nat.beq pc 144) (some (.iload 3, 1)) (none)))))
 (cond (Nat.blt pc 152)
 (cond (Nat.blt pc 146)
 (cond (Nat.beq pc 145) (some (.aload 0, 1)) (none))
 (cond (Nat.blt pc 149)
 (cond (Nat.beq pc 146) (some (.getfield 817, 3)) (none))
 (cond (Nat.beq pc 149) (some (.if_icmp .ge 175, 3)) (none))))
 (cond (Nat.blt pc 156)
 (cond (Nat.blt pc 153)
 (cond (Nat.beq pc 152) (some (.aload 0, 1)) (none))
 (cond (Nat.beq pc 153) (some (.getfield 820, 3)) (none)))
 (cond (Nat.blt pc 157)
 (cond (Nat.beq pc 156) (some (.iload 3, 1)) (none))
 (cond (Nat.beq pc 157) (some (.dup2, 1)) (none))))))
 (cond (Nat.blt pc 167)
 (cond (Nat.blt pc 161)
 (cond (Nat.blt pc 159)
 (cond (Nat.beq pc 158) (some (.iaload, 1)) (none))
 (cond (Nat.blt pc 160)
 (cond (Nat.beq pc 159) (some (.iconst 1, 1)) (none))
 (cond (Nat.beq pc 160) (some (.aload 0, 1)) (none))))
 (cond (Nat.blt pc 165)
 (cond (Nat.blt pc 164)
 (cond (Nat.beq pc 161) (some (.getfield 818, 3)) (none))
 (cond (Nat.beq pc 164) (some (.iload 3, 1)) (none)))
 (cond (Nat.blt pc 166)
 (cond (Nat.beq pc 165) (some (.iaload, 1)) (none))
 (cond (Nat.beq pc 166) (some (.ishl, 1)) (none)))))
 (cond (Nat.blt pc 172)
 (cond (Nat.blt pc 168)
 (cond (Nat.beq pc 167) (some (.ior, 1)) (none))
 (cond (Nat.blt pc 169)
 (cond (Nat.beq pc 168) (some (.iastore, 1)) (none))
 (cond (Nat.beq pc 169) (some (.iinc 3 1, 3)) (none))))
 (cond (Nat.blt pc 178)
 (cond (Nat.blt pc 175)
 (cond (Nat.beq pc 172) (some (.goto 144, 3)) (none))
 (cond (Nat.beq pc 175) (some (.goto 45, 3)) (none)))
 (cond (Nat.blt pc 179)
 (cond (Nat.beq pc 178) (some (.iload 1, 1)) (none))
 (cond (Nat.beq pc 179) (some (.ireturn, 1)) (none))))))))
-- AlwaysThereModel.isThere(I)Z
noncomputable def qc_158 (pc : Nat) : Option (Instr × Nat) := cond (Nat.blt pc 34)
 (cond (Nat.blt pc 15)
 (cond (Nat.blt pc 6)
 (cond (Nat.blt pc 3)
 (cond (Nat.blt pc 2)
 (cond (Nat.beq pc 0) (some (.iconst (-9), 2)) (none))
 (cond (Nat.beq pc 2) (some (.istore 2, 1)) (none)))
 (cond (Nat.blt pc 4)
 (cond (Nat.beq pc 3) (some (.iconst 0, 1)) (none))
 (cond (Nat.blt pc 5)
 (cond (Nat.beq pc 4) (some (.istore 3, 1)) (none))
 (cond (Nat.beq pc 5) (some (.iload 3, 1)) (none)))))
 (cond (Nat.blt pc 10)
 (cond (Nat.blt pc 7)
 (cond (Nat.beq pc 6) (some (.iload 1, 1)) (none))
 (cond (Nat.beq pc 7) (some (.if_icmp .ge 37, 3)) (none)))
 (cond (Nat.blt pc 11)
 (cond (Nat.beq pc 10) (some (.aload 0, 1)) (none))
 (cond (Nat.blt pc 14)
 (cond (Nat.beq pc 11) (some (.getfield 818, 3)) (none))
 (cond (Nat.beq pc 14) (some (.iload 3, 1)) (none))))))
 (cond (Nat.blt pc 22)
 (cond (Nat.blt pc 17)
 (cond (Nat.blt pc 16)
 (cond (Nat.beq pc 15) (some (.iaload, 1)) (none))
 (cond (Nat.beq pc 16) (some (.aload 0, 1)) (none)))
 (cond (Nat.blt pc 20)
 (cond (Nat.beq pc 17) (some (.getfield 818, 3)) (none))
 (cond (Nat.blt pc 21)
 (cond (Nat.beq pc 20) (some (.iload 1, 1)) (none))
 (cond (Nat.beq pc 21) (some (.iaload, 1)) (none)))))
 (cond (Nat.blt pc 29)
 (cond (Nat.blt pc 25)
 (cond (Nat.beq pc 22) (some (.if_icmp .ne 29, 3)) (none))
 (cond (Nat.blt pc 26)
 (cond (Nat.beq pc 25) (some (.iload 3, 1)) (none))
 (cond (Nat.beq pc 26) (some (.goto 30, 3)) (none))))
 (cond (Nat.blt pc 30)
 (cond (Nat.beq pc 29) (some (.iload 2, 1)) (none))
 (cond (Nat.blt pc 31)
 (cond (Nat.beq pc 30) (some (.istore 2, 1)) (none))
 (cond (Nat.beq pc 31) (some (.iinc 3 1, 3)) (none)))))))
 (cond (Nat.blt pc 52)
 (cond (Nat.blt pc 43)
 (cond (Nat.blt pc 38)
 (cond (Nat.blt pc 37)
 (cond (Nat.beq pc 34) (some (.goto 5, 3)) (none))
 (cond (Nat.beq pc 37) (some (.aload 0, 1)) (none)))
 (cond (Nat.blt pc 39)
 (cond (Nat.beq pc 38) (some (.aload 0, 1)) (none))
 (cond (Nat.blt pc 42)
 (cond (Nat.beq pc 39) (some (.getfield 818, 3)) (none))
 (cond (Nat.beq pc 42) (some (.iload 1, 1)) (none)))))
 (cond (Nat.blt pc 45)
 (cond (Nat.blt pc 44)
 (cond (Nat.beq pc 43) (some (.iaload, 1)) (none))
 (cond (Nat.beq pc 44) (some (.iload 1, 1)) (none)))
 (cond (Nat.blt pc 48)
 (cond (Nat.beq pc 45) (some (.invokevirtual 156, 3)) (none))
 (cond (Nat.blt pc 51)
 (cond (Nat.beq pc 48) (some (.ifCond .eq 70, 3)) (none))
 (cond (Nat.beq pc 51) (some (.iload 2, 1)) (none))))))
 (cond (Nat.blt pc 60)
 (cond (Nat.blt pc 57)
 (cond (Nat.blt pc 54)
 (cond (Nat.beq pc 52) (some (.iconst (-9), 2)) (none))
 (cond (Nat.beq pc 54) (some (.if_icmp .eq 66, 3)) (none)))
 (cond (Nat.blt pc 58)
 (cond (Nat.beq pc 57) (some (.aload 0, 1)) (none))
 (cond (Nat.blt pc 59)
 (cond (Nat.beq pc 58) (some (.iload 2, 1)) (none))
 (cond (Nat.beq pc 59) (some (.iload 1, 1)) (none)))))
 (cond (Nat.blt pc 67)
 (cond (Nat.blt pc 63)
 (cond (Nat.beq pc 60) (some (.invokevirtual 146, 3)) (none))
 (cond (Nat.blt pc 66)
 (cond (Nat.beq pc 63) (some (.ifCond .eq 70, 3)) (none))
 (cond (Nat.beq pc 66) (some (.iconst 1, 1)) (none))))
 (cond (Nat.blt pc 70)
 (cond (Nat.beq pc 67) (some (.goto 71, 3)) (none))
 (cond (Nat.blt pc 71)
 (cond (Nat.beq pc 70) (some (.iconst 0, 1)) (none))
 (cond (Nat.beq pc 71) (some (.freturn, 1)) (none)))))))
-- AlwaysThereModel.fits()I
noncomputable def qc_159 (pc : Nat) : Option (Instr × Nat) := cond (Nat.blt pc 1)
 (cond (Nat.beq pc 0) (some (.aload 0, 1)) (none))
 (cond (Nat.blt pc 4)
 (cond (Nat.beq pc 1) (some (.invokevirtual 157, 3)) (none))
 (cond (Nat.beq pc 4) (some (.ireturn, 1)) (none)))
-- AlwaysThereModel.sure(I)I
noncomputable def qc_160 (pc : Nat) : Option (Instr × Nat) := cond (Nat.blt pc 27)
 (cond (Nat.blt pc 14)
 (cond (Nat.blt pc 8)
 (cond (Nat.blt pc 2)
 (cond (Nat.blt pc 1)
 (cond (Nat.beq pc 0) (some (.aload 0, 1)) (none))
 (cond (Nat.beq pc 1) (some (.iload 1, 1)) (none)))
 (cond (Nat.blt pc 5)
 (cond (Nat.beq pc 2) (some (.invokevirtual 107, 3)) (none))
 (cond (Nat.beq pc 5) (some (.ifCond .ne 10, 3)) (none))))
 (cond (Nat.blt pc 10)
 (cond (Nat.blt pc 9)
 (cond (Nat.beq pc 8) (some (.iconst (-1), 1)) (none))
 (cond (Nat.beq pc 9) (some (.ireturn, 1)) (none)))
 (cond (Nat.blt pc 11)
 (cond (Nat.beq pc 10) (some (.aload 0, 1)) (none))
 (cond (Nat.beq pc 11) (some (.invokevirtual 157, 3)) (none)))))
 (cond (Nat.blt pc 22)
 (cond (Nat.blt pc 19)
 (cond (Nat.blt pc 17)
 (cond (Nat.beq pc 14) (some (.ifCond .ne 20, 3)) (none))
 (cond (Nat.beq pc 17) (some (.iconst (-9), 2)) (none)))
 (cond (Nat.blt pc 20)
 (cond (Nat.beq pc 19) (some (.ireturn, 1)) (none))
 (cond (Nat.beq pc 20) (some (.iconst (-5), 2)) (none))))
 (cond (Nat.blt pc 24)
 (cond (Nat.blt pc 23)
 (cond (Nat.beq pc 22) (some (.istore 2, 1)) (none))
 (cond (Nat.beq pc 23) (some (.iconst 0, 1)) (none)))
 (cond (Nat.blt pc 25)
 (cond (Nat.beq pc 24) (some (.istore 3, 1)) (none))
 (cond (Nat.blt pc 26)
 (cond (Nat.beq pc 25) (some (.iload 3, 1)) (none))
 (cond (Nat.beq pc 26) (some (.iconst 5, 1)) (none)))))))
 (cond (Nat.blt pc 39)
 (cond (Nat.blt pc 35)
 (cond (Nat.blt pc 31)
 (cond (Nat.blt pc 30)
 (cond (Nat.beq pc 27) (some (.if_icmp .ge 54, 3)) (none))
 (cond (Nat.beq pc 30) (some (.aload 0, 1)) (none)))
 (cond (Nat.blt pc 34)
 (cond (Nat.beq pc 31) (some (.getfield 820, 3)) (none))
 (cond (Nat.beq pc 34) (some (.iload 1, 1)) (none))))
 (cond (Nat.blt pc 37)
 (cond (Nat.blt pc 36)
 (cond (Nat.beq pc 35) (some (.iaload, 1)) (none))
 (cond (Nat.beq pc 36) (some (.iconst 1, 1)) (none)))
 (cond (Nat.blt pc 38)
 (cond (Nat.beq pc 37) (some (.iload 3, 1)) (none))
 (cond (Nat.beq pc 38) (some (.ishl, 1)) (none)))))
 (cond (Nat.blt pc 47)
 (cond (Nat.blt pc 43)
 (cond (Nat.blt pc 42)
 (cond (Nat.beq pc 39) (some (.if_icmp .ne 46, 3)) (none))
 (cond (Nat.beq pc 42) (some (.iload 3, 1)) (none)))
 (cond (Nat.blt pc 46)
 (cond (Nat.beq pc 43) (some (.goto 47, 3)) (none))
 (cond (Nat.beq pc 46) (some (.iload 2, 1)) (none))))
 (cond (Nat.blt pc 51)
 (cond (Nat.blt pc 48)
 (cond (Nat.beq pc 47) (some (.istore 2, 1)) (none))
 (cond (Nat.beq pc 48) (some (.iinc 3 1, 3)) (none)))
 (cond (Nat.blt pc 54)
 (cond (Nat.beq pc 51) (some (.goto 25, 3)) (none))
 (cond (Nat.blt pc 55)
 (cond (Nat.beq pc 54) (some (.iload 2, 1)) (none))
 (cond (Nat.beq pc 55) (some (.ireturn, 1)) (none)))))))
-- AlwaysThereModel.ask(I)I
noncomputable def qc_161 (pc : Nat) : Option (Instr × Nat) := cond (Nat.blt pc 78)
 (cond (Nat.blt pc 38)
 (cond (Nat.blt pc 18)
 (cond (Nat.blt pc 8)
 (cond (Nat.blt pc 3)
 (cond (Nat.blt pc 1)
 (cond (Nat.beq pc 0) (some (.iload 1, 1)) (none))
 (cond (Nat.blt pc 2)
 (cond (Nat.beq pc 1) (some (.iconst 0, 1)) (none))
 (cond (Nat.beq pc 2) (some (.iconst 1, 1)) (none))))
 (cond (Nat.blt pc 4)
 (cond (Nat.beq pc 3) (some (.aload 0, 1)) (none))
 (cond (Nat.blt pc 7)
 (cond (Nat.beq pc 4) (some (.getfield 803, 3)) (none))
 (cond (Nat.beq pc 7) (some (.iconst 1, 1)) (none)))))
 (cond (Nat.blt pc 11)
 (cond (Nat.blt pc 9)
 (cond (Nat.beq pc 8) (some (.iaload, 1)) (none))
 (cond (Nat.blt pc 10)
 (cond (Nat.beq pc 9) (some (.ishl, 1)) (none))
 (cond (Nat.beq pc 10) (some (.iconst 1, 1)) (none))))
 (cond (Nat.blt pc 12)
 (cond (Nat.beq pc 11) (some (.isub, 1)) (none))
 (cond (Nat.blt pc 15)
 (cond (Nat.beq pc 12) (some (.invokestatic 104, 3)) (none))
 (cond (Nat.beq pc 15) (some (.ifCond .ne 20, 3)) (none))))))
 (cond (Nat.blt pc 26)
 (cond (Nat.blt pc 22)
 (cond (Nat.blt pc 19)
 (cond (Nat.beq pc 18) (some (.iconst (-1), 1)) (none))
 (cond (Nat.blt pc 20)
 (cond (Nat.beq pc 19) (some (.ireturn, 1)) (none))
 (cond (Nat.beq pc 20) (some (.iconst (-9), 2)) (none))))
 (cond (Nat.blt pc 23)
 (cond (Nat.beq pc 22) (some (.istore 2, 1)) (none))
 (cond (Nat.blt pc 25)
 (cond (Nat.beq pc 23) (some (.iconst 15, 2)) (none))
 (cond (Nat.beq pc 25) (some (.istore 3, 1)) (none)))))
 (cond (Nat.blt pc 31)
 (cond (Nat.blt pc 27)
 (cond (Nat.beq pc 26) (some (.iload 3, 1)) (none))
 (cond (Nat.blt pc 30)
 (cond (Nat.beq pc 27) (some (.ifCond .lt 172, 3)) (none))
 (cond (Nat.beq pc 30) (some (.iconst 1, 1)) (none))))
 (cond (Nat.blt pc 34)
 (cond (Nat.blt pc 33)
 (cond (Nat.beq pc 31) (some (.istore 4, 2)) (none))
 (cond (Nat.beq pc 33) (some (.iconst 0, 1)) (none)))
 (cond (Nat.blt pc 36)
 (cond (Nat.beq pc 34) (some (.istore 5, 2)) (none))
 (cond (Nat.beq pc 36) (some (.iload 5, 2)) (none)))))))
 (cond (Nat.blt pc 59)
 (cond (Nat.blt pc 49)
 (cond (Nat.blt pc 45)
 (cond (Nat.blt pc 40)
 (cond (Nat.beq pc 38) (some (.iconst 25, 2)) (none))
 (cond (Nat.blt pc 43)
 (cond (Nat.beq pc 40) (some (.if_icmp .ge 138, 3)) (none))
 (cond (Nat.beq pc 43) (some (.iload 5, 2)) (none))))
 (cond (Nat.blt pc 46)
 (cond (Nat.beq pc 45) (some (.iconst 5, 1)) (none))
 (cond (Nat.blt pc 47)
 (cond (Nat.beq pc 46) (some (.idiv, 1)) (none))
 (cond (Nat.beq pc 47) (some (.istore 6, 2)) (none)))))
 (cond (Nat.blt pc 53)
 (cond (Nat.blt pc 51)
 (cond (Nat.beq pc 49) (some (.iload 5, 2)) (none))
 (cond (Nat.blt pc 52)
 (cond (Nat.beq pc 51) (some (.iconst 5, 1)) (none))
 (cond (Nat.beq pc 52) (some (.irem, 1)) (none))))
 (cond (Nat.blt pc 55)
 (cond (Nat.beq pc 53) (some (.istore 7, 2)) (none))
 (cond (Nat.blt pc 57)
 (cond (Nat.beq pc 55) (some (.iload 6, 2)) (none))
 (cond (Nat.beq pc 57) (some (.iload 7, 2)) (none))))))
 (cond (Nat.blt pc 68)
 (cond (Nat.blt pc 65)
 (cond (Nat.blt pc 62)
 (cond (Nat.beq pc 59) (some (.if_icmp .ge 86, 3)) (none))
 (cond (Nat.blt pc 63)
 (cond (Nat.beq pc 62) (some (.iload 1, 1)) (none))
 (cond (Nat.beq pc 63) (some (.iload 6, 2)) (none))))
 (cond (Nat.blt pc 66)
 (cond (Nat.beq pc 65) (some (.ishr, 1)) (none))
 (cond (Nat.blt pc 67)
 (cond (Nat.beq pc 66) (some (.iconst 1, 1)) (none))
 (cond (Nat.beq pc 67) (some (.iand, 1)) (none)))))
 (cond (Nat.blt pc 73)
 (cond (Nat.blt pc 69)
 (cond (Nat.beq pc 68) (some (.iconst 1, 1)) (none))
 (cond (Nat.blt pc 72)
 (cond (Nat.beq pc 69) (some (.if_icmp .ne 86, 3)) (none))
 (cond (Nat.beq pc 72) (some (.iload 1, 1)) (none))))
 (cond (Nat.blt pc 76)
 (cond (Nat.blt pc 75)
 (cond (Nat.beq pc 73) (some (.iload 7, 2)) (none))
 (cond (Nat.beq pc 75) (some (.ishr, 1)) (none)))
 (cond (Nat.blt pc 77)
 (cond (Nat.beq pc 76) (some (.iconst 1, 1)) (none))
 (cond (Nat.beq pc 77) (some (.iand, 1)) (none))))))))
 (cond (Nat.blt pc 122)
 (cond (Nat.blt pc 103)
 (cond (Nat.blt pc 89)
 (cond (Nat.blt pc 83)
 (cond (Nat.blt pc 79)
 (cond (Nat.beq pc 78) (some (.iconst 1, 1)) (none))
 (cond (Nat.blt pc 82)
 (cond (Nat.beq pc 79) (some (.if_icmp .ne 86, 3)) (none))
 (cond (Nat.beq pc 82) (some (.iconst 1, 1)) (none))))
 (cond (Nat.blt pc 86)
 (cond (Nat.beq pc 83) (some (.goto 87, 3)) (none))
 (cond (Nat.blt pc 87)
 (cond (Nat.beq pc 86) (some (.iconst 0, 1)) (none))
 (cond (Nat.beq pc 87) (some (.istore 8, 2)) (none)))))
 (cond (Nat.blt pc 96)
 (cond (Nat.blt pc 91)
 (cond (Nat.beq pc 89) (some (.iload 4, 2)) (none))
 (cond (Nat.blt pc 94)
 (cond (Nat.beq pc 91) (some (.ifCond .eq 129, 3)) (none))
 (cond (Nat.beq pc 94) (some (.iload 8, 2)) (none))))
 (cond (Nat.blt pc 99)
 (cond (Nat.beq pc 96) (some (.ifCond .eq 125, 3)) (none))
 (cond (Nat.blt pc 100)
 (cond (Nat.beq pc 99) (some (.aload 0, 1)) (none))
 (cond (Nat.beq pc 100) (some (.getfield 803, 3)) (none))))))
 (cond (Nat.blt pc 113)
 (cond (Nat.blt pc 108)
 (cond (Nat.blt pc 105)
 (cond (Nat.beq pc 103) (some (.iconst 8, 2)) (none))
 (cond (Nat.blt pc 107)
 (cond (Nat.beq pc 105) (some (.iload 6, 2)) (none))
 (cond (Nat.beq pc 107) (some (.iadd, 1)) (none))))
 (cond (Nat.blt pc 109)
 (cond (Nat.beq pc 108) (some (.iaload, 1)) (none))
 (cond (Nat.blt pc 110)
 (cond (Nat.beq pc 109) (some (.aload 0, 1)) (none))
 (cond (Nat.beq pc 110) (some (.getfield 803, 3)) (none)))))
 (cond (Nat.blt pc 118)
 (cond (Nat.blt pc 115)
 (cond (Nat.beq pc 113) (some (.iconst 8, 2)) (none))
 (cond (Nat.blt pc 117)
 (cond (Nat.beq pc 115) (some (.iload 7, 2)) (none))
 (cond (Nat.beq pc 117) (some (.iadd, 1)) (none))))
 (cond (Nat.blt pc 120)
 (cond (Nat.blt pc 119)
 (cond (Nat.beq pc 118) (some (.iaload, 1)) (none))
 (cond (Nat.beq pc 119) (some (.ixor, 1)) (none)))
 (cond (Nat.blt pc 121)
 (cond (Nat.beq pc 120) (some (.iload 3, 1)) (none))
 (cond (Nat.beq pc 121) (some (.iand, 1)) (none)))))))
 (cond (Nat.blt pc 149)
 (cond (Nat.blt pc 135)
 (cond (Nat.blt pc 129)
 (cond (Nat.blt pc 125)
 (cond (Nat.beq pc 122) (some (.ifCond .eq 129, 3)) (none))
 (cond (Nat.blt pc 126)
 (cond (Nat.beq pc 125) (some (.iconst 1, 1)) (none))
 (cond (Nat.beq pc 126) (some (.goto 130, 3)) (none))))
 (cond (Nat.blt pc 130)
 (cond (Nat.beq pc 129) (some (.iconst 0, 1)) (none))
 (cond (Nat.blt pc 132)
 (cond (Nat.beq pc 130) (some (.istore 4, 2)) (none))
 (cond (Nat.beq pc 132) (some (.iinc 5 1, 3)) (none)))))
 (cond (Nat.blt pc 143)
 (cond (Nat.blt pc 138)
 (cond (Nat.beq pc 135) (some (.goto 36, 3)) (none))
 (cond (Nat.blt pc 140)
 (cond (Nat.beq pc 138) (some (.iload 4, 2)) (none))
 (cond (Nat.beq pc 140) (some (.ifCond .eq 164, 3)) (none))))
 (cond (Nat.blt pc 144)
 (cond (Nat.beq pc 143) (some (.iload 2, 1)) (none))
 (cond (Nat.blt pc 146)
 (cond (Nat.beq pc 144) (some (.iconst (-9), 2)) (none))
 (cond (Nat.beq pc 146) (some (.if_icmp .eq 160, 3)) (none))))))
 (cond (Nat.blt pc 161)
 (cond (Nat.blt pc 154)
 (cond (Nat.blt pc 150)
 (cond (Nat.beq pc 149) (some (.iload 3, 1)) (none))
 (cond (Nat.blt pc 153)
 (cond (Nat.beq pc 150) (some (.invokestatic 142, 3)) (none))
 (cond (Nat.beq pc 153) (some (.iload 2, 1)) (none))))
 (cond (Nat.blt pc 157)
 (cond (Nat.beq pc 154) (some (.invokestatic 142, 3)) (none))
 (cond (Nat.blt pc 160)
 (cond (Nat.beq pc 157) (some (.if_icmp .gt 164, 3)) (none))
 (cond (Nat.beq pc 160) (some (.iload 3, 1)) (none)))))
 (cond (Nat.blt pc 166)
 (cond (Nat.blt pc 164)
 (cond (Nat.beq pc 161) (some (.goto 165, 3)) (none))
 (cond (Nat.blt pc 165)
 (cond (Nat.beq pc 164) (some (.iload 2, 1)) (none))
 (cond (Nat.beq pc 165) (some (.istore 2, 1)) (none))))
 (cond (Nat.blt pc 172)
 (cond (Nat.blt pc 169)
 (cond (Nat.beq pc 166) (some (.iinc 3 (-1), 3)) (none))
 (cond (Nat.beq pc 169) (some (.goto 26, 3)) (none)))
 (cond (Nat.blt pc 173)
 (cond (Nat.beq pc 172) (some (.iload 2, 1)) (none))
 (cond (Nat.beq pc 173) (some (.ireturn, 1)) (none))))))))
-- AlwaysThereModel.bet(II)J
noncomputable def qc_162 (pc : Nat) : Option (Instr × Nat) := cond (Nat.blt pc 60)
 (cond (Nat.blt pc 32)
 (cond (Nat.blt pc 13)
 (cond (Nat.blt pc 7)
 (cond (Nat.blt pc 2)
 (cond (Nat.blt pc 1)
 (cond (Nat.beq pc 0) (some (.iload 1, 1)) (none))
 (cond (Nat.beq pc 1) (some (.iconst 0, 1)) (none)))
 (cond (Nat.blt pc 4)
 (cond (Nat.beq pc 2) (some (.iconst 10, 2)) (none))
 (cond (Nat.beq pc 4) (some (.invokestatic 104, 3)) (none))))
 (cond (Nat.blt pc 11)
 (cond (Nat.blt pc 10)
 (cond (Nat.beq pc 7) (some (.ifCond .eq 19, 3)) (none))
 (cond (Nat.beq pc 10) (some (.iload 2, 1)) (none)))
 (cond (Nat.blt pc 12)
 (cond (Nat.beq pc 11) (some (.iconst 0, 1)) (none))
 (cond (Nat.beq pc 12) (some (.iconst 1, 1)) (none)))))
 (cond (Nat.blt pc 23)
 (cond (Nat.blt pc 19)
 (cond (Nat.blt pc 16)
 (cond (Nat.beq pc 13) (some (.invokestatic 104, 3)) (none))
 (cond (Nat.beq pc 16) (some (.ifCond .ne 23, 3)) (none)))
 (cond (Nat.blt pc 22)
 (cond (Nat.beq pc 19) (some (.bipush (-1), 3)) (none))
 (cond (Nat.beq pc 22) (some (.lreturn, 1)) (none))))
 (cond (Nat.blt pc 27)
 (cond (Nat.blt pc 24)
 (cond (Nat.beq pc 23) (some (.aload 0, 1)) (none))
 (cond (Nat.beq pc 24) (some (.getfield 803, 3)) (none)))
 (cond (Nat.blt pc 28)
 (cond (Nat.beq pc 27) (some (.iconst 2, 1)) (none))
 (cond (Nat.blt pc 29)
 (cond (Nat.beq pc 28) (some (.iaload, 1)) (none))
 (cond (Nat.beq pc 29) (some (.ifCond .ne 36, 3)) (none)))))))
 (cond (Nat.blt pc 46)
 (cond (Nat.blt pc 38)
 (cond (Nat.blt pc 36)
 (cond (Nat.blt pc 33)
 (cond (Nat.beq pc 32) (some (.bipush 0, 1)) (none))
 (cond (Nat.beq pc 33) (some (.goto 37, 3)) (none)))
 (cond (Nat.blt pc 37)
 (cond (Nat.beq pc 36) (some (.bipush 1, 1)) (none))
 (cond (Nat.beq pc 37) (some (.lstore 3, 1)) (none))))
 (cond (Nat.blt pc 41)
 (cond (Nat.blt pc 39)
 (cond (Nat.beq pc 38) (some (.bipush 1, 1)) (none))
 (cond (Nat.beq pc 39) (some (.lstore 5, 2)) (none)))
 (cond (Nat.blt pc 42)
 (cond (Nat.beq pc 41) (some (.iconst 1, 1)) (none))
 (cond (Nat.blt pc 44)
 (cond (Nat.beq pc 42) (some (.fstore 7, 2)) (none))
 (cond (Nat.beq pc 44) (some (.iload 7, 2)) (none))))))
 (cond (Nat.blt pc 52)
 (cond (Nat.blt pc 50)
 (cond (Nat.blt pc 47)
 (cond (Nat.beq pc 46) (some (.aload 0, 1)) (none))
 (cond (Nat.beq pc 47) (some (.getfield 803, 3)) (none)))
 (cond (Nat.blt pc 51)
 (cond (Nat.beq pc 50) (some (.iconst 2, 1)) (none))
 (cond (Nat.beq pc 51) (some (.iaload, 1)) (none))))
 (cond (Nat.blt pc 56)
 (cond (Nat.blt pc 55)
 (cond (Nat.beq pc 52) (some (.if_icmp .ge 77, 3)) (none))
 (cond (Nat.beq pc 55) (some (.lload 3, 1)) (none)))
 (cond (Nat.blt pc 58)
 (cond (Nat.beq pc 56) (some (.iconst 10, 2)) (none))
 (cond (Nat.blt pc 59)
 (cond (Nat.beq pc 58) (some (.iload 1, 1)) (none))
 (cond (Nat.beq pc 59) (some (.isub, 1)) (none))))))))
 (cond (Nat.blt pc 93)
 (cond (Nat.blt pc 77)
 (cond (Nat.blt pc 65)
 (cond (Nat.blt pc 62)
 (cond (Nat.blt pc 61)
 (cond (Nat.beq pc 60) (some (.i2l, 1)) (none))
 (cond (Nat.beq pc 61) (some (.lmul, 1)) (none)))
 (cond (Nat.blt pc 63)
 (cond (Nat.beq pc 62) (some (.lstore 3, 1)) (none))
 (cond (Nat.beq pc 63) (some (.lload 5, 2)) (none))))
 (cond (Nat.blt pc 69)
 (cond (Nat.blt pc 68)
 (cond (Nat.beq pc 65) (some (.bipush 10, 3)) (none))
 (cond (Nat.beq pc 68) (some (.lmul, 1)) (none)))
 (cond (Nat.blt pc 71)
 (cond (Nat.beq pc 69) (some (.lstore 5, 2)) (none))
 (cond (Nat.blt pc 74)
 (cond (Nat.beq pc 71) (some (.iinc 7 1, 3)) (none))
 (cond (Nat.beq pc 74) (some (.goto 44, 3)) (none))))))
 (cond (Nat.blt pc 84)
 (cond (Nat.blt pc 80)
 (cond (Nat.blt pc 78)
 (cond (Nat.beq pc 77) (some (.lload 3, 1)) (none))
 (cond (Nat.beq pc 78) (some (.lstore 7, 2)) (none)))
 (cond (Nat.blt pc 82)
 (cond (Nat.beq pc 80) (some (.lload 5, 2)) (none))
 (cond (Nat.beq pc 82) (some (.lstore 9, 2)) (none))))
 (cond (Nat.blt pc 87)
 (cond (Nat.blt pc 86)
 (cond (Nat.beq pc 84) (some (.lload 9, 2)) (none))
 (cond (Nat.beq pc 86) (some (.bipush 0, 1)) (none)))
 (cond (Nat.blt pc 88)
 (cond (Nat.beq pc 87) (some (.lcmp, 1)) (none))
 (cond (Nat.blt pc 91)
 (cond (Nat.beq pc 88) (some (.ifCond .eq 109, 3)) (none))
 (cond (Nat.beq pc 91) (some (.lload 7, 2)) (none)))))))
 (cond (Nat.blt pc 110)
 (cond (Nat.blt pc 100)
 (cond (Nat.blt pc 96)
 (cond (Nat.blt pc 95)
 (cond (Nat.beq pc 93) (some (.lload 9, 2)) (none))
 (cond (Nat.beq pc 95) (some (.lrem, 1)) (none)))
 (cond (Nat.blt pc 98)
 (cond (Nat.beq pc 96) (some (.lstore 11, 2)) (none))
 (cond (Nat.beq pc 98) (some (.lload 9, 2)) (none))))
 (cond (Nat.blt pc 104)
 (cond (Nat.blt pc 102)
 (cond (Nat.beq pc 100) (some (.lstore 7, 2)) (none))
 (cond (Nat.beq pc 102) (some (.lload 11, 2)) (none)))
 (cond (Nat.blt pc 106)
 (cond (Nat.beq pc 104) (some (.lstore 9, 2)) (none))
 (cond (Nat.blt pc 109)
 (cond (Nat.beq pc 106) (some (.goto 84, 3)) (none))
 (cond (Nat.beq pc 109) (some (.iload 2, 1)) (none))))))
 (cond (Nat.blt pc 117)
 (cond (Nat.blt pc 114)
 (cond (Nat.blt pc 113)
 (cond (Nat.beq pc 110) (some (.ifCond .ne 120, 3)) (none))
 (cond (Nat.beq pc 113) (some (.lload 3, 1)) (none)))
 (cond (Nat.blt pc 116)
 (cond (Nat.beq pc 114) (some (.lload 7, 2)) (none))
 (cond (Nat.beq pc 116) (some (.ldiv, 1)) (none))))
 (cond (Nat.blt pc 122)
 (cond (Nat.blt pc 120)
 (cond (Nat.beq pc 117) (some (.goto 125, 3)) (none))
 (cond (Nat.beq pc 120) (some (.lload 5, 2)) (none)))
 (cond (Nat.blt pc 124)
 (cond (Nat.beq pc 122) (some (.lload 7, 2)) (none))
 (cond (Nat.blt pc 125)
 (cond (Nat.beq pc 124) (some (.ldiv, 1)) (none))
 (cond (Nat.beq pc 125) (some (.lreturn, 1)) (none))))))))
-- AlwaysThereModel.rate(II)I
noncomputable def qc_163 (pc : Nat) : Option (Instr × Nat) := cond (Nat.blt pc 134)
 (cond (Nat.blt pc 68)
 (cond (Nat.blt pc 30)
 (cond (Nat.blt pc 14)
 (cond (Nat.blt pc 6)
 (cond (Nat.blt pc 2)
 (cond (Nat.blt pc 1)
 (cond (Nat.beq pc 0) (some (.iload 1, 1)) (none))
 (cond (Nat.beq pc 1) (some (.iconst 0, 1)) (none)))
 (cond (Nat.blt pc 3)
 (cond (Nat.beq pc 2) (some (.iconst 5, 1)) (none))
 (cond (Nat.beq pc 3) (some (.invokestatic 104, 3)) (none))))
 (cond (Nat.blt pc 10)
 (cond (Nat.blt pc 9)
 (cond (Nat.beq pc 6) (some (.ifCond .eq 17, 3)) (none))
 (cond (Nat.beq pc 9) (some (.aload 0, 1)) (none)))
 (cond (Nat.blt pc 11)
 (cond (Nat.beq pc 10) (some (.iload 2, 1)) (none))
 (cond (Nat.beq pc 11) (some (.invokevirtual 106, 3)) (none)))))
 (cond (Nat.blt pc 21)
 (cond (Nat.blt pc 19)
 (cond (Nat.blt pc 17)
 (cond (Nat.beq pc 14) (some (.ifCond .ne 20, 3)) (none))
 (cond (Nat.beq pc 17) (some (.iconst (-1000000), 2)) (none)))
 (cond (Nat.blt pc 20)
 (cond (Nat.beq pc 19) (some (.ireturn, 1)) (none))
 (cond (Nat.beq pc 20) (some (.aload 0, 1)) (none))))
 (cond (Nat.blt pc 25)
 (cond (Nat.blt pc 22)
 (cond (Nat.beq pc 21) (some (.dup, 1)) (none))
 (cond (Nat.beq pc 22) (some (.getfield 800, 3)) (none)))
 (cond (Nat.blt pc 26)
 (cond (Nat.beq pc 25) (some (.iload 1, 1)) (none))
 (cond (Nat.blt pc 29)
 (cond (Nat.beq pc 26) (some (.ifCond .ne 33, 3)) (none))
 (cond (Nat.beq pc 29) (some (.bipush 1, 1)) (none)))))))
 (cond (Nat.blt pc 49)
 (cond (Nat.blt pc 38)
 (cond (Nat.blt pc 34)
 (cond (Nat.blt pc 33)
 (cond (Nat.beq pc 30) (some (.goto 80, 3)) (none))
 (cond (Nat.beq pc 33) (some (.iload 1, 1)) (none)))
 (cond (Nat.blt pc 35)
 (cond (Nat.beq pc 34) (some (.iconst 1, 1)) (none))
 (cond (Nat.beq pc 35) (some (.if_icmp .ne 44, 3)) (none))))
 (cond (Nat.blt pc 44)
 (cond (Nat.blt pc 41)
 (cond (Nat.beq pc 38) (some (.bipush 11, 3)) (none))
 (cond (Nat.beq pc 41) (some (.goto 80, 3)) (none)))
 (cond (Nat.blt pc 45)
 (cond (Nat.beq pc 44) (some (.iload 1, 1)) (none))
 (cond (Nat.blt pc 46)
 (cond (Nat.beq pc 45) (some (.iconst 2, 1)) (none))
 (cond (Nat.beq pc 46) (some (.if_icmp .ne 55, 3)) (none))))))
 (cond (Nat.blt pc 57)
 (cond (Nat.blt pc 55)
 (cond (Nat.blt pc 52)
 (cond (Nat.beq pc 49) (some (.bipush 101, 3)) (none))
 (cond (Nat.beq pc 52) (some (.goto 80, 3)) (none)))
 (cond (Nat.blt pc 56)
 (cond (Nat.beq pc 55) (some (.iload 1, 1)) (none))
 (cond (Nat.beq pc 56) (some (.iconst 3, 1)) (none))))
 (cond (Nat.blt pc 63)
 (cond (Nat.blt pc 60)
 (cond (Nat.beq pc 57) (some (.if_icmp .ne 66, 3)) (none))
 (cond (Nat.beq pc 60) (some (.bipush 1011, 3)) (none)))
 (cond (Nat.blt pc 66)
 (cond (Nat.beq pc 63) (some (.goto 80, 3)) (none))
 (cond (Nat.blt pc 67)
 (cond (Nat.beq pc 66) (some (.iload 1, 1)) (none))
 (cond (Nat.beq pc 67) (some (.iconst 4, 1)) (none))))))))
 (cond (Nat.blt pc 103)
 (cond (Nat.blt pc 90)
 (cond (Nat.blt pc 80)
 (cond (Nat.blt pc 74)
 (cond (Nat.blt pc 71)
 (cond (Nat.beq pc 68) (some (.if_icmp .ne 77, 3)) (none))
 (cond (Nat.beq pc 71) (some (.bipush 10101, 3)) (none)))
 (cond (Nat.blt pc 77)
 (cond (Nat.beq pc 74) (some (.goto 80, 3)) (none))
 (cond (Nat.beq pc 77) (some (.bipush 100001, 3)) (none))))
 (cond (Nat.blt pc 84)
 (cond (Nat.blt pc 81)
 (cond (Nat.beq pc 80) (some (.ladd, 1)) (none))
 (cond (Nat.beq pc 81) (some (.putfield 800, 3)) (none)))
 (cond (Nat.blt pc 85)
 (cond (Nat.beq pc 84) (some (.aload 0, 1)) (none))
 (cond (Nat.blt pc 88)
 (cond (Nat.beq pc 85) (some (.getfield 803, 3)) (none))
 (cond (Nat.beq pc 88) (some (.iconst 8, 2)) (none))))))
 (cond (Nat.blt pc 96)
 (cond (Nat.blt pc 92)
 (cond (Nat.blt pc 91)
 (cond (Nat.beq pc 90) (some (.iload 2, 1)) (none))
 (cond (Nat.beq pc 91) (some (.iadd, 1)) (none)))
 (cond (Nat.blt pc 93)
 (cond (Nat.beq pc 92) (some (.iaload, 1)) (none))
 (cond (Nat.beq pc 93) (some (.invokestatic 142, 3)) (none))))
 (cond (Nat.blt pc 98)
 (cond (Nat.blt pc 97)
 (cond (Nat.beq pc 96) (some (.istore 3, 1)) (none))
 (cond (Nat.beq pc 97) (some (.iload 3, 1)) (none)))
 (cond (Nat.blt pc 100)
 (cond (Nat.beq pc 98) (some (.istore 4, 2)) (none))
 (cond (Nat.blt pc 101)
 (cond (Nat.beq pc 100) (some (.iconst 0, 1)) (none))
 (cond (Nat.beq pc 101) (some (.istore 5, 2)) (none)))))))
 (cond (Nat.blt pc 120)
 (cond (Nat.blt pc 110)
 (cond (Nat.blt pc 106)
 (cond (Nat.blt pc 105)
 (cond (Nat.beq pc 103) (some (.iload 5, 2)) (none))
 (cond (Nat.beq pc 105) (some (.aload 0, 1)) (none)))
 (cond (Nat.blt pc 109)
 (cond (Nat.beq pc 106) (some (.getfield 805, 3)) (none))
 (cond (Nat.beq pc 109) (some (.iconst 0, 1)) (none))))
 (cond (Nat.blt pc 114)
 (cond (Nat.blt pc 111)
 (cond (Nat.beq pc 110) (some (.iaload, 1)) (none))
 (cond (Nat.beq pc 111) (some (.if_icmp .ge 143, 3)) (none)))
 (cond (Nat.blt pc 116)
 (cond (Nat.beq pc 114) (some (.iload 4, 2)) (none))
 (cond (Nat.blt pc 117)
 (cond (Nat.beq pc 116) (some (.aload 0, 1)) (none))
 (cond (Nat.beq pc 117) (some (.getfield 805, 3)) (none))))))
 (cond (Nat.blt pc 125)
 (cond (Nat.blt pc 123)
 (cond (Nat.blt pc 121)
 (cond (Nat.beq pc 120) (some (.iconst 1, 1)) (none))
 (cond (Nat.beq pc 121) (some (.iload 5, 2)) (none)))
 (cond (Nat.blt pc 124)
 (cond (Nat.beq pc 123) (some (.iadd, 1)) (none))
 (cond (Nat.beq pc 124) (some (.iaload, 1)) (none))))
 (cond (Nat.blt pc 129)
 (cond (Nat.blt pc 126)
 (cond (Nat.beq pc 125) (some (.iload 2, 1)) (none))
 (cond (Nat.beq pc 126) (some (.if_icmp .ne 133, 3)) (none)))
 (cond (Nat.blt pc 130)
 (cond (Nat.beq pc 129) (some (.iconst 1, 1)) (none))
 (cond (Nat.blt pc 133)
 (cond (Nat.beq pc 130) (some (.goto 134, 3)) (none))
 (cond (Nat.beq pc 133) (some (.iconst 0, 1)) (none)))))))))
 (cond (Nat.blt pc 197)
 (cond (Nat.blt pc 165)
 (cond (Nat.blt pc 149)
 (cond (Nat.blt pc 143)
 (cond (Nat.blt pc 137)
 (cond (Nat.blt pc 135)
 (cond (Nat.beq pc 134) (some (.iadd, 1)) (none))
 (cond (Nat.beq pc 135) (some (.istore 4, 2)) (none)))
 (cond (Nat.blt pc 140)
 (cond (Nat.beq pc 137) (some (.iinc 5 1, 3)) (none))
 (cond (Nat.beq pc 140) (some (.goto 103, 3)) (none))))
 (cond (Nat.blt pc 145)
 (cond (Nat.blt pc 144)
 (cond (Nat.beq pc 143) (some (.iload 3, 1)) (none))
 (cond (Nat.beq pc 144) (some (.iconst 1, 1)) (none)))
 (cond (Nat.blt pc 146)
 (cond (Nat.beq pc 145) (some (.iadd, 1)) (none))
 (cond (Nat.blt pc 148)
 (cond (Nat.beq pc 146) (some (.istore 5, 2)) (none))
 (cond (Nat.beq pc 148) (some (.iconst 0, 1)) (none))))))
 (cond (Nat.blt pc 157)
 (cond (Nat.blt pc 153)
 (cond (Nat.blt pc 151)
 (cond (Nat.beq pc 149) (some (.istore 6, 2)) (none))
 (cond (Nat.beq pc 151) (some (.iload 6, 2)) (none)))
 (cond (Nat.blt pc 154)
 (cond (Nat.beq pc 153) (some (.aload 0, 1)) (none))
 (cond (Nat.beq pc 154) (some (.getfield 803, 3)) (none))))
 (cond (Nat.blt pc 159)
 (cond (Nat.blt pc 158)
 (cond (Nat.beq pc 157) (some (.iconst 1, 1)) (none))
 (cond (Nat.beq pc 158) (some (.iaload, 1)) (none)))
 (cond (Nat.blt pc 162)
 (cond (Nat.beq pc 159) (some (.if_icmp .ge 200, 3)) (none))
 (cond (Nat.blt pc 164)
 (cond (Nat.beq pc 162) (some (.iload 5, 2)) (none))
 (cond (Nat.beq pc 164) (some (.aload 0, 1)) (none)))))))
 (cond (Nat.blt pc 181)
 (cond (Nat.blt pc 173)
 (cond (Nat.blt pc 170)
 (cond (Nat.blt pc 168)
 (cond (Nat.beq pc 165) (some (.getfield 803, 3)) (none))
 (cond (Nat.beq pc 168) (some (.iconst 8, 2)) (none)))
 (cond (Nat.blt pc 172)
 (cond (Nat.beq pc 170) (some (.iload 6, 2)) (none))
 (cond (Nat.beq pc 172) (some (.iadd, 1)) (none))))
 (cond (Nat.blt pc 175)
 (cond (Nat.blt pc 174)
 (cond (Nat.beq pc 173) (some (.iaload, 1)) (none))
 (cond (Nat.beq pc 174) (some (.aload 0, 1)) (none)))
 (cond (Nat.blt pc 178)
 (cond (Nat.beq pc 175) (some (.getfield 803, 3)) (none))
 (cond (Nat.blt pc 180)
 (cond (Nat.beq pc 178) (some (.iconst 8, 2)) (none))
 (cond (Nat.beq pc 180) (some (.iload 2, 1)) (none))))))
 (cond (Nat.blt pc 187)
 (cond (Nat.blt pc 183)
 (cond (Nat.blt pc 182)
 (cond (Nat.beq pc 181) (some (.iadd, 1)) (none))
 (cond (Nat.beq pc 182) (some (.iaload, 1)) (none)))
 (cond (Nat.blt pc 186)
 (cond (Nat.beq pc 183) (some (.if_icmp .ne 190, 3)) (none))
 (cond (Nat.beq pc 186) (some (.iconst 1, 1)) (none))))
 (cond (Nat.blt pc 191)
 (cond (Nat.blt pc 190)
 (cond (Nat.beq pc 187) (some (.goto 191, 3)) (none))
 (cond (Nat.beq pc 190) (some (.iconst 0, 1)) (none)))
 (cond (Nat.blt pc 192)
 (cond (Nat.beq pc 191) (some (.isub, 1)) (none))
 (cond (Nat.blt pc 194)
 (cond (Nat.beq pc 192) (some (.istore 5, 2)) (none))
 (cond (Nat.beq pc 194) (some (.iinc 6 1, 3)) (none))))))))
 (cond (Nat.blt pc 233)
 (cond (Nat.blt pc 215)
 (cond (Nat.blt pc 205)
 (cond (Nat.blt pc 201)
 (cond (Nat.blt pc 200)
 (cond (Nat.beq pc 197) (some (.goto 151, 3)) (none))
 (cond (Nat.beq pc 200) (some (.iload 1, 1)) (none)))
 (cond (Nat.blt pc 204)
 (cond (Nat.beq pc 201) (some (.ifCond .ne 208, 3)) (none))
 (cond (Nat.beq pc 204) (some (.iload 3, 1)) (none))))
 (cond (Nat.blt pc 209)
 (cond (Nat.blt pc 208)
 (cond (Nat.beq pc 205) (some (.goto 260, 3)) (none))
 (cond (Nat.beq pc 208) (some (.iload 1, 1)) (none)))
 (cond (Nat.blt pc 210)
 (cond (Nat.beq pc 209) (some (.iconst 1, 1)) (none))
 (cond (Nat.blt pc 213)
 (cond (Nat.beq pc 210) (some (.if_icmp .ne 218, 3)) (none))
 (cond (Nat.beq pc 213) (some (.iload 4, 2)) (none))))))
 (cond (Nat.blt pc 223)
 (cond (Nat.blt pc 219)
 (cond (Nat.blt pc 218)
 (cond (Nat.beq pc 215) (some (.goto 260, 3)) (none))
 (cond (Nat.beq pc 218) (some (.iload 1, 1)) (none)))
 (cond (Nat.blt pc 220)
 (cond (Nat.beq pc 219) (some (.iconst 2, 1)) (none))
 (cond (Nat.beq pc 220) (some (.if_icmp .ne 228, 3)) (none))))
 (cond (Nat.blt pc 228)
 (cond (Nat.blt pc 225)
 (cond (Nat.beq pc 223) (some (.iload 5, 2)) (none))
 (cond (Nat.beq pc 225) (some (.goto 260, 3)) (none)))
 (cond (Nat.blt pc 229)
 (cond (Nat.beq pc 228) (some (.iload 1, 1)) (none))
 (cond (Nat.blt pc 230)
 (cond (Nat.beq pc 229) (some (.iconst 3, 1)) (none))
 (cond (Nat.beq pc 230) (some (.if_icmp .ne 240, 3)) (none)))))))
 (cond (Nat.blt pc 248)
 (cond (Nat.blt pc 240)
 (cond (Nat.blt pc 236)
 (cond (Nat.blt pc 234)
 (cond (Nat.beq pc 233) (some (.iconst 2, 1)) (none))
 (cond (Nat.beq pc 234) (some (.iload 4, 2)) (none)))
 (cond (Nat.blt pc 237)
 (cond (Nat.beq pc 236) (some (.imul, 1)) (none))
 (cond (Nat.beq pc 237) (some (.goto 260, 3)) (none))))
 (cond (Nat.blt pc 242)
 (cond (Nat.blt pc 241)
 (cond (Nat.beq pc 240) (some (.iload 1, 1)) (none))
 (cond (Nat.beq pc 241) (some (.iconst 4, 1)) (none)))
 (cond (Nat.blt pc 245)
 (cond (Nat.beq pc 242) (some (.if_icmp .ne 252, 3)) (none))
 (cond (Nat.blt pc 247)
 (cond (Nat.beq pc 245) (some (.iload 5, 2)) (none))
 (cond (Nat.beq pc 247) (some (.iload 2, 1)) (none))))))
 (cond (Nat.blt pc 254)
 (cond (Nat.blt pc 252)
 (cond (Nat.blt pc 249)
 (cond (Nat.beq pc 248) (some (.iadd, 1)) (none))
 (cond (Nat.beq pc 249) (some (.goto 260, 3)) (none)))
 (cond (Nat.blt pc 253)
 (cond (Nat.beq pc 252) (some (.iload 3, 1)) (none))
 (cond (Nat.beq pc 253) (some (.aload 0, 1)) (none))))
 (cond (Nat.blt pc 258)
 (cond (Nat.blt pc 257)
 (cond (Nat.beq pc 254) (some (.getfield 803, 3)) (none))
 (cond (Nat.beq pc 257) (some (.iconst 2, 1)) (none)))
 (cond (Nat.blt pc 259)
 (cond (Nat.beq pc 258) (some (.iaload, 1)) (none))
 (cond (Nat.blt pc 260)
 (cond (Nat.beq pc 259) (some (.iadd, 1)) (none))
 (cond (Nat.beq pc 260) (some (.ireturn, 1)) (none)))))))))
-- AlwaysThereModel.keep(I)I
noncomputable def qc_164 (pc : Nat) : Option (Instr × Nat) := cond (Nat.blt pc 28)
 (cond (Nat.blt pc 13)
 (cond (Nat.blt pc 6)
 (cond (Nat.blt pc 2)
 (cond (Nat.blt pc 1)
 (cond (Nat.beq pc 0) (some (.iload 1, 1)) (none))
 (cond (Nat.beq pc 1) (some (.iconst 0, 1)) (none)))
 (cond (Nat.blt pc 3)
 (cond (Nat.beq pc 2) (some (.iconst 1, 1)) (none))
 (cond (Nat.beq pc 3) (some (.invokestatic 104, 3)) (none))))
 (cond (Nat.blt pc 10)
 (cond (Nat.blt pc 9)
 (cond (Nat.beq pc 6) (some (.ifCond .ne 11, 3)) (none))
 (cond (Nat.beq pc 9) (some (.iconst (-1), 1)) (none)))
 (cond (Nat.blt pc 11)
 (cond (Nat.beq pc 10) (some (.ireturn, 1)) (none))
 (cond (Nat.blt pc 12)
 (cond (Nat.beq pc 11) (some (.iconst 0, 1)) (none))
 (cond (Nat.beq pc 12) (some (.istore 2, 1)) (none))))))
 (cond (Nat.blt pc 20)
 (cond (Nat.blt pc 16)
 (cond (Nat.blt pc 14)
 (cond (Nat.beq pc 13) (some (.iload 2, 1)) (none))
 (cond (Nat.beq pc 14) (some (.iconst 65, 2)) (none)))
 (cond (Nat.blt pc 19)
 (cond (Nat.beq pc 16) (some (.if_icmp .ge 42, 3)) (none))
 (cond (Nat.beq pc 19) (some (.aload 0, 1)) (none))))
 (cond (Nat.blt pc 25)
 (cond (Nat.blt pc 23)
 (cond (Nat.beq pc 20) (some (.getfield 808, 3)) (none))
 (cond (Nat.beq pc 23) (some (.iconst 65, 2)) (none)))
 (cond (Nat.blt pc 26)
 (cond (Nat.beq pc 25) (some (.iload 1, 1)) (none))
 (cond (Nat.blt pc 27)
 (cond (Nat.beq pc 26) (some (.imul, 1)) (none))
 (cond (Nat.beq pc 27) (some (.iload 2, 1)) (none)))))))
 (cond (Nat.blt pc 43)
 (cond (Nat.blt pc 34)
 (cond (Nat.blt pc 30)
 (cond (Nat.blt pc 29)
 (cond (Nat.beq pc 28) (some (.iadd, 1)) (none))
 (cond (Nat.beq pc 29) (some (.aload 0, 1)) (none)))
 (cond (Nat.blt pc 33)
 (cond (Nat.beq pc 30) (some (.getfield 805, 3)) (none))
 (cond (Nat.beq pc 33) (some (.iload 2, 1)) (none))))
 (cond (Nat.blt pc 36)
 (cond (Nat.blt pc 35)
 (cond (Nat.beq pc 34) (some (.iaload, 1)) (none))
 (cond (Nat.beq pc 35) (some (.iastore, 1)) (none)))
 (cond (Nat.blt pc 39)
 (cond (Nat.beq pc 36) (some (.iinc 2 1, 3)) (none))
 (cond (Nat.blt pc 42)
 (cond (Nat.beq pc 39) (some (.goto 13, 3)) (none))
 (cond (Nat.beq pc 42) (some (.aload 0, 1)) (none))))))
 (cond (Nat.blt pc 49)
 (cond (Nat.blt pc 47)
 (cond (Nat.blt pc 46)
 (cond (Nat.beq pc 43) (some (.getfield 809, 3)) (none))
 (cond (Nat.beq pc 46) (some (.iload 1, 1)) (none)))
 (cond (Nat.blt pc 48)
 (cond (Nat.beq pc 47) (some (.iconst 1, 1)) (none))
 (cond (Nat.beq pc 48) (some (.bastore, 1)) (none))))
 (cond (Nat.blt pc 53)
 (cond (Nat.blt pc 50)
 (cond (Nat.beq pc 49) (some (.aload 0, 1)) (none))
 (cond (Nat.beq pc 50) (some (.getfield 805, 3)) (none)))
 (cond (Nat.blt pc 54)
 (cond (Nat.beq pc 53) (some (.iconst 0, 1)) (none))
 (cond (Nat.blt pc 55)
 (cond (Nat.beq pc 54) (some (.iaload, 1)) (none))
 (cond (Nat.beq pc 55) (some (.ireturn, 1)) (none)))))))
-- AlwaysThereModel.back(I)I
noncomputable def qc_165 (pc : Nat) : Option (Instr × Nat) := cond (Nat.blt pc 32)
 (cond (Nat.blt pc 16)
 (cond (Nat.blt pc 9)
 (cond (Nat.blt pc 2)
 (cond (Nat.blt pc 1)
 (cond (Nat.beq pc 0) (some (.iload 1, 1)) (none))
 (cond (Nat.beq pc 1) (some (.iconst 0, 1)) (none)))
 (cond (Nat.blt pc 3)
 (cond (Nat.beq pc 2) (some (.iconst 1, 1)) (none))
 (cond (Nat.blt pc 6)
 (cond (Nat.beq pc 3) (some (.invokestatic 104, 3)) (none))
 (cond (Nat.beq pc 6) (some (.ifCond .ne 11, 3)) (none)))))
 (cond (Nat.blt pc 11)
 (cond (Nat.blt pc 10)
 (cond (Nat.beq pc 9) (some (.iconst (-1), 1)) (none))
 (cond (Nat.beq pc 10) (some (.ireturn, 1)) (none)))
 (cond (Nat.blt pc 12)
 (cond (Nat.beq pc 11) (some (.aload 0, 1)) (none))
 (cond (Nat.blt pc 15)
 (cond (Nat.beq pc 12) (some (.getfield 809, 3)) (none))
 (cond (Nat.beq pc 15) (some (.iload 1, 1)) (none))))))
 (cond (Nat.blt pc 24)
 (cond (Nat.blt pc 20)
 (cond (Nat.blt pc 17)
 (cond (Nat.beq pc 16) (some (.baload, 1)) (none))
 (cond (Nat.beq pc 17) (some (.ifCond .ne 23, 3)) (none)))
 (cond (Nat.blt pc 22)
 (cond (Nat.beq pc 20) (some (.iconst (-2), 2)) (none))
 (cond (Nat.blt pc 23)
 (cond (Nat.beq pc 22) (some (.ireturn, 1)) (none))
 (cond (Nat.beq pc 23) (some (.iconst 0, 1)) (none)))))
 (cond (Nat.blt pc 26)
 (cond (Nat.blt pc 25)
 (cond (Nat.beq pc 24) (some (.istore 2, 1)) (none))
 (cond (Nat.beq pc 25) (some (.iload 2, 1)) (none)))
 (cond (Nat.blt pc 28)
 (cond (Nat.beq pc 26) (some (.iconst 65, 2)) (none))
 (cond (Nat.blt pc 31)
 (cond (Nat.beq pc 28) (some (.if_icmp .ge 54, 3)) (none))
 (cond (Nat.beq pc 31) (some (.aload 0, 1)) (none)))))))
 (cond (Nat.blt pc 47)
 (cond (Nat.blt pc 42)
 (cond (Nat.blt pc 36)
 (cond (Nat.blt pc 35)
 (cond (Nat.beq pc 32) (some (.getfield 805, 3)) (none))
 (cond (Nat.beq pc 35) (some (.iload 2, 1)) (none)))
 (cond (Nat.blt pc 37)
 (cond (Nat.beq pc 36) (some (.aload 0, 1)) (none))
 (cond (Nat.blt pc 40)
 (cond (Nat.beq pc 37) (some (.getfield 808, 3)) (none))
 (cond (Nat.beq pc 40) (some (.iconst 65, 2)) (none)))))
 (cond (Nat.blt pc 44)
 (cond (Nat.blt pc 43)
 (cond (Nat.beq pc 42) (some (.iload 1, 1)) (none))
 (cond (Nat.beq pc 43) (some (.imul, 1)) (none)))
 (cond (Nat.blt pc 45)
 (cond (Nat.beq pc 44) (some (.iload 2, 1)) (none))
 (cond (Nat.blt pc 46)
 (cond (Nat.beq pc 45) (some (.iadd, 1)) (none))
 (cond (Nat.beq pc 46) (some (.iaload, 1)) (none))))))
 (cond (Nat.blt pc 56)
 (cond (Nat.blt pc 51)
 (cond (Nat.blt pc 48)
 (cond (Nat.beq pc 47) (some (.iastore, 1)) (none))
 (cond (Nat.beq pc 48) (some (.iinc 2 1, 3)) (none)))
 (cond (Nat.blt pc 54)
 (cond (Nat.beq pc 51) (some (.goto 25, 3)) (none))
 (cond (Nat.blt pc 55)
 (cond (Nat.beq pc 54) (some (.aload 0, 1)) (none))
 (cond (Nat.beq pc 55) (some (.iconst 0, 1)) (none)))))
 (cond (Nat.blt pc 63)
 (cond (Nat.blt pc 59)
 (cond (Nat.beq pc 56) (some (.putfield 807, 3)) (none))
 (cond (Nat.blt pc 60)
 (cond (Nat.beq pc 59) (some (.aload 0, 1)) (none))
 (cond (Nat.beq pc 60) (some (.getfield 805, 3)) (none))))
 (cond (Nat.blt pc 64)
 (cond (Nat.beq pc 63) (some (.iconst 0, 1)) (none))
 (cond (Nat.blt pc 65)
 (cond (Nat.beq pc 64) (some (.iaload, 1)) (none))
 (cond (Nat.beq pc 65) (some (.ireturn, 1)) (none)))))))
-- AlwaysThereModel.count(I)I
noncomputable def qc_166 (pc : Nat) : Option (Instr × Nat) := cond (Nat.blt pc 31)
 (cond (Nat.blt pc 14)
 (cond (Nat.blt pc 7)
 (cond (Nat.blt pc 2)
 (cond (Nat.blt pc 1)
 (cond (Nat.beq pc 0) (some (.iload 1, 1)) (none))
 (cond (Nat.beq pc 1) (some (.iconst 0, 1)) (none)))
 (cond (Nat.blt pc 4)
 (cond (Nat.beq pc 2) (some (.iconst 7, 2)) (none))
 (cond (Nat.beq pc 4) (some (.invokestatic 104, 3)) (none))))
 (cond (Nat.blt pc 11)
 (cond (Nat.blt pc 10)
 (cond (Nat.beq pc 7) (some (.ifCond .ne 12, 3)) (none))
 (cond (Nat.beq pc 10) (some (.iconst (-1), 1)) (none)))
 (cond (Nat.blt pc 12)
 (cond (Nat.beq pc 11) (some (.ireturn, 1)) (none))
 (cond (Nat.blt pc 13)
 (cond (Nat.beq pc 12) (some (.iload 1, 1)) (none))
 (cond (Nat.beq pc 13) (some (.iconst 3, 1)) (none))))))
 (cond (Nat.blt pc 22)
 (cond (Nat.blt pc 18)
 (cond (Nat.blt pc 17)
 (cond (Nat.beq pc 14) (some (.if_icmp .ge 26, 3)) (none))
 (cond (Nat.beq pc 17) (some (.aload 0, 1)) (none)))
 (cond (Nat.blt pc 21)
 (cond (Nat.beq pc 18) (some (.getfield 803, 3)) (none))
 (cond (Nat.beq pc 21) (some (.iload 1, 1)) (none))))
 (cond (Nat.blt pc 26)
 (cond (Nat.blt pc 23)
 (cond (Nat.beq pc 22) (some (.iaload, 1)) (none))
 (cond (Nat.beq pc 23) (some (.goto 60, 3)) (none)))
 (cond (Nat.blt pc 27)
 (cond (Nat.beq pc 26) (some (.iload 1, 1)) (none))
 (cond (Nat.blt pc 28)
 (cond (Nat.beq pc 27) (some (.iconst 3, 1)) (none))
 (cond (Nat.beq pc 28) (some (.if_icmp .ne 40, 3)) (none)))))))
 (cond (Nat.blt pc 46)
 (cond (Nat.blt pc 37)
 (cond (Nat.blt pc 35)
 (cond (Nat.blt pc 32)
 (cond (Nat.beq pc 31) (some (.aload 0, 1)) (none))
 (cond (Nat.beq pc 32) (some (.getfield 805, 3)) (none)))
 (cond (Nat.blt pc 36)
 (cond (Nat.beq pc 35) (some (.iconst 0, 1)) (none))
 (cond (Nat.beq pc 36) (some (.iaload, 1)) (none))))
 (cond (Nat.blt pc 41)
 (cond (Nat.blt pc 40)
 (cond (Nat.beq pc 37) (some (.goto 60, 3)) (none))
 (cond (Nat.beq pc 40) (some (.iload 1, 1)) (none)))
 (cond (Nat.blt pc 42)
 (cond (Nat.beq pc 41) (some (.iconst 4, 1)) (none))
 (cond (Nat.blt pc 45)
 (cond (Nat.beq pc 42) (some (.if_icmp .ne 52, 3)) (none))
 (cond (Nat.beq pc 45) (some (.aload 0, 1)) (none))))))
 (cond (Nat.blt pc 56)
 (cond (Nat.blt pc 52)
 (cond (Nat.blt pc 49)
 (cond (Nat.beq pc 46) (some (.getfield 802, 3)) (none))
 (cond (Nat.beq pc 49) (some (.goto 60, 3)) (none)))
 (cond (Nat.blt pc 53)
 (cond (Nat.beq pc 52) (some (.aload 0, 1)) (none))
 (cond (Nat.beq pc 53) (some (.getfield 803, 3)) (none))))
 (cond (Nat.blt pc 58)
 (cond (Nat.blt pc 57)
 (cond (Nat.beq pc 56) (some (.iload 1, 1)) (none))
 (cond (Nat.beq pc 57) (some (.iconst 2, 1)) (none)))
 (cond (Nat.blt pc 59)
 (cond (Nat.beq pc 58) (some (.isub, 1)) (none))
 (cond (Nat.blt pc 60)
 (cond (Nat.beq pc 59) (some (.iaload, 1)) (none))
 (cond (Nat.beq pc 60) (some (.ireturn, 1)) (none)))))))
-- AlwaysThereModel.trace()J
noncomputable def qc_167 (pc : Nat) : Option (Instr × Nat) := cond (Nat.blt pc 1)
 (cond (Nat.beq pc 0) (some (.aload 0, 1)) (none))
 (cond (Nat.blt pc 4)
 (cond (Nat.beq pc 1) (some (.getfield 800, 3)) (none))
 (cond (Nat.beq pc 4) (some (.lreturn, 1)) (none)))
-- java/lang/Integer.bitCount(I)I
noncomputable def qc_168 (pc : Nat) : Option (Instr × Nat) := cond (Nat.blt pc 27)
 (cond (Nat.blt pc 14)
 (cond (Nat.blt pc 7)
 (cond (Nat.blt pc 2)
 (cond (Nat.blt pc 1)
 (cond (Nat.beq pc 0) (some (.iload 0, 1)) (none))
 (cond (Nat.beq pc 1) (some (.iload 0, 1)) (none)))
 (cond (Nat.blt pc 3)
 (cond (Nat.beq pc 2) (some (.iconst 1, 1)) (none))
 (cond (Nat.blt pc 4)
 (cond (Nat.beq pc 3) (some (.iushr, 1)) (none))
 (cond (Nat.beq pc 4) (some (.iconst 1431655765, 3)) (none)))))
 (cond (Nat.blt pc 9)
 (cond (Nat.blt pc 8)
 (cond (Nat.beq pc 7) (some (.iand, 1)) (none))
 (cond (Nat.beq pc 8) (some (.isub, 1)) (none)))
 (cond (Nat.blt pc 10)
 (cond (Nat.beq pc 9) (some (.istore 0, 1)) (none))
 (cond (Nat.blt pc 11)
 (cond (Nat.beq pc 10) (some (.iload 0, 1)) (none))
 (cond (Nat.beq pc 11) (some (.iconst 858993459, 3)) (none))))))
 (cond (Nat.blt pc 21)
 (cond (Nat.blt pc 16)
 (cond (Nat.blt pc 15)
 (cond (Nat.beq pc 14) (some (.iand, 1)) (none))
 (cond (Nat.beq pc 15) (some (.iload 0, 1)) (none)))
 (cond (Nat.blt pc 17)
 (cond (Nat.beq pc 16) (some (.iconst 2, 1)) (none))
 (cond (Nat.blt pc 18)
 (cond (Nat.beq pc 17) (some (.iushr, 1)) (none))
 (cond (Nat.beq pc 18) (some (.iconst 858993459, 3)) (none)))))
 (cond (Nat.blt pc 24)
 (cond (Nat.blt pc 22)
 (cond (Nat.beq pc 21) (some (.iand, 1)) (none))
 (cond (Nat.blt pc 23)
 (cond (Nat.beq pc 22) (some (.iadd, 1)) (none))
 (cond (Nat.beq pc 23) (some (.istore 0, 1)) (none))))
 (cond (Nat.blt pc 25)
 (cond (Nat.beq pc 24) (some (.iload 0, 1)) (none))
 (cond (Nat.blt pc 26)
 (cond (Nat.beq pc 25) (some (.iload 0, 1)) (none))
 (cond (Nat.beq pc 26) (some (.iconst 4, 1)) (none)))))))
 (cond (Nat.blt pc 40)
 (cond (Nat.blt pc 34)
 (cond (Nat.blt pc 29)
 (cond (Nat.blt pc 28)
 (cond (Nat.beq pc 27) (some (.iushr, 1)) (none))
 (cond (Nat.beq pc 28) (some (.iadd, 1)) (none)))
 (cond (Nat.blt pc 32)
 (cond (Nat.beq pc 29) (some (.iconst 252645135, 3)) (none))
 (cond (Nat.blt pc 33)
 (cond (Nat.beq pc 32) (some (.iand, 1)) (none))
 (cond (Nat.beq pc 33) (some (.istore 0, 1)) (none)))))
 (cond (Nat.blt pc 36)
 (cond (Nat.blt pc 35)
 (cond (Nat.beq pc 34) (some (.iload 0, 1)) (none))
 (cond (Nat.beq pc 35) (some (.iload 0, 1)) (none)))
 (cond (Nat.blt pc 38)
 (cond (Nat.beq pc 36) (some (.iconst 8, 2)) (none))
 (cond (Nat.blt pc 39)
 (cond (Nat.beq pc 38) (some (.iushr, 1)) (none))
 (cond (Nat.beq pc 39) (some (.iadd, 1)) (none))))))
 (cond (Nat.blt pc 46)
 (cond (Nat.blt pc 42)
 (cond (Nat.blt pc 41)
 (cond (Nat.beq pc 40) (some (.istore 0, 1)) (none))
 (cond (Nat.beq pc 41) (some (.iload 0, 1)) (none)))
 (cond (Nat.blt pc 43)
 (cond (Nat.beq pc 42) (some (.iload 0, 1)) (none))
 (cond (Nat.blt pc 45)
 (cond (Nat.beq pc 43) (some (.iconst 16, 2)) (none))
 (cond (Nat.beq pc 45) (some (.iushr, 1)) (none)))))
 (cond (Nat.blt pc 49)
 (cond (Nat.blt pc 47)
 (cond (Nat.beq pc 46) (some (.iadd, 1)) (none))
 (cond (Nat.blt pc 48)
 (cond (Nat.beq pc 47) (some (.istore 0, 1)) (none))
 (cond (Nat.beq pc 48) (some (.iload 0, 1)) (none))))
 (cond (Nat.blt pc 51)
 (cond (Nat.beq pc 49) (some (.iconst 63, 2)) (none))
 (cond (Nat.blt pc 52)
 (cond (Nat.beq pc 51) (some (.iand, 1)) (none))
 (cond (Nat.beq pc 52) (some (.ireturn, 1)) (none)))))))
-- java/util/Arrays.fill([II)V
noncomputable def qc_169 (pc : Nat) : Option (Instr × Nat) := cond (Nat.blt pc 7)
 (cond (Nat.blt pc 3)
 (cond (Nat.blt pc 1)
 (cond (Nat.beq pc 0) (some (.iconst 0, 1)) (none))
 (cond (Nat.blt pc 2)
 (cond (Nat.beq pc 1) (some (.istore 2, 1)) (none))
 (cond (Nat.beq pc 2) (some (.aload 0, 1)) (none))))
 (cond (Nat.blt pc 5)
 (cond (Nat.blt pc 4)
 (cond (Nat.beq pc 3) (some (.arraylength, 1)) (none))
 (cond (Nat.beq pc 4) (some (.istore 3, 1)) (none)))
 (cond (Nat.blt pc 6)
 (cond (Nat.beq pc 5) (some (.iload 2, 1)) (none))
 (cond (Nat.beq pc 6) (some (.iload 3, 1)) (none)))))
 (cond (Nat.blt pc 13)
 (cond (Nat.blt pc 11)
 (cond (Nat.blt pc 10)
 (cond (Nat.beq pc 7) (some (.if_icmp .ge 20, 3)) (none))
 (cond (Nat.beq pc 10) (some (.aload 0, 1)) (none)))
 (cond (Nat.blt pc 12)
 (cond (Nat.beq pc 11) (some (.iload 2, 1)) (none))
 (cond (Nat.beq pc 12) (some (.iload 1, 1)) (none))))
 (cond (Nat.blt pc 17)
 (cond (Nat.blt pc 14)
 (cond (Nat.beq pc 13) (some (.iastore, 1)) (none))
 (cond (Nat.beq pc 14) (some (.iinc 2 1, 3)) (none)))
 (cond (Nat.blt pc 20)
 (cond (Nat.beq pc 17) (some (.goto 5, 3)) (none))
 (cond (Nat.beq pc 20) (some (.return_, 1)) (none)))))
-- AlwaysThereLaw.law([I)Z
noncomputable def qc_170 (pc : Nat) : Option (Instr × Nat) := cond (Nat.blt pc 477)
 (cond (Nat.blt pc 308)
 (cond (Nat.blt pc 222)
 (cond (Nat.blt pc 170)
 (cond (Nat.blt pc 27)
 (cond (Nat.blt pc 16)
 (cond (Nat.blt pc 8)
 (cond (Nat.blt pc 4)
 (cond (Nat.blt pc 3)
 (cond (Nat.beq pc 0) (some (.new 7, 3)) (none))
 (cond (Nat.beq pc 3) (some (.dup, 1)) (none)))
 (cond (Nat.blt pc 7)
 (cond (Nat.beq pc 4) (some (.invokespecial 66, 3)) (none))
 (cond (Nat.beq pc 7) (some (.astore 1, 1)) (none))))
 (cond (Nat.blt pc 12)
 (cond (Nat.blt pc 11)
 (cond (Nat.beq pc 8) (some (.new 8, 3)) (none))
 (cond (Nat.beq pc 11) (some (.dup, 1)) (none)))
 (cond (Nat.blt pc 15)
 (cond (Nat.beq pc 12) (some (.invokespecial 103, 3)) (none))
 (cond (Nat.beq pc 15) (some (.astore 2, 1)) (none)))))
 (cond (Nat.blt pc 20)
 (cond (Nat.blt pc 18)
 (cond (Nat.blt pc 17)
 (cond (Nat.beq pc 16) (some (.iconst 0, 1)) (none))
 (cond (Nat.beq pc 17) (some (.istore 3, 1)) (none)))
 (cond (Nat.blt pc 19)
 (cond (Nat.beq pc 18) (some (.iload 3, 1)) (none))
 (cond (Nat.beq pc 19) (some (.aload 0, 1)) (none))))
 (cond (Nat.blt pc 22)
 (cond (Nat.blt pc 21)
 (cond (Nat.beq pc 20) (some (.arraylength, 1)) (none))
 (cond (Nat.beq pc 21) (some (.iconst 5, 1)) (none)))
 (cond (Nat.blt pc 23)
 (cond (Nat.beq pc 22) (some (.isub, 1)) (none))
 (cond (Nat.blt pc 26)
 (cond (Nat.beq pc 23) (some (.if_icmp .gt 845, 3)) (none))
 (cond (Nat.beq pc 26) (some (.aload 0, 1)) (none)))))))
 (cond (Nat.blt pc 159)
 (cond (Nat.blt pc 32)
 (cond (Nat.blt pc 29)
 (cond (Nat.blt pc 28)
 (cond (Nat.beq pc 27) (some (.iload 3, 1)) (none))
 (cond (Nat.beq pc 28) (some (.iaload, 1)) (none)))
 (cond (Nat.blt pc 31)
 (cond (Nat.beq pc 29) (some (.iconst 31, 2)) (none))
 (cond (Nat.beq pc 31) (some (.iand, 1)) (none))))
 (cond (Nat.blt pc 157)
 (cond (Nat.blt pc 156)
 (cond (Nat.beq pc 32) (some (.tableswitch 839 0 26 #[156, 179, 192, 205, 238, 271, 294, 317, 350, 403, 436, 449, 482, 505, 518, 541, 584, 617, 630, 643, 666, 689, 723, 756, 779, 802, 825], 124)) (none))
 (cond (Nat.beq pc 156) (some (.aload 1, 1)) (none)))
 (cond (Nat.blt pc 158)
 (cond (Nat.beq pc 157) (some (.aload 0, 1)) (none))
 (cond (Nat.beq pc 158) (some (.iload 3, 1)) (none)))))
 (cond (Nat.blt pc 165)
 (cond (Nat.blt pc 161)
 (cond (Nat.blt pc 160)
 (cond (Nat.beq pc 159) (some (.iconst 1, 1)) (none))
 (cond (Nat.beq pc 160) (some (.iadd, 1)) (none)))
 (cond (Nat.blt pc 162)
 (cond (Nat.beq pc 161) (some (.iaload, 1)) (none))
 (cond (Nat.beq pc 162) (some (.invokevirtual 67, 3)) (none))))
 (cond (Nat.blt pc 167)
 (cond (Nat.blt pc 166)
 (cond (Nat.beq pc 165) (some (.aload 2, 1)) (none))
 (cond (Nat.beq pc 166) (some (.aload 0, 1)) (none)))
 (cond (Nat.blt pc 168)
 (cond (Nat.beq pc 167) (some (.iload 3, 1)) (none))
 (cond (Nat.blt pc 169)
 (cond (Nat.beq pc 168) (some (.iconst 1, 1)) (none))
 (cond (Nat.beq pc 169) (some (.iadd, 1)) (none))))))))
 (cond (Nat.blt pc 203)
 (cond (Nat.blt pc 184)
 (cond (Nat.blt pc 178)
 (cond (Nat.blt pc 174)
 (cond (Nat.blt pc 171)
 (cond (Nat.beq pc 170) (some (.iaload, 1)) (none))
 (cond (Nat.beq pc 171) (some (.invokevirtual 108, 3)) (none)))
 (cond (Nat.blt pc 177)
 (cond (Nat.beq pc 174) (some (.if_icmp .eq 839, 3)) (none))
 (cond (Nat.beq pc 177) (some (.iconst 0, 1)) (none))))
 (cond (Nat.blt pc 180)
 (cond (Nat.blt pc 179)
 (cond (Nat.beq pc 178) (some (.freturn, 1)) (none))
 (cond (Nat.beq pc 179) (some (.aload 1, 1)) (none)))
 (cond (Nat.blt pc 183)
 (cond (Nat.beq pc 180) (some (.invokevirtual 68, 3)) (none))
 (cond (Nat.beq pc 183) (some (.aload 2, 1)) (none)))))
 (cond (Nat.blt pc 192)
 (cond (Nat.blt pc 190)
 (cond (Nat.blt pc 187)
 (cond (Nat.beq pc 184) (some (.invokevirtual 109, 3)) (none))
 (cond (Nat.beq pc 187) (some (.if_icmp .eq 839, 3)) (none)))
 (cond (Nat.blt pc 191)
 (cond (Nat.beq pc 190) (some (.iconst 0, 1)) (none))
 (cond (Nat.beq pc 191) (some (.freturn, 1)) (none))))
 (cond (Nat.blt pc 196)
 (cond (Nat.blt pc 193)
 (cond (Nat.beq pc 192) (some (.aload 1, 1)) (none))
 (cond (Nat.beq pc 193) (some (.invokevirtual 69, 3)) (none)))
 (cond (Nat.blt pc 197)
 (cond (Nat.beq pc 196) (some (.aload 2, 1)) (none))
 (cond (Nat.blt pc 200)
 (cond (Nat.beq pc 197) (some (.invokevirtual 125, 3)) (none))
 (cond (Nat.beq pc 200) (some (.if_icmp .eq 839, 3)) (none)))))))
 (cond (Nat.blt pc 211)
 (cond (Nat.blt pc 207)
 (cond (Nat.blt pc 205)
 (cond (Nat.blt pc 204)
 (cond (Nat.beq pc 203) (some (.iconst 0, 1)) (none))
 (cond (Nat.beq pc 204) (some (.freturn, 1)) (none)))
 (cond (Nat.blt pc 206)
 (cond (Nat.beq pc 205) (some (.aload 1, 1)) (none))
 (cond (Nat.beq pc 206) (some (.aload 0, 1)) (none))))
 (cond (Nat.blt pc 209)
 (cond (Nat.blt pc 208)
 (cond (Nat.beq pc 207) (some (.iload 3, 1)) (none))
 (cond (Nat.beq pc 208) (some (.iconst 1, 1)) (none)))
 (cond (Nat.blt pc 210)
 (cond (Nat.beq pc 209) (some (.iadd, 1)) (none))
 (cond (Nat.beq pc 210) (some (.iaload, 1)) (none)))))
 (cond (Nat.blt pc 215)
 (cond (Nat.blt pc 213)
 (cond (Nat.blt pc 212)
 (cond (Nat.beq pc 211) (some (.aload 0, 1)) (none))
 (cond (Nat.beq pc 212) (some (.iload 3, 1)) (none)))
 (cond (Nat.blt pc 214)
 (cond (Nat.beq pc 213) (some (.iconst 2, 1)) (none))
 (cond (Nat.beq pc 214) (some (.iadd, 1)) (none))))
 (cond (Nat.blt pc 219)
 (cond (Nat.blt pc 216)
 (cond (Nat.beq pc 215) (some (.iaload, 1)) (none))
 (cond (Nat.beq pc 216) (some (.invokevirtual 70, 3)) (none)))
 (cond (Nat.blt pc 220)
 (cond (Nat.beq pc 219) (some (.aload 2, 1)) (none))
 (cond (Nat.blt pc 221)
 (cond (Nat.beq pc 220) (some (.aload 0, 1)) (none))
 (cond (Nat.beq pc 221) (some (.iload 3, 1)) (none)))))))))
 (cond (Nat.blt pc 262)
 (cond (Nat.blt pc 243)
 (cond (Nat.blt pc 230)
 (cond (Nat.blt pc 226)
 (cond (Nat.blt pc 224)
 (cond (Nat.blt pc 223)
 (cond (Nat.beq pc 222) (some (.iconst 1, 1)) (none))
 (cond (Nat.beq pc 223) (some (.iadd, 1)) (none)))
 (cond (Nat.blt pc 225)
 (cond (Nat.beq pc 224) (some (.iaload, 1)) (none))
 (cond (Nat.beq pc 225) (some (.aload 0, 1)) (none))))
 (cond (Nat.blt pc 228)
 (cond (Nat.blt pc 227)
 (cond (Nat.beq pc 226) (some (.iload 3, 1)) (none))
 (cond (Nat.beq pc 227) (some (.iconst 2, 1)) (none)))
 (cond (Nat.blt pc 229)
 (cond (Nat.beq pc 228) (some (.iadd, 1)) (none))
 (cond (Nat.beq pc 229) (some (.iaload, 1)) (none)))))
 (cond (Nat.blt pc 238)
 (cond (Nat.blt pc 236)
 (cond (Nat.blt pc 233)
 (cond (Nat.beq pc 230) (some (.invokevirtual 126, 3)) (none))
 (cond (Nat.beq pc 233) (some (.if_icmp .eq 839, 3)) (none)))
 (cond (Nat.blt pc 237)
 (cond (Nat.beq pc 236) (some (.iconst 0, 1)) (none))
 (cond (Nat.beq pc 237) (some (.freturn, 1)) (none))))
 (cond (Nat.blt pc 240)
 (cond (Nat.blt pc 239)
 (cond (Nat.beq pc 238) (some (.aload 1, 1)) (none))
 (cond (Nat.beq pc 239) (some (.aload 0, 1)) (none)))
 (cond (Nat.blt pc 241)
 (cond (Nat.beq pc 240) (some (.iload 3, 1)) (none))
 (cond (Nat.blt pc 242)
 (cond (Nat.beq pc 241) (some (.iconst 1, 1)) (none))
 (cond (Nat.beq pc 242) (some (.iadd, 1)) (none)))))))
 (cond (Nat.blt pc 253)
 (cond (Nat.blt pc 247)
 (cond (Nat.blt pc 245)
 (cond (Nat.blt pc 244)
 (cond (Nat.beq pc 243) (some (.iaload, 1)) (none))
 (cond (Nat.beq pc 244) (some (.aload 0, 1)) (none)))
 (cond (Nat.blt pc 246)
 (cond (Nat.beq pc 245) (some (.iload 3, 1)) (none))
 (cond (Nat.beq pc 246) (some (.iconst 2, 1)) (none))))
 (cond (Nat.blt pc 249)
 (cond (Nat.blt pc 248)
 (cond (Nat.beq pc 247) (some (.iadd, 1)) (none))
 (cond (Nat.beq pc 248) (some (.iaload, 1)) (none)))
 (cond (Nat.blt pc 252)
 (cond (Nat.beq pc 249) (some (.invokevirtual 71, 3)) (none))
 (cond (Nat.beq pc 252) (some (.aload 2, 1)) (none)))))
 (cond (Nat.blt pc 257)
 (cond (Nat.blt pc 255)
 (cond (Nat.blt pc 254)
 (cond (Nat.beq pc 253) (some (.aload 0, 1)) (none))
 (cond (Nat.beq pc 254) (some (.iload 3, 1)) (none)))
 (cond (Nat.blt pc 256)
 (cond (Nat.beq pc 255) (some (.iconst 1, 1)) (none))
 (cond (Nat.beq pc 256) (some (.iadd, 1)) (none))))
 (cond (Nat.blt pc 259)
 (cond (Nat.blt pc 258)
 (cond (Nat.beq pc 257) (some (.iaload, 1)) (none))
 (cond (Nat.beq pc 258) (some (.aload 0, 1)) (none)))
 (cond (Nat.blt pc 260)
 (cond (Nat.beq pc 259) (some (.iload 3, 1)) (none))
 (cond (Nat.blt pc 261)
 (cond (Nat.beq pc 260) (some (.iconst 2, 1)) (none))
 (cond (Nat.beq pc 261) (some (.iadd, 1)) (none))))))))
 (cond (Nat.blt pc 285)
 (cond (Nat.blt pc 274)
 (cond (Nat.blt pc 270)
 (cond (Nat.blt pc 266)
 (cond (Nat.blt pc 263)
 (cond (Nat.beq pc 262) (some (.iaload, 1)) (none))
 (cond (Nat.beq pc 263) (some (.invokevirtual 128, 3)) (none)))
 (cond (Nat.blt pc 269)
 (cond (Nat.beq pc 266) (some (.if_icmp .eq 839, 3)) (none))
 (cond (Nat.beq pc 269) (some (.iconst 0, 1)) (none))))
 (cond (Nat.blt pc 272)
 (cond (Nat.blt pc 271)
 (cond (Nat.beq pc 270) (some (.freturn, 1)) (none))
 (cond (Nat.beq pc 271) (some (.aload 1, 1)) (none)))
 (cond (Nat.blt pc 273)
 (cond (Nat.beq pc 272) (some (.aload 0, 1)) (none))
 (cond (Nat.beq pc 273) (some (.iload 3, 1)) (none)))))
 (cond (Nat.blt pc 280)
 (cond (Nat.blt pc 276)
 (cond (Nat.blt pc 275)
 (cond (Nat.beq pc 274) (some (.iconst 1, 1)) (none))
 (cond (Nat.beq pc 275) (some (.iadd, 1)) (none)))
 (cond (Nat.blt pc 277)
 (cond (Nat.beq pc 276) (some (.iaload, 1)) (none))
 (cond (Nat.beq pc 277) (some (.invokevirtual 72, 3)) (none))))
 (cond (Nat.blt pc 282)
 (cond (Nat.blt pc 281)
 (cond (Nat.beq pc 280) (some (.aload 2, 1)) (none))
 (cond (Nat.beq pc 281) (some (.aload 0, 1)) (none)))
 (cond (Nat.blt pc 283)
 (cond (Nat.beq pc 282) (some (.iload 3, 1)) (none))
 (cond (Nat.blt pc 284)
 (cond (Nat.beq pc 283) (some (.iconst 1, 1)) (none))
 (cond (Nat.beq pc 284) (some (.iadd, 1)) (none)))))))
 (cond (Nat.blt pc 297)
 (cond (Nat.blt pc 293)
 (cond (Nat.blt pc 289)
 (cond (Nat.blt pc 286)
 (cond (Nat.beq pc 285) (some (.iaload, 1)) (none))
 (cond (Nat.beq pc 286) (some (.invokevirtual 129, 3)) (none)))
 (cond (Nat.blt pc 292)
 (cond (Nat.beq pc 289) (some (.if_icmp .eq 839, 3)) (none))
 (cond (Nat.beq pc 292) (some (.iconst 0, 1)) (none))))
 (cond (Nat.blt pc 295)
 (cond (Nat.blt pc 294)
 (cond (Nat.beq pc 293) (some (.freturn, 1)) (none))
 (cond (Nat.beq pc 294) (some (.aload 1, 1)) (none)))
 (cond (Nat.blt pc 296)
 (cond (Nat.beq pc 295) (some (.aload 0, 1)) (none))
 (cond (Nat.beq pc 296) (some (.iload 3, 1)) (none)))))
 (cond (Nat.blt pc 303)
 (cond (Nat.blt pc 299)
 (cond (Nat.blt pc 298)
 (cond (Nat.beq pc 297) (some (.iconst 1, 1)) (none))
 (cond (Nat.beq pc 298) (some (.iadd, 1)) (none)))
 (cond (Nat.blt pc 300)
 (cond (Nat.beq pc 299) (some (.iaload, 1)) (none))
 (cond (Nat.beq pc 300) (some (.invokevirtual 73, 3)) (none))))
 (cond (Nat.blt pc 305)
 (cond (Nat.blt pc 304)
 (cond (Nat.beq pc 303) (some (.aload 2, 1)) (none))
 (cond (Nat.beq pc 304) (some (.aload 0, 1)) (none)))
 (cond (Nat.blt pc 306)
 (cond (Nat.beq pc 305) (some (.iload 3, 1)) (none))
 (cond (Nat.blt pc 307)
 (cond (Nat.beq pc 306) (some (.iconst 1, 1)) (none))
 (cond (Nat.beq pc 307) (some (.iadd, 1)) (none))))))))))
 (cond (Nat.blt pc 388)
 (cond (Nat.blt pc 352)
 (cond (Nat.blt pc 331)
 (cond (Nat.blt pc 320)
 (cond (Nat.blt pc 316)
 (cond (Nat.blt pc 312)
 (cond (Nat.blt pc 309)
 (cond (Nat.beq pc 308) (some (.iaload, 1)) (none))
 (cond (Nat.beq pc 309) (some (.invokevirtual 130, 3)) (none)))
 (cond (Nat.blt pc 315)
 (cond (Nat.beq pc 312) (some (.if_icmp .eq 839, 3)) (none))
 (cond (Nat.beq pc 315) (some (.iconst 0, 1)) (none))))
 (cond (Nat.blt pc 318)
 (cond (Nat.blt pc 317)
 (cond (Nat.beq pc 316) (some (.freturn, 1)) (none))
 (cond (Nat.beq pc 317) (some (.aload 1, 1)) (none)))
 (cond (Nat.blt pc 319)
 (cond (Nat.beq pc 318) (some (.aload 0, 1)) (none))
 (cond (Nat.beq pc 319) (some (.iload 3, 1)) (none)))))
 (cond (Nat.blt pc 324)
 (cond (Nat.blt pc 322)
 (cond (Nat.blt pc 321)
 (cond (Nat.beq pc 320) (some (.iconst 1, 1)) (none))
 (cond (Nat.beq pc 321) (some (.iadd, 1)) (none)))
 (cond (Nat.blt pc 323)
 (cond (Nat.beq pc 322) (some (.iaload, 1)) (none))
 (cond (Nat.beq pc 323) (some (.aload 0, 1)) (none))))
 (cond (Nat.blt pc 326)
 (cond (Nat.blt pc 325)
 (cond (Nat.beq pc 324) (some (.iload 3, 1)) (none))
 (cond (Nat.beq pc 325) (some (.iconst 2, 1)) (none)))
 (cond (Nat.blt pc 327)
 (cond (Nat.beq pc 326) (some (.iadd, 1)) (none))
 (cond (Nat.blt pc 328)
 (cond (Nat.beq pc 327) (some (.iaload, 1)) (none))
 (cond (Nat.beq pc 328) (some (.invokevirtual 74, 3)) (none)))))))
 (cond (Nat.blt pc 339)
 (cond (Nat.blt pc 335)
 (cond (Nat.blt pc 333)
 (cond (Nat.blt pc 332)
 (cond (Nat.beq pc 331) (some (.aload 2, 1)) (none))
 (cond (Nat.beq pc 332) (some (.aload 0, 1)) (none)))
 (cond (Nat.blt pc 334)
 (cond (Nat.beq pc 333) (some (.iload 3, 1)) (none))
 (cond (Nat.beq pc 334) (some (.iconst 1, 1)) (none))))
 (cond (Nat.blt pc 337)
 (cond (Nat.blt pc 336)
 (cond (Nat.beq pc 335) (some (.iadd, 1)) (none))
 (cond (Nat.beq pc 336) (some (.iaload, 1)) (none)))
 (cond (Nat.blt pc 338)
 (cond (Nat.beq pc 337) (some (.aload 0, 1)) (none))
 (cond (Nat.beq pc 338) (some (.iload 3, 1)) (none)))))
 (cond (Nat.blt pc 345)
 (cond (Nat.blt pc 341)
 (cond (Nat.blt pc 340)
 (cond (Nat.beq pc 339) (some (.iconst 2, 1)) (none))
 (cond (Nat.beq pc 340) (some (.iadd, 1)) (none)))
 (cond (Nat.blt pc 342)
 (cond (Nat.beq pc 341) (some (.iaload, 1)) (none))
 (cond (Nat.beq pc 342) (some (.invokevirtual 135, 3)) (none))))
 (cond (Nat.blt pc 349)
 (cond (Nat.blt pc 348)
 (cond (Nat.beq pc 345) (some (.if_icmp .eq 839, 3)) (none))
 (cond (Nat.beq pc 348) (some (.iconst 0, 1)) (none)))
 (cond (Nat.blt pc 350)
 (cond (Nat.beq pc 349) (some (.freturn, 1)) (none))
 (cond (Nat.blt pc 351)
 (cond (Nat.beq pc 350) (some (.aload 1, 1)) (none))
 (cond (Nat.beq pc 351) (some (.aload 0, 1)) (none))))))))
 (cond (Nat.blt pc 369)
 (cond (Nat.blt pc 360)
 (cond (Nat.blt pc 356)
 (cond (Nat.blt pc 354)
 (cond (Nat.blt pc 353)
 (cond (Nat.beq pc 352) (some (.iload 3, 1)) (none))
 (cond (Nat.beq pc 353) (some (.iconst 1, 1)) (none)))
 (cond (Nat.blt pc 355)
 (cond (Nat.beq pc 354) (some (.iadd, 1)) (none))
 (cond (Nat.beq pc 355) (some (.iaload, 1)) (none))))
 (cond (Nat.blt pc 358)
 (cond (Nat.blt pc 357)
 (cond (Nat.beq pc 356) (some (.aload 0, 1)) (none))
 (cond (Nat.beq pc 357) (some (.iload 3, 1)) (none)))
 (cond (Nat.blt pc 359)
 (cond (Nat.beq pc 358) (some (.iconst 2, 1)) (none))
 (cond (Nat.beq pc 359) (some (.iadd, 1)) (none)))))
 (cond (Nat.blt pc 364)
 (cond (Nat.blt pc 362)
 (cond (Nat.blt pc 361)
 (cond (Nat.beq pc 360) (some (.iaload, 1)) (none))
 (cond (Nat.beq pc 361) (some (.aload 0, 1)) (none)))
 (cond (Nat.blt pc 363)
 (cond (Nat.beq pc 362) (some (.iload 3, 1)) (none))
 (cond (Nat.beq pc 363) (some (.iconst 3, 1)) (none))))
 (cond (Nat.blt pc 366)
 (cond (Nat.blt pc 365)
 (cond (Nat.beq pc 364) (some (.iadd, 1)) (none))
 (cond (Nat.beq pc 365) (some (.iaload, 1)) (none)))
 (cond (Nat.blt pc 367)
 (cond (Nat.beq pc 366) (some (.aload 0, 1)) (none))
 (cond (Nat.blt pc 368)
 (cond (Nat.beq pc 367) (some (.iload 3, 1)) (none))
 (cond (Nat.beq pc 368) (some (.iconst 4, 1)) (none)))))))
 (cond (Nat.blt pc 379)
 (cond (Nat.blt pc 375)
 (cond (Nat.blt pc 371)
 (cond (Nat.blt pc 370)
 (cond (Nat.beq pc 369) (some (.iadd, 1)) (none))
 (cond (Nat.beq pc 370) (some (.iaload, 1)) (none)))
 (cond (Nat.blt pc 374)
 (cond (Nat.beq pc 371) (some (.invokevirtual 75, 3)) (none))
 (cond (Nat.beq pc 374) (some (.aload 2, 1)) (none))))
 (cond (Nat.blt pc 377)
 (cond (Nat.blt pc 376)
 (cond (Nat.beq pc 375) (some (.aload 0, 1)) (none))
 (cond (Nat.beq pc 376) (some (.iload 3, 1)) (none)))
 (cond (Nat.blt pc 378)
 (cond (Nat.beq pc 377) (some (.iconst 1, 1)) (none))
 (cond (Nat.beq pc 378) (some (.iadd, 1)) (none)))))
 (cond (Nat.blt pc 383)
 (cond (Nat.blt pc 381)
 (cond (Nat.blt pc 380)
 (cond (Nat.beq pc 379) (some (.iaload, 1)) (none))
 (cond (Nat.beq pc 380) (some (.aload 0, 1)) (none)))
 (cond (Nat.blt pc 382)
 (cond (Nat.beq pc 381) (some (.iload 3, 1)) (none))
 (cond (Nat.beq pc 382) (some (.iconst 2, 1)) (none))))
 (cond (Nat.blt pc 385)
 (cond (Nat.blt pc 384)
 (cond (Nat.beq pc 383) (some (.iadd, 1)) (none))
 (cond (Nat.beq pc 384) (some (.iaload, 1)) (none)))
 (cond (Nat.blt pc 386)
 (cond (Nat.beq pc 385) (some (.aload 0, 1)) (none))
 (cond (Nat.blt pc 387)
 (cond (Nat.beq pc 386) (some (.iload 3, 1)) (none))
 (cond (Nat.beq pc 387) (some (.iconst 3, 1)) (none)))))))))
 (cond (Nat.blt pc 428)
 (cond (Nat.blt pc 409)
 (cond (Nat.blt pc 398)
 (cond (Nat.blt pc 392)
 (cond (Nat.blt pc 390)
 (cond (Nat.blt pc 389)
 (cond (Nat.beq pc 388) (some (.iadd, 1)) (none))
 (cond (Nat.beq pc 389) (some (.iaload, 1)) (none)))
 (cond (Nat.blt pc 391)
 (cond (Nat.beq pc 390) (some (.aload 0, 1)) (none))
 (cond (Nat.beq pc 391) (some (.iload 3, 1)) (none))))
 (cond (Nat.blt pc 394)
 (cond (Nat.blt pc 393)
 (cond (Nat.beq pc 392) (some (.iconst 4, 1)) (none))
 (cond (Nat.beq pc 393) (some (.iadd, 1)) (none)))
 (cond (Nat.blt pc 395)
 (cond (Nat.beq pc 394) (some (.iaload, 1)) (none))
 (cond (Nat.beq pc 395) (some (.invokevirtual 138, 3)) (none)))))
 (cond (Nat.blt pc 404)
 (cond (Nat.blt pc 402)
 (cond (Nat.blt pc 401)
 (cond (Nat.beq pc 398) (some (.if_icmp .eq 839, 3)) (none))
 (cond (Nat.beq pc 401) (some (.iconst 0, 1)) (none)))
 (cond (Nat.blt pc 403)
 (cond (Nat.beq pc 402) (some (.freturn, 1)) (none))
 (cond (Nat.beq pc 403) (some (.aload 1, 1)) (none))))
 (cond (Nat.blt pc 406)
 (cond (Nat.blt pc 405)
 (cond (Nat.beq pc 404) (some (.aload 0, 1)) (none))
 (cond (Nat.beq pc 405) (some (.iload 3, 1)) (none)))
 (cond (Nat.blt pc 407)
 (cond (Nat.beq pc 406) (some (.iconst 1, 1)) (none))
 (cond (Nat.blt pc 408)
 (cond (Nat.beq pc 407) (some (.iadd, 1)) (none))
 (cond (Nat.beq pc 408) (some (.iaload, 1)) (none)))))))
 (cond (Nat.blt pc 419)
 (cond (Nat.blt pc 413)
 (cond (Nat.blt pc 411)
 (cond (Nat.blt pc 410)
 (cond (Nat.beq pc 409) (some (.aload 0, 1)) (none))
 (cond (Nat.beq pc 410) (some (.iload 3, 1)) (none)))
 (cond (Nat.blt pc 412)
 (cond (Nat.beq pc 411) (some (.iconst 2, 1)) (none))
 (cond (Nat.beq pc 412) (some (.iadd, 1)) (none))))
 (cond (Nat.blt pc 417)
 (cond (Nat.blt pc 414)
 (cond (Nat.beq pc 413) (some (.iaload, 1)) (none))
 (cond (Nat.beq pc 414) (some (.invokevirtual 76, 3)) (none)))
 (cond (Nat.blt pc 418)
 (cond (Nat.beq pc 417) (some (.aload 2, 1)) (none))
 (cond (Nat.beq pc 418) (some (.aload 0, 1)) (none)))))
 (cond (Nat.blt pc 423)
 (cond (Nat.blt pc 421)
 (cond (Nat.blt pc 420)
 (cond (Nat.beq pc 419) (some (.iload 3, 1)) (none))
 (cond (Nat.beq pc 420) (some (.iconst 1, 1)) (none)))
 (cond (Nat.blt pc 422)
 (cond (Nat.beq pc 421) (some (.iadd, 1)) (none))
 (cond (Nat.beq pc 422) (some (.iaload, 1)) (none))))
 (cond (Nat.blt pc 425)
 (cond (Nat.blt pc 424)
 (cond (Nat.beq pc 423) (some (.aload 0, 1)) (none))
 (cond (Nat.beq pc 424) (some (.iload 3, 1)) (none)))
 (cond (Nat.blt pc 426)
 (cond (Nat.beq pc 425) (some (.iconst 2, 1)) (none))
 (cond (Nat.blt pc 427)
 (cond (Nat.beq pc 426) (some (.iadd, 1)) (none))
 (cond (Nat.beq pc 427) (some (.iaload, 1)) (none))))))))
 (cond (Nat.blt pc 455)
 (cond (Nat.blt pc 444)
 (cond (Nat.blt pc 436)
 (cond (Nat.blt pc 434)
 (cond (Nat.blt pc 431)
 (cond (Nat.beq pc 428) (some (.invokevirtual 139, 3)) (none))
 (cond (Nat.beq pc 431) (some (.if_icmp .eq 839, 3)) (none)))
 (cond (Nat.blt pc 435)
 (cond (Nat.beq pc 434) (some (.iconst 0, 1)) (none))
 (cond (Nat.beq pc 435) (some (.freturn, 1)) (none))))
 (cond (Nat.blt pc 440)
 (cond (Nat.blt pc 437)
 (cond (Nat.beq pc 436) (some (.aload 1, 1)) (none))
 (cond (Nat.beq pc 437) (some (.invokevirtual 77, 3)) (none)))
 (cond (Nat.blt pc 441)
 (cond (Nat.beq pc 440) (some (.aload 2, 1)) (none))
 (cond (Nat.beq pc 441) (some (.invokevirtual 140, 3)) (none)))))
 (cond (Nat.blt pc 450)
 (cond (Nat.blt pc 448)
 (cond (Nat.blt pc 447)
 (cond (Nat.beq pc 444) (some (.if_icmp .eq 839, 3)) (none))
 (cond (Nat.beq pc 447) (some (.iconst 0, 1)) (none)))
 (cond (Nat.blt pc 449)
 (cond (Nat.beq pc 448) (some (.freturn, 1)) (none))
 (cond (Nat.beq pc 449) (some (.aload 1, 1)) (none))))
 (cond (Nat.blt pc 452)
 (cond (Nat.blt pc 451)
 (cond (Nat.beq pc 450) (some (.aload 0, 1)) (none))
 (cond (Nat.beq pc 451) (some (.iload 3, 1)) (none)))
 (cond (Nat.blt pc 453)
 (cond (Nat.beq pc 452) (some (.iconst 1, 1)) (none))
 (cond (Nat.blt pc 454)
 (cond (Nat.beq pc 453) (some (.iadd, 1)) (none))
 (cond (Nat.beq pc 454) (some (.iaload, 1)) (none)))))))
 (cond (Nat.blt pc 466)
 (cond (Nat.blt pc 459)
 (cond (Nat.blt pc 457)
 (cond (Nat.blt pc 456)
 (cond (Nat.beq pc 455) (some (.aload 0, 1)) (none))
 (cond (Nat.beq pc 456) (some (.iload 3, 1)) (none)))
 (cond (Nat.blt pc 458)
 (cond (Nat.beq pc 457) (some (.iconst 2, 1)) (none))
 (cond (Nat.beq pc 458) (some (.iadd, 1)) (none))))
 (cond (Nat.blt pc 463)
 (cond (Nat.blt pc 460)
 (cond (Nat.beq pc 459) (some (.iaload, 1)) (none))
 (cond (Nat.beq pc 460) (some (.invokevirtual 78, 3)) (none)))
 (cond (Nat.blt pc 464)
 (cond (Nat.beq pc 463) (some (.aload 2, 1)) (none))
 (cond (Nat.blt pc 465)
 (cond (Nat.beq pc 464) (some (.aload 0, 1)) (none))
 (cond (Nat.beq pc 465) (some (.iload 3, 1)) (none))))))
 (cond (Nat.blt pc 470)
 (cond (Nat.blt pc 468)
 (cond (Nat.blt pc 467)
 (cond (Nat.beq pc 466) (some (.iconst 1, 1)) (none))
 (cond (Nat.beq pc 467) (some (.iadd, 1)) (none)))
 (cond (Nat.blt pc 469)
 (cond (Nat.beq pc 468) (some (.iaload, 1)) (none))
 (cond (Nat.beq pc 469) (some (.aload 0, 1)) (none))))
 (cond (Nat.blt pc 472)
 (cond (Nat.blt pc 471)
 (cond (Nat.beq pc 470) (some (.iload 3, 1)) (none))
 (cond (Nat.beq pc 471) (some (.iconst 2, 1)) (none)))
 (cond (Nat.blt pc 473)
 (cond (Nat.beq pc 472) (some (.iadd, 1)) (none))
 (cond (Nat.blt pc 474)
 (cond (Nat.beq pc 473) (some (.iaload, 1)) (none))
 (cond (Nat.beq pc 474) (some (.invokevirtual 141, 3)) (none)))))))))))
 (cond (Nat.blt pc 664)
 (cond (Nat.blt pc 567)
 (cond (Nat.blt pc 527)
 (cond (Nat.blt pc 500)
 (cond (Nat.blt pc 487)
 (cond (Nat.blt pc 483)
 (cond (Nat.blt pc 481)
 (cond (Nat.blt pc 480)
 (cond (Nat.beq pc 477) (some (.if_icmp .eq 839, 3)) (none))
 (cond (Nat.beq pc 480) (some (.iconst 0, 1)) (none)))
 (cond (Nat.blt pc 482)
 (cond (Nat.beq pc 481) (some (.freturn, 1)) (none))
 (cond (Nat.beq pc 482) (some (.aload 1, 1)) (none))))
 (cond (Nat.blt pc 485)
 (cond (Nat.blt pc 484)
 (cond (Nat.beq pc 483) (some (.aload 0, 1)) (none))
 (cond (Nat.beq pc 484) (some (.iload 3, 1)) (none)))
 (cond (Nat.blt pc 486)
 (cond (Nat.beq pc 485) (some (.iconst 1, 1)) (none))
 (cond (Nat.beq pc 486) (some (.iadd, 1)) (none)))))
 (cond (Nat.blt pc 493)
 (cond (Nat.blt pc 491)
 (cond (Nat.blt pc 488)
 (cond (Nat.beq pc 487) (some (.iaload, 1)) (none))
 (cond (Nat.beq pc 488) (some (.invokevirtual 79, 3)) (none)))
 (cond (Nat.blt pc 492)
 (cond (Nat.beq pc 491) (some (.aload 2, 1)) (none))
 (cond (Nat.beq pc 492) (some (.aload 0, 1)) (none))))
 (cond (Nat.blt pc 495)
 (cond (Nat.blt pc 494)
 (cond (Nat.beq pc 493) (some (.iload 3, 1)) (none))
 (cond (Nat.beq pc 494) (some (.iconst 1, 1)) (none)))
 (cond (Nat.blt pc 496)
 (cond (Nat.beq pc 495) (some (.iadd, 1)) (none))
 (cond (Nat.blt pc 497)
 (cond (Nat.beq pc 496) (some (.iaload, 1)) (none))
 (cond (Nat.beq pc 497) (some (.invokevirtual 144, 3)) (none)))))))
 (cond (Nat.blt pc 516)
 (cond (Nat.blt pc 506)
 (cond (Nat.blt pc 504)
 (cond (Nat.blt pc 503)
 (cond (Nat.beq pc 500) (some (.if_icmp .eq 839, 3)) (none))
 (cond (Nat.beq pc 503) (some (.iconst 0, 1)) (none)))
 (cond (Nat.blt pc 505)
 (cond (Nat.beq pc 504) (some (.freturn, 1)) (none))
 (cond (Nat.beq pc 505) (some (.aload 1, 1)) (none))))
 (cond (Nat.blt pc 510)
 (cond (Nat.blt pc 509)
 (cond (Nat.beq pc 506) (some (.invokevirtual 80, 3)) (none))
 (cond (Nat.beq pc 509) (some (.aload 2, 1)) (none)))
 (cond (Nat.blt pc 513)
 (cond (Nat.beq pc 510) (some (.invokevirtual 147, 3)) (none))
 (cond (Nat.beq pc 513) (some (.if_icmp .eq 839, 3)) (none)))))
 (cond (Nat.blt pc 520)
 (cond (Nat.blt pc 518)
 (cond (Nat.blt pc 517)
 (cond (Nat.beq pc 516) (some (.iconst 0, 1)) (none))
 (cond (Nat.beq pc 517) (some (.freturn, 1)) (none)))
 (cond (Nat.blt pc 519)
 (cond (Nat.beq pc 518) (some (.aload 1, 1)) (none))
 (cond (Nat.beq pc 519) (some (.aload 0, 1)) (none))))
 (cond (Nat.blt pc 522)
 (cond (Nat.blt pc 521)
 (cond (Nat.beq pc 520) (some (.iload 3, 1)) (none))
 (cond (Nat.beq pc 521) (some (.iconst 1, 1)) (none)))
 (cond (Nat.blt pc 523)
 (cond (Nat.beq pc 522) (some (.iadd, 1)) (none))
 (cond (Nat.blt pc 524)
 (cond (Nat.beq pc 523) (some (.iaload, 1)) (none))
 (cond (Nat.beq pc 524) (some (.invokevirtual 81, 3)) (none))))))))
 (cond (Nat.blt pc 548)
 (cond (Nat.blt pc 539)
 (cond (Nat.blt pc 531)
 (cond (Nat.blt pc 529)
 (cond (Nat.blt pc 528)
 (cond (Nat.beq pc 527) (some (.aload 2, 1)) (none))
 (cond (Nat.beq pc 528) (some (.aload 0, 1)) (none)))
 (cond (Nat.blt pc 530)
 (cond (Nat.beq pc 529) (some (.iload 3, 1)) (none))
 (cond (Nat.beq pc 530) (some (.iconst 1, 1)) (none))))
 (cond (Nat.blt pc 533)
 (cond (Nat.blt pc 532)
 (cond (Nat.beq pc 531) (some (.iadd, 1)) (none))
 (cond (Nat.beq pc 532) (some (.iaload, 1)) (none)))
 (cond (Nat.blt pc 536)
 (cond (Nat.beq pc 533) (some (.invokevirtual 151, 3)) (none))
 (cond (Nat.beq pc 536) (some (.if_icmp .eq 839, 3)) (none)))))
 (cond (Nat.blt pc 543)
 (cond (Nat.blt pc 541)
 (cond (Nat.blt pc 540)
 (cond (Nat.beq pc 539) (some (.iconst 0, 1)) (none))
 (cond (Nat.beq pc 540) (some (.freturn, 1)) (none)))
 (cond (Nat.blt pc 542)
 (cond (Nat.beq pc 541) (some (.aload 1, 1)) (none))
 (cond (Nat.beq pc 542) (some (.aload 0, 1)) (none))))
 (cond (Nat.blt pc 545)
 (cond (Nat.blt pc 544)
 (cond (Nat.beq pc 543) (some (.iload 3, 1)) (none))
 (cond (Nat.beq pc 544) (some (.iconst 1, 1)) (none)))
 (cond (Nat.blt pc 546)
 (cond (Nat.beq pc 545) (some (.iadd, 1)) (none))
 (cond (Nat.blt pc 547)
 (cond (Nat.beq pc 546) (some (.iaload, 1)) (none))
 (cond (Nat.beq pc 547) (some (.aload 0, 1)) (none)))))))
 (cond (Nat.blt pc 556)
 (cond (Nat.blt pc 552)
 (cond (Nat.blt pc 550)
 (cond (Nat.blt pc 549)
 (cond (Nat.beq pc 548) (some (.iload 3, 1)) (none))
 (cond (Nat.beq pc 549) (some (.iconst 2, 1)) (none)))
 (cond (Nat.blt pc 551)
 (cond (Nat.beq pc 550) (some (.iadd, 1)) (none))
 (cond (Nat.beq pc 551) (some (.iaload, 1)) (none))))
 (cond (Nat.blt pc 554)
 (cond (Nat.blt pc 553)
 (cond (Nat.beq pc 552) (some (.aload 0, 1)) (none))
 (cond (Nat.beq pc 553) (some (.iload 3, 1)) (none)))
 (cond (Nat.blt pc 555)
 (cond (Nat.beq pc 554) (some (.iconst 3, 1)) (none))
 (cond (Nat.beq pc 555) (some (.iadd, 1)) (none)))))
 (cond (Nat.blt pc 562)
 (cond (Nat.blt pc 560)
 (cond (Nat.blt pc 557)
 (cond (Nat.beq pc 556) (some (.iaload, 1)) (none))
 (cond (Nat.beq pc 557) (some (.invokevirtual 82, 3)) (none)))
 (cond (Nat.blt pc 561)
 (cond (Nat.beq pc 560) (some (.aload 2, 1)) (none))
 (cond (Nat.beq pc 561) (some (.aload 0, 1)) (none))))
 (cond (Nat.blt pc 564)
 (cond (Nat.blt pc 563)
 (cond (Nat.beq pc 562) (some (.iload 3, 1)) (none))
 (cond (Nat.beq pc 563) (some (.iconst 1, 1)) (none)))
 (cond (Nat.blt pc 565)
 (cond (Nat.beq pc 564) (some (.iadd, 1)) (none))
 (cond (Nat.blt pc 566)
 (cond (Nat.beq pc 565) (some (.iaload, 1)) (none))
 (cond (Nat.beq pc 566) (some (.aload 0, 1)) (none)))))))))
 (cond (Nat.blt pc 607)
 (cond (Nat.blt pc 588)
 (cond (Nat.blt pc 575)
 (cond (Nat.blt pc 571)
 (cond (Nat.blt pc 569)
 (cond (Nat.blt pc 568)
 (cond (Nat.beq pc 567) (some (.iload 3, 1)) (none))
 (cond (Nat.beq pc 568) (some (.iconst 2, 1)) (none)))
 (cond (Nat.blt pc 570)
 (cond (Nat.beq pc 569) (some (.iadd, 1)) (none))
 (cond (Nat.beq pc 570) (some (.iaload, 1)) (none))))
 (cond (Nat.blt pc 573)
 (cond (Nat.blt pc 572)
 (cond (Nat.beq pc 571) (some (.aload 0, 1)) (none))
 (cond (Nat.beq pc 572) (some (.iload 3, 1)) (none)))
 (cond (Nat.blt pc 574)
 (cond (Nat.beq pc 573) (some (.iconst 3, 1)) (none))
 (cond (Nat.beq pc 574) (some (.iadd, 1)) (none)))))
 (cond (Nat.blt pc 583)
 (cond (Nat.blt pc 579)
 (cond (Nat.blt pc 576)
 (cond (Nat.beq pc 575) (some (.iaload, 1)) (none))
 (cond (Nat.beq pc 576) (some (.invokevirtual 153, 3)) (none)))
 (cond (Nat.blt pc 582)
 (cond (Nat.beq pc 579) (some (.if_icmp .eq 839, 3)) (none))
 (cond (Nat.beq pc 582) (some (.iconst 0, 1)) (none))))
 (cond (Nat.blt pc 585)
 (cond (Nat.blt pc 584)
 (cond (Nat.beq pc 583) (some (.freturn, 1)) (none))
 (cond (Nat.beq pc 584) (some (.aload 1, 1)) (none)))
 (cond (Nat.blt pc 586)
 (cond (Nat.beq pc 585) (some (.aload 0, 1)) (none))
 (cond (Nat.blt pc 587)
 (cond (Nat.beq pc 586) (some (.iload 3, 1)) (none))
 (cond (Nat.beq pc 587) (some (.iconst 1, 1)) (none)))))))
 (cond (Nat.blt pc 598)
 (cond (Nat.blt pc 592)
 (cond (Nat.blt pc 590)
 (cond (Nat.blt pc 589)
 (cond (Nat.beq pc 588) (some (.iadd, 1)) (none))
 (cond (Nat.beq pc 589) (some (.iaload, 1)) (none)))
 (cond (Nat.blt pc 591)
 (cond (Nat.beq pc 590) (some (.aload 0, 1)) (none))
 (cond (Nat.beq pc 591) (some (.iload 3, 1)) (none))))
 (cond (Nat.blt pc 594)
 (cond (Nat.blt pc 593)
 (cond (Nat.beq pc 592) (some (.iconst 2, 1)) (none))
 (cond (Nat.beq pc 593) (some (.iadd, 1)) (none)))
 (cond (Nat.blt pc 595)
 (cond (Nat.beq pc 594) (some (.iaload, 1)) (none))
 (cond (Nat.beq pc 595) (some (.invokevirtual 83, 3)) (none)))))
 (cond (Nat.blt pc 602)
 (cond (Nat.blt pc 600)
 (cond (Nat.blt pc 599)
 (cond (Nat.beq pc 598) (some (.aload 2, 1)) (none))
 (cond (Nat.beq pc 599) (some (.aload 0, 1)) (none)))
 (cond (Nat.blt pc 601)
 (cond (Nat.beq pc 600) (some (.iload 3, 1)) (none))
 (cond (Nat.beq pc 601) (some (.iconst 1, 1)) (none))))
 (cond (Nat.blt pc 604)
 (cond (Nat.blt pc 603)
 (cond (Nat.beq pc 602) (some (.iadd, 1)) (none))
 (cond (Nat.beq pc 603) (some (.iaload, 1)) (none)))
 (cond (Nat.blt pc 605)
 (cond (Nat.beq pc 604) (some (.aload 0, 1)) (none))
 (cond (Nat.blt pc 606)
 (cond (Nat.beq pc 605) (some (.iload 3, 1)) (none))
 (cond (Nat.beq pc 606) (some (.iconst 2, 1)) (none))))))))
 (cond (Nat.blt pc 638)
 (cond (Nat.blt pc 621)
 (cond (Nat.blt pc 615)
 (cond (Nat.blt pc 609)
 (cond (Nat.blt pc 608)
 (cond (Nat.beq pc 607) (some (.iadd, 1)) (none))
 (cond (Nat.beq pc 608) (some (.iaload, 1)) (none)))
 (cond (Nat.blt pc 612)
 (cond (Nat.beq pc 609) (some (.invokevirtual 154, 3)) (none))
 (cond (Nat.beq pc 612) (some (.if_icmp .eq 839, 3)) (none))))
 (cond (Nat.blt pc 617)
 (cond (Nat.blt pc 616)
 (cond (Nat.beq pc 615) (some (.iconst 0, 1)) (none))
 (cond (Nat.beq pc 616) (some (.freturn, 1)) (none)))
 (cond (Nat.blt pc 618)
 (cond (Nat.beq pc 617) (some (.aload 1, 1)) (none))
 (cond (Nat.beq pc 618) (some (.invokevirtual 84, 3)) (none)))))
 (cond (Nat.blt pc 629)
 (cond (Nat.blt pc 625)
 (cond (Nat.blt pc 622)
 (cond (Nat.beq pc 621) (some (.aload 2, 1)) (none))
 (cond (Nat.beq pc 622) (some (.invokevirtual 155, 3)) (none)))
 (cond (Nat.blt pc 628)
 (cond (Nat.beq pc 625) (some (.if_icmp .eq 839, 3)) (none))
 (cond (Nat.beq pc 628) (some (.iconst 0, 1)) (none))))
 (cond (Nat.blt pc 631)
 (cond (Nat.blt pc 630)
 (cond (Nat.beq pc 629) (some (.freturn, 1)) (none))
 (cond (Nat.beq pc 630) (some (.aload 1, 1)) (none)))
 (cond (Nat.blt pc 634)
 (cond (Nat.beq pc 631) (some (.invokevirtual 85, 3)) (none))
 (cond (Nat.blt pc 635)
 (cond (Nat.beq pc 634) (some (.aload 2, 1)) (none))
 (cond (Nat.beq pc 635) (some (.invokevirtual 159, 3)) (none)))))))
 (cond (Nat.blt pc 649)
 (cond (Nat.blt pc 644)
 (cond (Nat.blt pc 642)
 (cond (Nat.blt pc 641)
 (cond (Nat.beq pc 638) (some (.if_icmp .eq 839, 3)) (none))
 (cond (Nat.beq pc 641) (some (.iconst 0, 1)) (none)))
 (cond (Nat.blt pc 643)
 (cond (Nat.beq pc 642) (some (.freturn, 1)) (none))
 (cond (Nat.beq pc 643) (some (.aload 1, 1)) (none))))
 (cond (Nat.blt pc 646)
 (cond (Nat.blt pc 645)
 (cond (Nat.beq pc 644) (some (.aload 0, 1)) (none))
 (cond (Nat.beq pc 645) (some (.iload 3, 1)) (none)))
 (cond (Nat.blt pc 647)
 (cond (Nat.beq pc 646) (some (.iconst 1, 1)) (none))
 (cond (Nat.blt pc 648)
 (cond (Nat.beq pc 647) (some (.iadd, 1)) (none))
 (cond (Nat.beq pc 648) (some (.iaload, 1)) (none))))))
 (cond (Nat.blt pc 655)
 (cond (Nat.blt pc 653)
 (cond (Nat.blt pc 652)
 (cond (Nat.beq pc 649) (some (.invokevirtual 86, 3)) (none))
 (cond (Nat.beq pc 652) (some (.aload 2, 1)) (none)))
 (cond (Nat.blt pc 654)
 (cond (Nat.beq pc 653) (some (.aload 0, 1)) (none))
 (cond (Nat.beq pc 654) (some (.iload 3, 1)) (none))))
 (cond (Nat.blt pc 657)
 (cond (Nat.blt pc 656)
 (cond (Nat.beq pc 655) (some (.iconst 1, 1)) (none))
 (cond (Nat.beq pc 656) (some (.iadd, 1)) (none)))
 (cond (Nat.blt pc 658)
 (cond (Nat.beq pc 657) (some (.iaload, 1)) (none))
 (cond (Nat.blt pc 661)
 (cond (Nat.beq pc 658) (some (.invokevirtual 160, 3)) (none))
 (cond (Nat.beq pc 661) (some (.if_icmp .eq 839, 3)) (none))))))))))
 (cond (Nat.blt pc 746)
 (cond (Nat.blt pc 706)
 (cond (Nat.blt pc 687)
 (cond (Nat.blt pc 672)
 (cond (Nat.blt pc 668)
 (cond (Nat.blt pc 666)
 (cond (Nat.blt pc 665)
 (cond (Nat.beq pc 664) (some (.iconst 0, 1)) (none))
 (cond (Nat.beq pc 665) (some (.freturn, 1)) (none)))
 (cond (Nat.blt pc 667)
 (cond (Nat.beq pc 666) (some (.aload 1, 1)) (none))
 (cond (Nat.beq pc 667) (some (.aload 0, 1)) (none))))
 (cond (Nat.blt pc 670)
 (cond (Nat.blt pc 669)
 (cond (Nat.beq pc 668) (some (.iload 3, 1)) (none))
 (cond (Nat.beq pc 669) (some (.iconst 1, 1)) (none)))
 (cond (Nat.blt pc 671)
 (cond (Nat.beq pc 670) (some (.iadd, 1)) (none))
 (cond (Nat.beq pc 671) (some (.iaload, 1)) (none)))))
 (cond (Nat.blt pc 678)
 (cond (Nat.blt pc 676)
 (cond (Nat.blt pc 675)
 (cond (Nat.beq pc 672) (some (.invokevirtual 87, 3)) (none))
 (cond (Nat.beq pc 675) (some (.aload 2, 1)) (none)))
 (cond (Nat.blt pc 677)
 (cond (Nat.beq pc 676) (some (.aload 0, 1)) (none))
 (cond (Nat.beq pc 677) (some (.iload 3, 1)) (none))))
 (cond (Nat.blt pc 680)
 (cond (Nat.blt pc 679)
 (cond (Nat.beq pc 678) (some (.iconst 1, 1)) (none))
 (cond (Nat.beq pc 679) (some (.iadd, 1)) (none)))
 (cond (Nat.blt pc 681)
 (cond (Nat.beq pc 680) (some (.iaload, 1)) (none))
 (cond (Nat.blt pc 684)
 (cond (Nat.beq pc 681) (some (.invokevirtual 161, 3)) (none))
 (cond (Nat.beq pc 684) (some (.if_icmp .eq 839, 3)) (none)))))))
 (cond (Nat.blt pc 695)
 (cond (Nat.blt pc 691)
 (cond (Nat.blt pc 689)
 (cond (Nat.blt pc 688)
 (cond (Nat.beq pc 687) (some (.iconst 0, 1)) (none))
 (cond (Nat.beq pc 688) (some (.freturn, 1)) (none)))
 (cond (Nat.blt pc 690)
 (cond (Nat.beq pc 689) (some (.aload 1, 1)) (none))
 (cond (Nat.beq pc 690) (some (.aload 0, 1)) (none))))
 (cond (Nat.blt pc 693)
 (cond (Nat.blt pc 692)
 (cond (Nat.beq pc 691) (some (.iload 3, 1)) (none))
 (cond (Nat.beq pc 692) (some (.iconst 1, 1)) (none)))
 (cond (Nat.blt pc 694)
 (cond (Nat.beq pc 693) (some (.iadd, 1)) (none))
 (cond (Nat.beq pc 694) (some (.iaload, 1)) (none)))))
 (cond (Nat.blt pc 699)
 (cond (Nat.blt pc 697)
 (cond (Nat.blt pc 696)
 (cond (Nat.beq pc 695) (some (.aload 0, 1)) (none))
 (cond (Nat.beq pc 696) (some (.iload 3, 1)) (none)))
 (cond (Nat.blt pc 698)
 (cond (Nat.beq pc 697) (some (.iconst 2, 1)) (none))
 (cond (Nat.beq pc 698) (some (.iadd, 1)) (none))))
 (cond (Nat.blt pc 703)
 (cond (Nat.blt pc 700)
 (cond (Nat.beq pc 699) (some (.iaload, 1)) (none))
 (cond (Nat.beq pc 700) (some (.invokevirtual 88, 3)) (none)))
 (cond (Nat.blt pc 704)
 (cond (Nat.beq pc 703) (some (.aload 2, 1)) (none))
 (cond (Nat.blt pc 705)
 (cond (Nat.beq pc 704) (some (.aload 0, 1)) (none))
 (cond (Nat.beq pc 705) (some (.iload 3, 1)) (none))))))))
 (cond (Nat.blt pc 727)
 (cond (Nat.blt pc 714)
 (cond (Nat.blt pc 710)
 (cond (Nat.blt pc 708)
 (cond (Nat.blt pc 707)
 (cond (Nat.beq pc 706) (some (.iconst 1, 1)) (none))
 (cond (Nat.beq pc 707) (some (.iadd, 1)) (none)))
 (cond (Nat.blt pc 709)
 (cond (Nat.beq pc 708) (some (.iaload, 1)) (none))
 (cond (Nat.beq pc 709) (some (.aload 0, 1)) (none))))
 (cond (Nat.blt pc 712)
 (cond (Nat.blt pc 711)
 (cond (Nat.beq pc 710) (some (.iload 3, 1)) (none))
 (cond (Nat.beq pc 711) (some (.iconst 2, 1)) (none)))
 (cond (Nat.blt pc 713)
 (cond (Nat.beq pc 712) (some (.iadd, 1)) (none))
 (cond (Nat.beq pc 713) (some (.iaload, 1)) (none)))))
 (cond (Nat.blt pc 722)
 (cond (Nat.blt pc 718)
 (cond (Nat.blt pc 717)
 (cond (Nat.beq pc 714) (some (.invokevirtual 162, 3)) (none))
 (cond (Nat.beq pc 717) (some (.lcmp, 1)) (none)))
 (cond (Nat.blt pc 721)
 (cond (Nat.beq pc 718) (some (.ifCond .eq 839, 3)) (none))
 (cond (Nat.beq pc 721) (some (.iconst 0, 1)) (none))))
 (cond (Nat.blt pc 724)
 (cond (Nat.blt pc 723)
 (cond (Nat.beq pc 722) (some (.freturn, 1)) (none))
 (cond (Nat.beq pc 723) (some (.aload 1, 1)) (none)))
 (cond (Nat.blt pc 725)
 (cond (Nat.beq pc 724) (some (.aload 0, 1)) (none))
 (cond (Nat.blt pc 726)
 (cond (Nat.beq pc 725) (some (.iload 3, 1)) (none))
 (cond (Nat.beq pc 726) (some (.iconst 1, 1)) (none)))))))
 (cond (Nat.blt pc 737)
 (cond (Nat.blt pc 731)
 (cond (Nat.blt pc 729)
 (cond (Nat.blt pc 728)
 (cond (Nat.beq pc 727) (some (.iadd, 1)) (none))
 (cond (Nat.beq pc 728) (some (.iaload, 1)) (none)))
 (cond (Nat.blt pc 730)
 (cond (Nat.beq pc 729) (some (.aload 0, 1)) (none))
 (cond (Nat.beq pc 730) (some (.iload 3, 1)) (none))))
 (cond (Nat.blt pc 733)
 (cond (Nat.blt pc 732)
 (cond (Nat.beq pc 731) (some (.iconst 2, 1)) (none))
 (cond (Nat.beq pc 732) (some (.iadd, 1)) (none)))
 (cond (Nat.blt pc 734)
 (cond (Nat.beq pc 733) (some (.iaload, 1)) (none))
 (cond (Nat.beq pc 734) (some (.invokevirtual 89, 3)) (none)))))
 (cond (Nat.blt pc 741)
 (cond (Nat.blt pc 739)
 (cond (Nat.blt pc 738)
 (cond (Nat.beq pc 737) (some (.aload 2, 1)) (none))
 (cond (Nat.beq pc 738) (some (.aload 0, 1)) (none)))
 (cond (Nat.blt pc 740)
 (cond (Nat.beq pc 739) (some (.iload 3, 1)) (none))
 (cond (Nat.beq pc 740) (some (.iconst 1, 1)) (none))))
 (cond (Nat.blt pc 743)
 (cond (Nat.blt pc 742)
 (cond (Nat.beq pc 741) (some (.iadd, 1)) (none))
 (cond (Nat.beq pc 742) (some (.iaload, 1)) (none)))
 (cond (Nat.blt pc 744)
 (cond (Nat.beq pc 743) (some (.aload 0, 1)) (none))
 (cond (Nat.blt pc 745)
 (cond (Nat.beq pc 744) (some (.iload 3, 1)) (none))
 (cond (Nat.beq pc 745) (some (.iconst 2, 1)) (none)))))))))
 (cond (Nat.blt pc 792)
 (cond (Nat.blt pc 769)
 (cond (Nat.blt pc 758)
 (cond (Nat.blt pc 754)
 (cond (Nat.blt pc 748)
 (cond (Nat.blt pc 747)
 (cond (Nat.beq pc 746) (some (.iadd, 1)) (none))
 (cond (Nat.beq pc 747) (some (.iaload, 1)) (none)))
 (cond (Nat.blt pc 751)
 (cond (Nat.beq pc 748) (some (.invokevirtual 163, 3)) (none))
 (cond (Nat.beq pc 751) (some (.if_icmp .eq 839, 3)) (none))))
 (cond (Nat.blt pc 756)
 (cond (Nat.blt pc 755)
 (cond (Nat.beq pc 754) (some (.iconst 0, 1)) (none))
 (cond (Nat.beq pc 755) (some (.freturn, 1)) (none)))
 (cond (Nat.blt pc 757)
 (cond (Nat.beq pc 756) (some (.aload 1, 1)) (none))
 (cond (Nat.beq pc 757) (some (.aload 0, 1)) (none)))))
 (cond (Nat.blt pc 762)
 (cond (Nat.blt pc 760)
 (cond (Nat.blt pc 759)
 (cond (Nat.beq pc 758) (some (.iload 3, 1)) (none))
 (cond (Nat.beq pc 759) (some (.iconst 1, 1)) (none)))
 (cond (Nat.blt pc 761)
 (cond (Nat.beq pc 760) (some (.iadd, 1)) (none))
 (cond (Nat.beq pc 761) (some (.iaload, 1)) (none))))
 (cond (Nat.blt pc 766)
 (cond (Nat.blt pc 765)
 (cond (Nat.beq pc 762) (some (.invokevirtual 90, 3)) (none))
 (cond (Nat.beq pc 765) (some (.aload 2, 1)) (none)))
 (cond (Nat.blt pc 767)
 (cond (Nat.beq pc 766) (some (.aload 0, 1)) (none))
 (cond (Nat.blt pc 768)
 (cond (Nat.beq pc 767) (some (.iload 3, 1)) (none))
 (cond (Nat.beq pc 768) (some (.iconst 1, 1)) (none)))))))
 (cond (Nat.blt pc 781)
 (cond (Nat.blt pc 777)
 (cond (Nat.blt pc 771)
 (cond (Nat.blt pc 770)
 (cond (Nat.beq pc 769) (some (.iadd, 1)) (none))
 (cond (Nat.beq pc 770) (some (.iaload, 1)) (none)))
 (cond (Nat.blt pc 774)
 (cond (Nat.beq pc 771) (some (.invokevirtual 164, 3)) (none))
 (cond (Nat.beq pc 774) (some (.if_icmp .eq 839, 3)) (none))))
 (cond (Nat.blt pc 779)
 (cond (Nat.blt pc 778)
 (cond (Nat.beq pc 777) (some (.iconst 0, 1)) (none))
 (cond (Nat.beq pc 778) (some (.freturn, 1)) (none)))
 (cond (Nat.blt pc 780)
 (cond (Nat.beq pc 779) (some (.aload 1, 1)) (none))
 (cond (Nat.beq pc 780) (some (.aload 0, 1)) (none)))))
 (cond (Nat.blt pc 785)
 (cond (Nat.blt pc 783)
 (cond (Nat.blt pc 782)
 (cond (Nat.beq pc 781) (some (.iload 3, 1)) (none))
 (cond (Nat.beq pc 782) (some (.iconst 1, 1)) (none)))
 (cond (Nat.blt pc 784)
 (cond (Nat.beq pc 783) (some (.iadd, 1)) (none))
 (cond (Nat.beq pc 784) (some (.iaload, 1)) (none))))
 (cond (Nat.blt pc 789)
 (cond (Nat.blt pc 788)
 (cond (Nat.beq pc 785) (some (.invokevirtual 91, 3)) (none))
 (cond (Nat.beq pc 788) (some (.aload 2, 1)) (none)))
 (cond (Nat.blt pc 790)
 (cond (Nat.beq pc 789) (some (.aload 0, 1)) (none))
 (cond (Nat.blt pc 791)
 (cond (Nat.beq pc 790) (some (.iload 3, 1)) (none))
 (cond (Nat.beq pc 791) (some (.iconst 1, 1)) (none))))))))
 (cond (Nat.blt pc 815)
 (cond (Nat.blt pc 804)
 (cond (Nat.blt pc 800)
 (cond (Nat.blt pc 794)
 (cond (Nat.blt pc 793)
 (cond (Nat.beq pc 792) (some (.iadd, 1)) (none))
 (cond (Nat.beq pc 793) (some (.iaload, 1)) (none)))
 (cond (Nat.blt pc 797)
 (cond (Nat.beq pc 794) (some (.invokevirtual 165, 3)) (none))
 (cond (Nat.beq pc 797) (some (.if_icmp .eq 839, 3)) (none))))
 (cond (Nat.blt pc 802)
 (cond (Nat.blt pc 801)
 (cond (Nat.beq pc 800) (some (.iconst 0, 1)) (none))
 (cond (Nat.beq pc 801) (some (.freturn, 1)) (none)))
 (cond (Nat.blt pc 803)
 (cond (Nat.beq pc 802) (some (.aload 1, 1)) (none))
 (cond (Nat.beq pc 803) (some (.aload 0, 1)) (none)))))
 (cond (Nat.blt pc 808)
 (cond (Nat.blt pc 806)
 (cond (Nat.blt pc 805)
 (cond (Nat.beq pc 804) (some (.iload 3, 1)) (none))
 (cond (Nat.beq pc 805) (some (.iconst 1, 1)) (none)))
 (cond (Nat.blt pc 807)
 (cond (Nat.beq pc 806) (some (.iadd, 1)) (none))
 (cond (Nat.beq pc 807) (some (.iaload, 1)) (none))))
 (cond (Nat.blt pc 812)
 (cond (Nat.blt pc 811)
 (cond (Nat.beq pc 808) (some (.invokevirtual 92, 3)) (none))
 (cond (Nat.beq pc 811) (some (.aload 2, 1)) (none)))
 (cond (Nat.blt pc 813)
 (cond (Nat.beq pc 812) (some (.aload 0, 1)) (none))
 (cond (Nat.blt pc 814)
 (cond (Nat.beq pc 813) (some (.iload 3, 1)) (none))
 (cond (Nat.beq pc 814) (some (.iconst 1, 1)) (none)))))))
 (cond (Nat.blt pc 830)
 (cond (Nat.blt pc 823)
 (cond (Nat.blt pc 817)
 (cond (Nat.blt pc 816)
 (cond (Nat.beq pc 815) (some (.iadd, 1)) (none))
 (cond (Nat.beq pc 816) (some (.iaload, 1)) (none)))
 (cond (Nat.blt pc 820)
 (cond (Nat.beq pc 817) (some (.invokevirtual 166, 3)) (none))
 (cond (Nat.beq pc 820) (some (.if_icmp .eq 839, 3)) (none))))
 (cond (Nat.blt pc 825)
 (cond (Nat.blt pc 824)
 (cond (Nat.beq pc 823) (some (.iconst 0, 1)) (none))
 (cond (Nat.beq pc 824) (some (.freturn, 1)) (none)))
 (cond (Nat.blt pc 826)
 (cond (Nat.beq pc 825) (some (.aload 1, 1)) (none))
 (cond (Nat.blt pc 829)
 (cond (Nat.beq pc 826) (some (.invokevirtual 93, 3)) (none))
 (cond (Nat.beq pc 829) (some (.aload 2, 1)) (none))))))
 (cond (Nat.blt pc 838)
 (cond (Nat.blt pc 834)
 (cond (Nat.blt pc 833)
 (cond (Nat.beq pc 830) (some (.invokevirtual 167, 3)) (none))
 (cond (Nat.beq pc 833) (some (.lcmp, 1)) (none)))
 (cond (Nat.blt pc 837)
 (cond (Nat.beq pc 834) (some (.ifCond .eq 839, 3)) (none))
 (cond (Nat.beq pc 837) (some (.iconst 0, 1)) (none))))
 (cond (Nat.blt pc 842)
 (cond (Nat.blt pc 839)
 (cond (Nat.beq pc 838) (some (.freturn, 1)) (none))
 (cond (Nat.beq pc 839) (some (.iinc 3 5, 3)) (none)))
 (cond (Nat.blt pc 845)
 (cond (Nat.beq pc 842) (some (.goto 18, 3)) (none))
 (cond (Nat.blt pc 846)
 (cond (Nat.beq pc 845) (some (.iconst 1, 1)) (none))
 (cond (Nat.beq pc 846) (some (.freturn, 1)) (none)))))))))))
def q_len (mi : Nat) : Nat := cond (Nat.blt mi 85)
 (cond (Nat.blt mi 42)
 (cond (Nat.blt mi 21)
 (cond (Nat.blt mi 10)
 (cond (Nat.blt mi 5)
 (cond (Nat.blt mi 2)
 (cond (Nat.blt mi 1)
 (cond (Nat.beq mi 0) (30) (0))
 (cond (Nat.beq mi 1) (113) (0)))
 (cond (Nat.blt mi 3)
 (cond (Nat.beq mi 2) (81) (0))
 (cond (Nat.blt mi 4)
 (cond (Nat.beq mi 3) (7) (0))
 (cond (Nat.beq mi 4) (43) (0)))))
 (cond (Nat.blt mi 7)
 (cond (Nat.blt mi 6)
 (cond (Nat.beq mi 5) (69) (0))
 (cond (Nat.beq mi 6) (75) (0)))
 (cond (Nat.blt mi 8)
 (cond (Nat.beq mi 7) (21) (0))
 (cond (Nat.blt mi 9)
 (cond (Nat.beq mi 8) (7) (0))
 (cond (Nat.beq mi 9) (7) (0))))))
 (cond (Nat.blt mi 15)
 (cond (Nat.blt mi 12)
 (cond (Nat.blt mi 11)
 (cond (Nat.beq mi 10) (76) (0))
 (cond (Nat.beq mi 11) (56) (0)))
 (cond (Nat.blt mi 13)
 (cond (Nat.beq mi 12) (52) (0))
 (cond (Nat.blt mi 14)
 (cond (Nat.beq mi 13) (47) (0))
 (cond (Nat.beq mi 14) (125) (0)))))
 (cond (Nat.blt mi 18)
 (cond (Nat.blt mi 16)
 (cond (Nat.beq mi 15) (18) (0))
 (cond (Nat.blt mi 17)
 (cond (Nat.beq mi 16) (18) (0))
 (cond (Nat.beq mi 17) (7) (0))))
 (cond (Nat.blt mi 19)
 (cond (Nat.beq mi 18) (11) (0))
 (cond (Nat.blt mi 20)
 (cond (Nat.beq mi 19) (23) (0))
 (cond (Nat.beq mi 20) (25) (0)))))))
 (cond (Nat.blt mi 31)
 (cond (Nat.blt mi 26)
 (cond (Nat.blt mi 23)
 (cond (Nat.blt mi 22)
 (cond (Nat.beq mi 21) (24) (0))
 (cond (Nat.beq mi 22) (174) (0)))
 (cond (Nat.blt mi 24)
 (cond (Nat.beq mi 23) (43) (0))
 (cond (Nat.blt mi 25)
 (cond (Nat.beq mi 24) (75) (0))
 (cond (Nat.beq mi 25) (88) (0)))))
 (cond (Nat.blt mi 28)
 (cond (Nat.blt mi 27)
 (cond (Nat.beq mi 26) (57) (0))
 (cond (Nat.beq mi 27) (23) (0)))
 (cond (Nat.blt mi 29)
 (cond (Nat.beq mi 28) (99) (0))
 (cond (Nat.blt mi 30)
 (cond (Nat.beq mi 29) (62) (0))
 (cond (Nat.beq mi 30) (18) (0))))))
 (cond (Nat.blt mi 36)
 (cond (Nat.blt mi 33)
 (cond (Nat.blt mi 32)
 (cond (Nat.beq mi 31) (93) (0))
 (cond (Nat.beq mi 32) (82) (0)))
 (cond (Nat.blt mi 34)
 (cond (Nat.beq mi 33) (31) (0))
 (cond (Nat.blt mi 35)
 (cond (Nat.beq mi 34) (33) (0))
 (cond (Nat.beq mi 35) (25) (0)))))
 (cond (Nat.blt mi 39)
 (cond (Nat.blt mi 37)
 (cond (Nat.beq mi 36) (75) (0))
 (cond (Nat.blt mi 38)
 (cond (Nat.beq mi 37) (58) (0))
 (cond (Nat.beq mi 38) (137) (0))))
 (cond (Nat.blt mi 40)
 (cond (Nat.beq mi 39) (7) (0))
 (cond (Nat.blt mi 41)
 (cond (Nat.beq mi 40) (231) (0))
 (cond (Nat.beq mi 41) (61) (0))))))))
 (cond (Nat.blt mi 63)
 (cond (Nat.blt mi 52)
 (cond (Nat.blt mi 47)
 (cond (Nat.blt mi 44)
 (cond (Nat.blt mi 43)
 (cond (Nat.beq mi 42) (41) (0))
 (cond (Nat.beq mi 43) (58) (0)))
 (cond (Nat.blt mi 45)
 (cond (Nat.beq mi 44) (76) (0))
 (cond (Nat.blt mi 46)
 (cond (Nat.beq mi 45) (15) (0))
 (cond (Nat.beq mi 46) (28) (0)))))
 (cond (Nat.blt mi 49)
 (cond (Nat.blt mi 48)
 (cond (Nat.beq mi 47) (59) (0))
 (cond (Nat.beq mi 48) (40) (0)))
 (cond (Nat.blt mi 50)
 (cond (Nat.beq mi 49) (117) (0))
 (cond (Nat.blt mi 51)
 (cond (Nat.beq mi 50) (135) (0))
 (cond (Nat.beq mi 51) (28) (0))))))
 (cond (Nat.blt mi 57)
 (cond (Nat.blt mi 54)
 (cond (Nat.blt mi 53)
 (cond (Nat.beq mi 52) (45) (0))
 (cond (Nat.beq mi 53) (18) (0)))
 (cond (Nat.blt mi 55)
 (cond (Nat.beq mi 54) (24) (0))
 (cond (Nat.blt mi 56)
 (cond (Nat.beq mi 55) (46) (0))
 (cond (Nat.beq mi 56) (181) (0)))))
 (cond (Nat.blt mi 60)
 (cond (Nat.blt mi 58)
 (cond (Nat.beq mi 57) (18) (0))
 (cond (Nat.blt mi 59)
 (cond (Nat.beq mi 58) (40) (0))
 (cond (Nat.beq mi 59) (8) (0))))
 (cond (Nat.blt mi 61)
 (cond (Nat.beq mi 60) (139) (0))
 (cond (Nat.blt mi 62)
 (cond (Nat.beq mi 61) (34) (0))
 (cond (Nat.beq mi 62) (16) (0)))))))
 (cond (Nat.blt mi 74)
 (cond (Nat.blt mi 68)
 (cond (Nat.blt mi 65)
 (cond (Nat.blt mi 64)
 (cond (Nat.beq mi 63) (37) (0))
 (cond (Nat.beq mi 64) (93) (0)))
 (cond (Nat.blt mi 66)
 (cond (Nat.beq mi 65) (46) (0))
 (cond (Nat.blt mi 67)
 (cond (Nat.beq mi 66) (109) (0))
 (cond (Nat.beq mi 67) (67) (0)))))
 (cond (Nat.blt mi 71)
 (cond (Nat.blt mi 69)
 (cond (Nat.beq mi 68) (18) (0))
 (cond (Nat.blt mi 70)
 (cond (Nat.beq mi 69) (87) (0))
 (cond (Nat.beq mi 70) (34) (0))))
 (cond (Nat.blt mi 72)
 (cond (Nat.beq mi 71) (34) (0))
 (cond (Nat.blt mi 73)
 (cond (Nat.beq mi 72) (23) (0))
 (cond (Nat.beq mi 73) (23) (0))))))
 (cond (Nat.blt mi 79)
 (cond (Nat.blt mi 76)
 (cond (Nat.blt mi 75)
 (cond (Nat.beq mi 74) (106) (0))
 (cond (Nat.beq mi 75) (99) (0)))
 (cond (Nat.blt mi 77)
 (cond (Nat.beq mi 76) (76) (0))
 (cond (Nat.blt mi 78)
 (cond (Nat.beq mi 77) (50) (0))
 (cond (Nat.beq mi 78) (90) (0)))))
 (cond (Nat.blt mi 82)
 (cond (Nat.blt mi 80)
 (cond (Nat.beq mi 79) (69) (0))
 (cond (Nat.blt mi 81)
 (cond (Nat.beq mi 80) (17) (0))
 (cond (Nat.beq mi 81) (44) (0))))
 (cond (Nat.blt mi 83)
 (cond (Nat.beq mi 82) (66) (0))
 (cond (Nat.blt mi 84)
 (cond (Nat.beq mi 83) (45) (0))
 (cond (Nat.beq mi 84) (46) (0)))))))))
 (cond (Nat.blt mi 128)
 (cond (Nat.blt mi 106)
 (cond (Nat.blt mi 95)
 (cond (Nat.blt mi 90)
 (cond (Nat.blt mi 87)
 (cond (Nat.blt mi 86)
 (cond (Nat.beq mi 85) (30) (0))
 (cond (Nat.beq mi 86) (44) (0)))
 (cond (Nat.blt mi 88)
 (cond (Nat.beq mi 87) (81) (0))
 (cond (Nat.blt mi 89)
 (cond (Nat.beq mi 88) (98) (0))
 (cond (Nat.beq mi 89) (32) (0)))))
 (cond (Nat.blt mi 92)
 (cond (Nat.blt mi 91)
 (cond (Nat.beq mi 90) (38) (0))
 (cond (Nat.beq mi 91) (69) (0)))
 (cond (Nat.blt mi 93)
 (cond (Nat.beq mi 92) (114) (0))
 (cond (Nat.blt mi 94)
 (cond (Nat.beq mi 93) (5) (0))
 (cond (Nat.beq mi 94) (16) (0))))))
 (cond (Nat.blt mi 100)
 (cond (Nat.blt mi 97)
 (cond (Nat.blt mi 96)
 (cond (Nat.beq mi 95) (28) (0))
 (cond (Nat.beq mi 96) (40) (0)))
 (cond (Nat.blt mi 98)
 (cond (Nat.beq mi 97) (32) (0))
 (cond (Nat.blt mi 99)
 (cond (Nat.beq mi 98) (36) (0))
 (cond (Nat.beq mi 99) (39) (0)))))
 (cond (Nat.blt mi 103)
 (cond (Nat.blt mi 101)
 (cond (Nat.beq mi 100) (72) (0))
 (cond (Nat.blt mi 102)
 (cond (Nat.beq mi 101) (29) (0))
 (cond (Nat.beq mi 102) (142) (0))))
 (cond (Nat.blt mi 104)
 (cond (Nat.beq mi 103) (120) (0))
 (cond (Nat.blt mi 105)
 (cond (Nat.beq mi 104) (16) (0))
 (cond (Nat.beq mi 105) (14) (0)))))))
 (cond (Nat.blt mi 117)
 (cond (Nat.blt mi 111)
 (cond (Nat.blt mi 108)
 (cond (Nat.blt mi 107)
 (cond (Nat.beq mi 106) (14) (0))
 (cond (Nat.beq mi 107) (14) (0)))
 (cond (Nat.blt mi 109)
 (cond (Nat.beq mi 108) (51) (0))
 (cond (Nat.blt mi 110)
 (cond (Nat.beq mi 109) (12) (0))
 (cond (Nat.beq mi 110) (19) (0)))))
 (cond (Nat.blt mi 114)
 (cond (Nat.blt mi 112)
 (cond (Nat.beq mi 111) (54) (0))
 (cond (Nat.blt mi 113)
 (cond (Nat.beq mi 112) (9) (0))
 (cond (Nat.beq mi 113) (217) (0))))
 (cond (Nat.blt mi 115)
 (cond (Nat.beq mi 114) (26) (0))
 (cond (Nat.blt mi 116)
 (cond (Nat.beq mi 115) (71) (0))
 (cond (Nat.beq mi 116) (72) (0))))))
 (cond (Nat.blt mi 122)
 (cond (Nat.blt mi 119)
 (cond (Nat.blt mi 118)
 (cond (Nat.beq mi 117) (61) (0))
 (cond (Nat.beq mi 118) (31) (0)))
 (cond (Nat.blt mi 120)
 (cond (Nat.beq mi 119) (43) (0))
 (cond (Nat.blt mi 121)
 (cond (Nat.beq mi 120) (35) (0))
 (cond (Nat.beq mi 121) (108) (0)))))
 (cond (Nat.blt mi 125)
 (cond (Nat.blt mi 123)
 (cond (Nat.beq mi 122) (251) (0))
 (cond (Nat.blt mi 124)
 (cond (Nat.beq mi 123) (88) (0))
 (cond (Nat.beq mi 124) (266) (0))))
 (cond (Nat.blt mi 126)
 (cond (Nat.beq mi 125) (32) (0))
 (cond (Nat.blt mi 127)
 (cond (Nat.beq mi 126) (35) (0))
 (cond (Nat.beq mi 127) (32) (0))))))))
 (cond (Nat.blt mi 149)
 (cond (Nat.blt mi 138)
 (cond (Nat.blt mi 133)
 (cond (Nat.blt mi 130)
 (cond (Nat.blt mi 129)
 (cond (Nat.beq mi 128) (27) (0))
 (cond (Nat.beq mi 129) (22) (0)))
 (cond (Nat.blt mi 131)
 (cond (Nat.beq mi 130) (22) (0))
 (cond (Nat.blt mi 132)
 (cond (Nat.beq mi 131) (71) (0))
 (cond (Nat.beq mi 132) (99) (0)))))
 (cond (Nat.blt mi 135)
 (cond (Nat.blt mi 134)
 (cond (Nat.beq mi 133) (21) (0))
 (cond (Nat.beq mi 134) (33) (0)))
 (cond (Nat.blt mi 136)
 (cond (Nat.beq mi 135) (101) (0))
 (cond (Nat.blt mi 137)
 (cond (Nat.beq mi 136) (94) (0))
 (cond (Nat.beq mi 137) (68) (0))))))
 (cond (Nat.blt mi 143)
 (cond (Nat.blt mi 140)
 (cond (Nat.blt mi 139)
 (cond (Nat.beq mi 138) (225) (0))
 (cond (Nat.beq mi 139) (47) (0)))
 (cond (Nat.blt mi 141)
 (cond (Nat.beq mi 140) (59) (0))
 (cond (Nat.blt mi 142)
 (cond (Nat.beq mi 141) (43) (0))
 (cond (Nat.beq mi 142) (26) (0)))))
 (cond (Nat.blt mi 146)
 (cond (Nat.blt mi 144)
 (cond (Nat.beq mi 143) (63) (0))
 (cond (Nat.blt mi 145)
 (cond (Nat.beq mi 144) (142) (0))
 (cond (Nat.beq mi 145) (53) (0))))
 (cond (Nat.blt mi 147)
 (cond (Nat.beq mi 146) (46) (0))
 (cond (Nat.blt mi 148)
 (cond (Nat.beq mi 147) (53) (0))
 (cond (Nat.beq mi 148) (119) (0)))))))
 (cond (Nat.blt mi 160)
 (cond (Nat.blt mi 154)
 (cond (Nat.blt mi 151)
 (cond (Nat.blt mi 150)
 (cond (Nat.beq mi 149) (99) (0))
 (cond (Nat.beq mi 150) (29) (0)))
 (cond (Nat.blt mi 152)
 (cond (Nat.beq mi 151) (40) (0))
 (cond (Nat.blt mi 153)
 (cond (Nat.beq mi 152) (177) (0))
 (cond (Nat.beq mi 153) (152) (0)))))
 (cond (Nat.blt mi 157)
 (cond (Nat.blt mi 155)
 (cond (Nat.beq mi 154) (42) (0))
 (cond (Nat.blt mi 156)
 (cond (Nat.beq mi 155) (51) (0))
 (cond (Nat.beq mi 156) (136) (0))))
 (cond (Nat.blt mi 158)
 (cond (Nat.beq mi 157) (180) (0))
 (cond (Nat.blt mi 159)
 (cond (Nat.beq mi 158) (72) (0))
 (cond (Nat.beq mi 159) (5) (0))))))
 (cond (Nat.blt mi 165)
 (cond (Nat.blt mi 162)
 (cond (Nat.blt mi 161)
 (cond (Nat.beq mi 160) (56) (0))
 (cond (Nat.beq mi 161) (174) (0)))
 (cond (Nat.blt mi 163)
 (cond (Nat.beq mi 162) (126) (0))
 (cond (Nat.blt mi 164)
 (cond (Nat.beq mi 163) (261) (0))
 (cond (Nat.beq mi 164) (56) (0)))))
 (cond (Nat.blt mi 168)
 (cond (Nat.blt mi 166)
 (cond (Nat.beq mi 165) (66) (0))
 (cond (Nat.blt mi 167)
 (cond (Nat.beq mi 166) (61) (0))
 (cond (Nat.beq mi 167) (5) (0))))
 (cond (Nat.blt mi 169)
 (cond (Nat.beq mi 168) (53) (0))
 (cond (Nat.blt mi 170)
 (cond (Nat.beq mi 169) (21) (0))
 (cond (Nat.beq mi 170) (847) (0)))))))))
def q_lg (mi : Nat) : Bool := Nat.beq mi 88 || Nat.beq mi 162
noncomputable def q_code (mi pc : Nat) : Option (Instr × Nat) := cond (Nat.blt mi 171 && Nat.blt pc (q_len mi)) (cond (Nat.blt mi 85)
 (cond (Nat.blt mi 42)
 (cond (Nat.blt mi 21)
 (cond (Nat.blt mi 10)
 (cond (Nat.blt mi 5)
 (cond (Nat.blt mi 2)
 (cond (Nat.blt mi 1)
 (cond (Nat.beq mi 0) (qc_0 pc) (none))
 (cond (Nat.beq mi 1) (qc_1 pc) (none)))
 (cond (Nat.blt mi 3)
 (cond (Nat.beq mi 2) (qc_2 pc) (none))
 (cond (Nat.blt mi 4)
 (cond (Nat.beq mi 3) (qc_3 pc) (none))
 (cond (Nat.beq mi 4) (qc_4 pc) (none)))))
 (cond (Nat.blt mi 7)
 (cond (Nat.blt mi 6)
 (cond (Nat.beq mi 5) (qc_5 pc) (none))
 (cond (Nat.beq mi 6) (qc_6 pc) (none)))
 (cond (Nat.blt mi 8)
 (cond (Nat.beq mi 7) (qc_7 pc) (none))
 (cond (Nat.blt mi 9)
 (cond (Nat.beq mi 8) (qc_8 pc) (none))
 (cond (Nat.beq mi 9) (qc_9 pc) (none))))))
 (cond (Nat.blt mi 15)
 (cond (Nat.blt mi 12)
 (cond (Nat.blt mi 11)
 (cond (Nat.beq mi 10) (qc_10 pc) (none))
 (cond (Nat.beq mi 11) (qc_11 pc) (none)))
 (cond (Nat.blt mi 13)
 (cond (Nat.beq mi 12) (qc_12 pc) (none))
 (cond (Nat.blt mi 14)
 (cond (Nat.beq mi 13) (qc_13 pc) (none))
 (cond (Nat.beq mi 14) (qc_14 pc) (none)))))
 (cond (Nat.blt mi 18)
 (cond (Nat.blt mi 16)
 (cond (Nat.beq mi 15) (qc_15 pc) (none))
 (cond (Nat.blt mi 17)
 (cond (Nat.beq mi 16) (qc_16 pc) (none))
 (cond (Nat.beq mi 17) (qc_17 pc) (none))))
 (cond (Nat.blt mi 19)
 (cond (Nat.beq mi 18) (qc_18 pc) (none))
 (cond (Nat.blt mi 20)
 (cond (Nat.beq mi 19) (qc_19 pc) (none))
 (cond (Nat.beq mi 20) (qc_20 pc) (none)))))))
 (cond (Nat.blt mi 31)
 (cond (Nat.blt mi 26)
 (cond (Nat.blt mi 23)
 (cond (Nat.blt mi 22)
 (cond (Nat.beq mi 21) (qc_21 pc) (none))
 (cond (Nat.beq mi 22) (qc_22 pc) (none)))
 (cond (Nat.blt mi 24)
 (cond (Nat.beq mi 23) (qc_23 pc) (none))
 (cond (Nat.blt mi 25)
 (cond (Nat.beq mi 24) (qc_24 pc) (none))
 (cond (Nat.beq mi 25) (qc_25 pc) (none)))))
 (cond (Nat.blt mi 28)
 (cond (Nat.blt mi 27)
 (cond (Nat.beq mi 26) (qc_26 pc) (none))
 (cond (Nat.beq mi 27) (qc_27 pc) (none)))
 (cond (Nat.blt mi 29)
 (cond (Nat.beq mi 28) (qc_28 pc) (none))
 (cond (Nat.blt mi 30)
 (cond (Nat.beq mi 29) (qc_29 pc) (none))
 (cond (Nat.beq mi 30) (qc_30 pc) (none))))))
 (cond (Nat.blt mi 36)
 (cond (Nat.blt mi 33)
 (cond (Nat.blt mi 32)
 (cond (Nat.beq mi 31) (qc_31 pc) (none))
 (cond (Nat.beq mi 32) (qc_32 pc) (none)))
 (cond (Nat.blt mi 34)
 (cond (Nat.beq mi 33) (qc_33 pc) (none))
 (cond (Nat.blt mi 35)
 (cond (Nat.beq mi 34) (qc_34 pc) (none))
 (cond (Nat.beq mi 35) (qc_35 pc) (none)))))
 (cond (Nat.blt mi 39)
 (cond (Nat.blt mi 37)
 (cond (Nat.beq mi 36) (qc_36 pc) (none))
 (cond (Nat.blt mi 38)
 (cond (Nat.beq mi 37) (qc_37 pc) (none))
 (cond (Nat.beq mi 38) (qc_38 pc) (none))))
 (cond (Nat.blt mi 40)
 (cond (Nat.beq mi 39) (qc_39 pc) (none))
 (cond (Nat.blt mi 41)
 (cond (Nat.beq mi 40) (qc_40 pc) (none))
 (cond (Nat.beq mi 41) (qc_41 pc) (none))))))))
 (cond (Nat.blt mi 63)
 (cond (Nat.blt mi 52)
 (cond (Nat.blt mi 47)
 (cond (Nat.blt mi 44)
 (cond (Nat.blt mi 43)
 (cond (Nat.beq mi 42) (qc_42 pc) (none))
 (cond (Nat.beq mi 43) (qc_43 pc) (none)))
 (cond (Nat.blt mi 45)
 (cond (Nat.beq mi 44) (qc_44 pc) (none))
 (cond (Nat.blt mi 46)
 (cond (Nat.beq mi 45) (qc_45 pc) (none))
 (cond (Nat.beq mi 46) (qc_46 pc) (none)))))
 (cond (Nat.blt mi 49)
 (cond (Nat.blt mi 48)
 (cond (Nat.beq mi 47) (qc_47 pc) (none))
 (cond (Nat.beq mi 48) (qc_48 pc) (none)))
 (cond (Nat.blt mi 50)
 (cond (Nat.beq mi 49) (qc_49 pc) (none))
 (cond (Nat.blt mi 51)
 (cond (Nat.beq mi 50) (qc_50 pc) (none))
 (cond (Nat.beq mi 51) (qc_51 pc) (none))))))
 (cond (Nat.blt mi 57)
 (cond (Nat.blt mi 54)
 (cond (Nat.blt mi 53)
 (cond (Nat.beq mi 52) (qc_52 pc) (none))
 (cond (Nat.beq mi 53) (qc_53 pc) (none)))
 (cond (Nat.blt mi 55)
 (cond (Nat.beq mi 54) (qc_54 pc) (none))
 (cond (Nat.blt mi 56)
 (cond (Nat.beq mi 55) (qc_55 pc) (none))
 (cond (Nat.beq mi 56) (qc_56 pc) (none)))))
 (cond (Nat.blt mi 60)
 (cond (Nat.blt mi 58)
 (cond (Nat.beq mi 57) (qc_57 pc) (none))
 (cond (Nat.blt mi 59)
 (cond (Nat.beq mi 58) (qc_58 pc) (none))
 (cond (Nat.beq mi 59) (qc_59 pc) (none))))
 (cond (Nat.blt mi 61)
 (cond (Nat.beq mi 60) (qc_60 pc) (none))
 (cond (Nat.blt mi 62)
 (cond (Nat.beq mi 61) (qc_61 pc) (none))
 (cond (Nat.beq mi 62) (qc_62 pc) (none)))))))
 (cond (Nat.blt mi 74)
 (cond (Nat.blt mi 68)
 (cond (Nat.blt mi 65)
 (cond (Nat.blt mi 64)
 (cond (Nat.beq mi 63) (qc_63 pc) (none))
 (cond (Nat.beq mi 64) (qc_64 pc) (none)))
 (cond (Nat.blt mi 66)
 (cond (Nat.beq mi 65) (qc_65 pc) (none))
 (cond (Nat.blt mi 67)
 (cond (Nat.beq mi 66) (qc_66 pc) (none))
 (cond (Nat.beq mi 67) (qc_67 pc) (none)))))
 (cond (Nat.blt mi 71)
 (cond (Nat.blt mi 69)
 (cond (Nat.beq mi 68) (qc_68 pc) (none))
 (cond (Nat.blt mi 70)
 (cond (Nat.beq mi 69) (qc_69 pc) (none))
 (cond (Nat.beq mi 70) (qc_70 pc) (none))))
 (cond (Nat.blt mi 72)
 (cond (Nat.beq mi 71) (qc_71 pc) (none))
 (cond (Nat.blt mi 73)
 (cond (Nat.beq mi 72) (qc_72 pc) (none))
 (cond (Nat.beq mi 73) (qc_73 pc) (none))))))
 (cond (Nat.blt mi 79)
 (cond (Nat.blt mi 76)
 (cond (Nat.blt mi 75)
 (cond (Nat.beq mi 74) (qc_74 pc) (none))
 (cond (Nat.beq mi 75) (qc_75 pc) (none)))
 (cond (Nat.blt mi 77)
 (cond (Nat.beq mi 76) (qc_76 pc) (none))
 (cond (Nat.blt mi 78)
 (cond (Nat.beq mi 77) (qc_77 pc) (none))
 (cond (Nat.beq mi 78) (qc_78 pc) (none)))))
 (cond (Nat.blt mi 82)
 (cond (Nat.blt mi 80)
 (cond (Nat.beq mi 79) (qc_79 pc) (none))
 (cond (Nat.blt mi 81)
 (cond (Nat.beq mi 80) (qc_80 pc) (none))
 (cond (Nat.beq mi 81) (qc_81 pc) (none))))
 (cond (Nat.blt mi 83)
 (cond (Nat.beq mi 82) (qc_82 pc) (none))
 (cond (Nat.blt mi 84)
 (cond (Nat.beq mi 83) (qc_83 pc) (none))
 (cond (Nat.beq mi 84) (qc_84 pc) (none)))))))))
 (cond (Nat.blt mi 128)
 (cond (Nat.blt mi 106)
 (cond (Nat.blt mi 95)
 (cond (Nat.blt mi 90)
 (cond (Nat.blt mi 87)
 (cond (Nat.blt mi 86)
 (cond (Nat.beq mi 85) (qc_85 pc) (none))
 (cond (Nat.beq mi 86) (qc_86 pc) (none)))
 (cond (Nat.blt mi 88)
 (cond (Nat.beq mi 87) (qc_87 pc) (none))
 (cond (Nat.blt mi 89)
 (cond (Nat.beq mi 88) (qc_88 pc) (none))
 (cond (Nat.beq mi 89) (qc_89 pc) (none)))))
 (cond (Nat.blt mi 92)
 (cond (Nat.blt mi 91)
 (cond (Nat.beq mi 90) (qc_90 pc) (none))
 (cond (Nat.beq mi 91) (qc_91 pc) (none)))
 (cond (Nat.blt mi 93)
 (cond (Nat.beq mi 92) (qc_92 pc) (none))
 (cond (Nat.blt mi 94)
 (cond (Nat.beq mi 93) (qc_93 pc) (none))
 (cond (Nat.beq mi 94) (qc_94 pc) (none))))))
 (cond (Nat.blt mi 100)
 (cond (Nat.blt mi 97)
 (cond (Nat.blt mi 96)
 (cond (Nat.beq mi 95) (qc_95 pc) (none))
 (cond (Nat.beq mi 96) (qc_96 pc) (none)))
 (cond (Nat.blt mi 98)
 (cond (Nat.beq mi 97) (qc_97 pc) (none))
 (cond (Nat.blt mi 99)
 (cond (Nat.beq mi 98) (qc_98 pc) (none))
 (cond (Nat.beq mi 99) (qc_99 pc) (none)))))
 (cond (Nat.blt mi 103)
 (cond (Nat.blt mi 101)
 (cond (Nat.beq mi 100) (qc_100 pc) (none))
 (cond (Nat.blt mi 102)
 (cond (Nat.beq mi 101) (qc_101 pc) (none))
 (cond (Nat.beq mi 102) (qc_102 pc) (none))))
 (cond (Nat.blt mi 104)
 (cond (Nat.beq mi 103) (qc_103 pc) (none))
 (cond (Nat.blt mi 105)
 (cond (Nat.beq mi 104) (qc_104 pc) (none))
 (cond (Nat.beq mi 105) (qc_105 pc) (none)))))))
 (cond (Nat.blt mi 117)
 (cond (Nat.blt mi 111)
 (cond (Nat.blt mi 108)
 (cond (Nat.blt mi 107)
 (cond (Nat.beq mi 106) (qc_106 pc) (none))
 (cond (Nat.beq mi 107) (qc_107 pc) (none)))
 (cond (Nat.blt mi 109)
 (cond (Nat.beq mi 108) (qc_108 pc) (none))
 (cond (Nat.blt mi 110)
 (cond (Nat.beq mi 109) (qc_109 pc) (none))
 (cond (Nat.beq mi 110) (qc_110 pc) (none)))))
 (cond (Nat.blt mi 114)
 (cond (Nat.blt mi 112)
 (cond (Nat.beq mi 111) (qc_111 pc) (none))
 (cond (Nat.blt mi 113)
 (cond (Nat.beq mi 112) (qc_112 pc) (none))
 (cond (Nat.beq mi 113) (qc_113 pc) (none))))
 (cond (Nat.blt mi 115)
 (cond (Nat.beq mi 114) (qc_114 pc) (none))
 (cond (Nat.blt mi 116)
 (cond (Nat.beq mi 115) (qc_115 pc) (none))
 (cond (Nat.beq mi 116) (qc_116 pc) (none))))))
 (cond (Nat.blt mi 122)
 (cond (Nat.blt mi 119)
 (cond (Nat.blt mi 118)
 (cond (Nat.beq mi 117) (qc_117 pc) (none))
 (cond (Nat.beq mi 118) (qc_118 pc) (none)))
 (cond (Nat.blt mi 120)
 (cond (Nat.beq mi 119) (qc_119 pc) (none))
 (cond (Nat.blt mi 121)
 (cond (Nat.beq mi 120) (qc_120 pc) (none))
 (cond (Nat.beq mi 121) (qc_121 pc) (none)))))
 (cond (Nat.blt mi 125)
 (cond (Nat.blt mi 123)
 (cond (Nat.beq mi 122) (qc_122 pc) (none))
 (cond (Nat.blt mi 124)
 (cond (Nat.beq mi 123) (qc_123 pc) (none))
 (cond (Nat.beq mi 124) (qc_124 pc) (none))))
 (cond (Nat.blt mi 126)
 (cond (Nat.beq mi 125) (qc_125 pc) (none))
 (cond (Nat.blt mi 127)
 (cond (Nat.beq mi 126) (qc_126 pc) (none))
 (cond (Nat.beq mi 127) (qc_127 pc) (none))))))))
 (cond (Nat.blt mi 149)
 (cond (Nat.blt mi 138)
 (cond (Nat.blt mi 133)
 (cond (Nat.blt mi 130)
 (cond (Nat.blt mi 129)
 (cond (Nat.beq mi 128) (qc_128 pc) (none))
 (cond (Nat.beq mi 129) (qc_129 pc) (none)))
 (cond (Nat.blt mi 131)
 (cond (Nat.beq mi 130) (qc_130 pc) (none))
 (cond (Nat.blt mi 132)
 (cond (Nat.beq mi 131) (qc_131 pc) (none))
 (cond (Nat.beq mi 132) (qc_132 pc) (none)))))
 (cond (Nat.blt mi 135)
 (cond (Nat.blt mi 134)
 (cond (Nat.beq mi 133) (qc_133 pc) (none))
 (cond (Nat.beq mi 134) (qc_134 pc) (none)))
 (cond (Nat.blt mi 136)
 (cond (Nat.beq mi 135) (qc_135 pc) (none))
 (cond (Nat.blt mi 137)
 (cond (Nat.beq mi 136) (qc_136 pc) (none))
 (cond (Nat.beq mi 137) (qc_137 pc) (none))))))
 (cond (Nat.blt mi 143)
 (cond (Nat.blt mi 140)
 (cond (Nat.blt mi 139)
 (cond (Nat.beq mi 138) (qc_138 pc) (none))
 (cond (Nat.beq mi 139) (qc_139 pc) (none)))
 (cond (Nat.blt mi 141)
 (cond (Nat.beq mi 140) (qc_140 pc) (none))
 (cond (Nat.blt mi 142)
 (cond (Nat.beq mi 141) (qc_141 pc) (none))
 (cond (Nat.beq mi 142) (qc_142 pc) (none)))))
 (cond (Nat.blt mi 146)
 (cond (Nat.blt mi 144)
 (cond (Nat.beq mi 143) (qc_143 pc) (none))
 (cond (Nat.blt mi 145)
 (cond (Nat.beq mi 144) (qc_144 pc) (none))
 (cond (Nat.beq mi 145) (qc_145 pc) (none))))
 (cond (Nat.blt mi 147)
 (cond (Nat.beq mi 146) (qc_146 pc) (none))
 (cond (Nat.blt mi 148)
 (cond (Nat.beq mi 147) (qc_147 pc) (none))
 (cond (Nat.beq mi 148) (qc_148 pc) (none)))))))
 (cond (Nat.blt mi 160)
 (cond (Nat.blt mi 154)
 (cond (Nat.blt mi 151)
 (cond (Nat.blt mi 150)
 (cond (Nat.beq mi 149) (qc_149 pc) (none))
 (cond (Nat.beq mi 150) (qc_150 pc) (none)))
 (cond (Nat.blt mi 152)
 (cond (Nat.beq mi 151) (qc_151 pc) (none))
 (cond (Nat.blt mi 153)
 (cond (Nat.beq mi 152) (qc_152 pc) (none))
 (cond (Nat.beq mi 153) (qc_153 pc) (none)))))
 (cond (Nat.blt mi 157)
 (cond (Nat.blt mi 155)
 (cond (Nat.beq mi 154) (qc_154 pc) (none))
 (cond (Nat.blt mi 156)
 (cond (Nat.beq mi 155) (qc_155 pc) (none))
 (cond (Nat.beq mi 156) (qc_156 pc) (none))))
 (cond (Nat.blt mi 158)
 (cond (Nat.beq mi 157) (qc_157 pc) (none))
 (cond (Nat.blt mi 159)
 (cond (Nat.beq mi 158) (qc_158 pc) (none))
 (cond (Nat.beq mi 159) (qc_159 pc) (none))))))
 (cond (Nat.blt mi 165)
 (cond (Nat.blt mi 162)
 (cond (Nat.blt mi 161)
 (cond (Nat.beq mi 160) (qc_160 pc) (none))
 (cond (Nat.beq mi 161) (qc_161 pc) (none)))
 (cond (Nat.blt mi 163)
 (cond (Nat.beq mi 162) (qc_162 pc) (none))
 (cond (Nat.blt mi 164)
 (cond (Nat.beq mi 163) (qc_163 pc) (none))
 (cond (Nat.beq mi 164) (qc_164 pc) (none)))))
 (cond (Nat.blt mi 168)
 (cond (Nat.blt mi 166)
 (cond (Nat.beq mi 165) (qc_165 pc) (none))
 (cond (Nat.blt mi 167)
 (cond (Nat.beq mi 166) (qc_166 pc) (none))
 (cond (Nat.beq mi 167) (qc_167 pc) (none))))
 (cond (Nat.blt mi 169)
 (cond (Nat.beq mi 168) (qc_168 pc) (none))
 (cond (Nat.blt mi 170)
 (cond (Nat.beq mi 169) (qc_169 pc) (none))
 (cond (Nat.beq mi 170) (qc_170 pc) (none)))))))))) none
def q_fl : List (Nat × Nat × Nat × Nat) := [(0, 9, 2, 325), (0, 15, 3, 326), (0, 19, 4, 327), (0, 22, 201, 119), (0, 28, 0, 323), (0, 29, 500, 270), (0, 34, 1, 324), (0, 37, 502, 277), (0, 48, 503, 280), (1, 9, 101, 254), (1, 15, 102, 255), (1, 22, 100, 252), (1, 37, 306, 226), (2, 9, 206, 137), (2, 15, 207, 138), (2, 18, 208, 139), (2, 21, 209, 141), (2, 24, 210, 144), (2, 33, 200, 115), (2, 37, 201, 120), (2, 40, 202, 123), (2, 43, 203, 127), (2, 46, 204, 130), (2, 49, 205, 134), (3, 9, 302, 216), (3, 15, 303, 218), (3, 18, 304, 220), (3, 21, 305, 222), (3, 24, 306, 224), (3, 27, 307, 227), (3, 33, 301, 214), (4, 9, 400, 172), (4, 18, 402, 176), (4, 25, 407, 182), (4, 29, 406, 181), (4, 35, 403, 178), (4, 42, 405, 180), (4, 57, 201, 121), (4, 64, 200, 117), (4, 77, 203, 128), (4, 80, 204, 132), (4, 83, 205, 135), (4, 104, 209, 143), (4, 108, 210, 146), (4, 111, 202, 125), (4, 117, 404, 179), (4, 126, 401, 175), (5, 9, 501, 273), (5, 15, 502, 276), (5, 18, 503, 279), (5, 21, 504, 281), (5, 24, 505, 283), (5, 27, 500, 269), (5, 31, 202, 124), (5, 36, 210, 145), (5, 47, 204, 131), (6, 12, 602, 309), (6, 18, 600, 305), (6, 22, 601, 307), (6, 25, 500, 271), (6, 39, 501, 274), (6, 43, 200, 116), (7, 10, 700, 340), (7, 19, 701, 341), (7, 26, 702, 342), (7, 30, 703, 343), (7, 33, 704, 344), (7, 39, 705, 345), (7, 46, 706, 346), (7, 53, 707, 347), (7, 60, 708, 348), (7, 64, 709, 349), (7, 68, 401, 174), (7, 72, 400, 173), (7, 80, 402, 177), (7, 90, 300, 213), (7, 94, 100, 253), (7, 97, 306, 225), (7, 116, 208, 140), (7, 122, 209, 142), (7, 128, 501, 275), (7, 131, 502, 278), (7, 141, 307, 228), (7, 148, 301, 215), (7, 169, 302, 217), (7, 172, 303, 219), (7, 175, 304, 221), (7, 178, 305, 223), (7, 196, 504, 282), (7, 203, 600, 306), (7, 206, 601, 308), (7, 219, 201, 122), (7, 233, 500, 272), (7, 248, 200, 118), (7, 251, 202, 126), (7, 254, 203, 129), (7, 257, 204, 133), (7, 260, 205, 136), (8, 7, 801, 830), (8, 13, 803, 832), (8, 16, 804, 833), (8, 19, 805, 834), (8, 22, 806, 835), (8, 25, 808, 837), (8, 28, 809, 838), (8, 32, 810, 839), (8, 35, 815, 844), (8, 38, 816, 845), (8, 41, 818, 847), (8, 44, 819, 848), (8, 47, 820, 849), (8, 61, 802, 831), (8, 65, 811, 840), (8, 72, 813, 842), (8, 82, 812, 841), (8, 85, 814, 843), (8, 120, 807, 836), (8, 161, 817, 846), (8, 196, 800, 829)]
def q_fs : List (Nat × Nat × Nat × Nat) := [(7, 272, 1001, 725), (7, 275, 1002, 727)]
def q_mk : List (Nat × Nat × Nat × Nat) := [(0, 3, 901, 322), (0, 40, 25, 671), (0, 44, 2, 675), (0, 51, 5, 683), (0, 55, 169, 687), (0, 61, 6, 688), (1, 3, 901, 251), (1, 18, 10, 547), (1, 26, 900, 551), (1, 32, 30, 572), (2, 3, 901, 96), (2, 27, 13, 97), (2, 30, 22, 104), (2, 52, 169, 101), (2, 58, 900, 467), (2, 64, 17, 108), (2, 69, 902, 112), (3, 3, 901, 207), (3, 30, 27, 208), (3, 37, 169, 212), (3, 43, 900, 749), (4, 3, 901, 90), (4, 17, 12, 93), (4, 22, 13, 387), (4, 32, 49, 388), (4, 38, 37, 400), (4, 45, 38, 404), (4, 49, 39, 408), (4, 53, 40, 411), (4, 60, 48, 415), (4, 67, 41, 419), (4, 71, 42, 435), (4, 74, 43, 443), (4, 86, 44, 447), (4, 89, 45, 423), (4, 93, 46, 427), (4, 96, 19, 431), (4, 100, 20, 439), (4, 114, 47, 451), (4, 120, 15, 455), (4, 123, 18, 459), (4, 129, 51, 392), (4, 132, 50, 396), (5, 3, 901, 268), (5, 39, 56, 475), (5, 43, 18, 479), (5, 50, 21, 480), (5, 53, 59, 626), (5, 57, 60, 614), (6, 3, 901, 302), (6, 28, 56, 635), (6, 32, 64, 636), (6, 36, 65, 640), (6, 48, 18, 650), (6, 52, 57, 651), (6, 55, 59, 644), (6, 59, 58, 645), (6, 63, 61, 646), (7, 1, 901, 82), (7, 18, 12, 201), (7, 25, 26, 204), (7, 76, 36, 383), (7, 83, 14, 463), (7, 87, 27, 470), (7, 101, 55, 471), (7, 105, 15, 488), (7, 109, 18, 489), (7, 113, 21, 494), (7, 119, 16, 503), (7, 125, 53, 511), (7, 134, 95, 515), (7, 138, 96, 523), (7, 144, 100, 531), (7, 151, 29, 539), (7, 155, 8, 543), (7, 158, 9, 556), (7, 162, 54, 560), (7, 165, 11, 568), (7, 181, 97, 584), (7, 184, 98, 588), (7, 187, 99, 598), (7, 190, 59, 610), (7, 193, 58, 622), (7, 199, 63, 631), (7, 209, 1, 667), (7, 213, 3, 679), (7, 216, 4, 696), (7, 222, 168, 592), (7, 227, 24, 704), (7, 234, 101, 713), (7, 238, 102, 721), (7, 242, 94, 741), (7, 246, 28, 745), (7, 263, 32, 519), (7, 266, 33, 602), (7, 269, 31, 535), (7, 278, 34, 729), (7, 281, 23, 733), (8, 1, 901, 767), (8, 50, 123, 768), (8, 54, 124, 825), (8, 57, 104, 786), (8, 68, 110, 776), (8, 75, 111, 780), (8, 79, 112, 783), (8, 88, 113, 772), (8, 91, 114, 797), (8, 95, 115, 805), (8, 99, 118, 793), (8, 102, 116, 801), (8, 105, 117, 809), (8, 108, 119, 813), (8, 111, 120, 817), (8, 114, 121, 821), (8, 117, 122, 789), (8, 123, 105, 909), (8, 126, 127, 917), (8, 130, 106, 929), (8, 133, 131, 941), (8, 136, 132, 949), (8, 139, 107, 937), (8, 142, 133, 945), (8, 145, 134, 953), (8, 148, 137, 961), (8, 152, 136, 965), (8, 155, 142, 985), (8, 158, 143, 988), (8, 164, 145, 996), (8, 167, 146, 1000), (8, 170, 149, 1016), (8, 173, 148, 1012), (8, 176, 150, 1008), (8, 179, 152, 1024), (8, 182, 158, 1044), (8, 185, 156, 1048), (8, 188, 157, 1040), (9, 9, 66, 79), (9, 12, 103, 764), (9, 13, 67, 371), (9, 17, 108, 893), (9, 18, 68, 375), (9, 22, 109, 897), (9, 23, 69, 379), (9, 26, 125, 901), (9, 27, 70, 484), (9, 31, 126, 905), (9, 32, 71, 490), (9, 35, 128, 913), (9, 36, 72, 495), (9, 39, 129, 921), (9, 40, 73, 499), (9, 43, 130, 925), (9, 44, 74, 507), (9, 47, 135, 933), (9, 48, 75, 527), (9, 52, 138, 957), (9, 53, 76, 552), (9, 56, 139, 969), (9, 57, 77, 564), (9, 60, 140, 973), (9, 61, 78, 576), (9, 64, 141, 977), (9, 65, 79, 580), (9, 68, 144, 981), (9, 69, 80, 606), (9, 72, 147, 992), (9, 73, 81, 618), (9, 76, 151, 1004), (9, 77, 82, 627), (9, 81, 153, 1020), (9, 82, 83, 655), (9, 85, 154, 1028), (9, 86, 84, 659), (9, 89, 155, 1032), (9, 90, 85, 663), (9, 93, 159, 1036), (9, 94, 86, 692), (9, 97, 160, 1052), (9, 98, 87, 700), (9, 101, 161, 1056), (9, 102, 88, 708), (9, 106, 162, 1060), (9, 107, 89, 716), (9, 110, 163, 1066), (9, 111, 90, 737), (9, 114, 164, 1076), (9, 115, 91, 750), (9, 118, 165, 1080), (9, 119, 92, 754), (9, 122, 166, 1084), (9, 123, 93, 758), (9, 127, 167, 1088)]
def q_mn : List (Nat × Nat × Nat × Nat) := [(6, 11, 52, 304), (7, 9, 35, 87), (7, 38, 7, 248), (7, 45, 52, 265), (7, 52, 62, 299), (7, 59, 0, 319)]
def q_kl : List (Nat × Nat × Nat × Nat) := [(4, 15, 2, 91), (6, 9, 5, 303), (7, 7, 4, 85), (7, 16, 2, 200), (7, 23, 3, 202), (7, 36, 1, 246), (7, 43, 5, 263), (7, 50, 6, 297), (7, 57, 0, 317), (9, 7, 7, 77), (9, 10, 8, 762)]
def q_ck : List (Nat × Nat × Int × Nat) := [(2, 68, 1000000, 111), (7, 237, (-1000000), 720), (8, 195, (-1000000), 1070), (10, 265, 1431655765, 595), (10, 266, 858993459, 596), (10, 267, 252645135, 597)]
def q_cj : List (Nat × Nat × Int × Nat) := [(7, 231, (-1), 712), (8, 191, (-1), 1064), (8, 193, 10, 1065), (8, 200, 11, 1071), (8, 202, 101, 1072), (8, 204, 1011, 1073), (8, 206, 10101, 1074), (8, 208, 100001, 1075)]
def q_mP : List (Nat × Nat × Nat × Nat) := [(321, 320, 0, 73), (670, 668, 669, 73), (678, 677, 25, 73), (682, 680, 681, 73), (699, 697, 698, 73), (686, 685, 26, 73), (691, 690, 27, 73), (250, 249, 0, 70), (546, 544, 545, 70), (559, 557, 558, 70), (550, 549, 18, 70), (571, 569, 570, 70), (95, 94, 0, 66), (100, 98, 99, 66), (466, 464, 465, 66), (458, 456, 457, 66), (506, 504, 505, 66), (110, 109, 0, 66), (462, 460, 461, 66), (434, 432, 433, 66), (442, 440, 441, 66), (483, 481, 482, 66), (107, 106, 0, 66), (736, 734, 735, 66), (707, 705, 706, 66), (674, 672, 673, 66), (206, 205, 0, 69), (211, 209, 210, 69), (748, 746, 747, 69), (542, 540, 541, 69), (575, 573, 574, 69), (538, 536, 537, 69), (522, 520, 521, 69), (605, 603, 604, 69), (732, 730, 731, 69), (89, 88, 0, 65), (386, 384, 385, 65), (403, 402, 4, 65), (407, 406, 5, 65), (410, 409, 0, 65), (414, 413, 6, 65), (422, 421, 8, 65), (438, 437, 11, 65), (446, 445, 12, 65), (450, 449, 13, 65), (426, 425, 9, 65), (430, 429, 10, 65), (454, 453, 14, 65), (418, 417, 7, 65), (391, 390, 1, 65), (399, 398, 3, 65), (395, 394, 2, 65), (267, 266, 0, 71), (514, 512, 513, 71), (563, 561, 562, 71), (474, 472, 473, 71), (478, 476, 477, 71), (654, 652, 653, 71), (625, 623, 624, 71), (613, 611, 612, 71), (617, 616, 22, 71), (649, 647, 648, 71), (301, 300, 0, 72), (634, 632, 633, 72), (639, 638, 23, 72), (643, 642, 24, 72), (81, 80, 0, 64), (374, 372, 373, 64), (378, 376, 377, 64), (382, 380, 381, 64), (487, 485, 486, 64), (493, 491, 492, 64), (498, 496, 497, 64), (502, 500, 501, 64), (510, 508, 509, 64), (530, 528, 529, 64), (555, 553, 554, 64), (567, 565, 566, 64), (579, 577, 578, 64), (583, 581, 582, 64), (609, 607, 608, 64), (621, 619, 620, 64), (630, 628, 629, 64), (658, 656, 657, 64), (662, 660, 661, 64), (666, 664, 665, 64), (695, 693, 694, 64), (703, 701, 702, 64), (711, 709, 710, 64), (719, 717, 718, 64), (740, 738, 739, 64), (753, 751, 752, 64), (757, 755, 756, 64), (761, 759, 760, 64), (744, 743, 29, 64), (518, 517, 15, 64), (526, 525, 16, 64), (587, 586, 19, 64), (591, 590, 20, 64), (601, 600, 21, 64), (534, 533, 17, 64), (715, 714, 0, 64), (724, 723, 28, 64), (766, 765, 0, 74), (788, 787, 0, 74), (912, 911, 43, 74), (932, 931, 45, 74), (940, 939, 46, 74), (896, 894, 895, 74), (900, 898, 899, 74), (779, 778, 32, 74), (782, 781, 0, 74), (785, 784, 0, 74), (775, 774, 31, 74), (800, 799, 35, 74), (808, 807, 37, 74), (804, 803, 36, 74), (812, 811, 38, 74), (796, 795, 34, 74), (816, 815, 39, 74), (820, 819, 40, 74), (824, 823, 41, 74), (792, 791, 33, 74), (771, 770, 30, 74), (828, 827, 42, 74), (904, 902, 903, 74), (908, 906, 907, 74), (920, 919, 44, 74), (916, 914, 915, 74), (924, 922, 923, 74), (928, 926, 927, 74), (944, 943, 47, 74), (952, 951, 49, 74), (948, 947, 48, 74), (956, 955, 50, 74), (936, 934, 935, 74), (968, 967, 52, 74), (964, 963, 51, 74), (960, 958, 959, 74), (972, 970, 971, 74), (976, 974, 975, 74), (980, 978, 979, 74), (987, 986, 0, 74), (991, 990, 53, 74), (984, 982, 983, 74), (999, 998, 54, 74), (1003, 1002, 55, 74), (995, 993, 994, 74), (1015, 1014, 57, 74), (1019, 1018, 58, 74), (1011, 1010, 56, 74), (1007, 1005, 1006, 74), (1027, 1026, 59, 74), (1023, 1021, 1022, 74), (1031, 1029, 1030, 74), (1035, 1033, 1034, 74), (1051, 1050, 62, 74), (1043, 1042, 60, 74), (1047, 1046, 61, 74), (1039, 1037, 1038, 74), (1055, 1053, 1054, 74), (1059, 1057, 1058, 74), (1063, 1061, 1062, 74), (1069, 1067, 1068, 74), (1079, 1077, 1078, 74), (1083, 1081, 1082, 74), (1087, 1085, 1086, 74), (1091, 1089, 1090, 74), (594, 593, 0, 76), (103, 102, 0, 67), (0, 0, 0, 63)]
def q_stL : List Nat := [2, 0, 0, 0, 0, 0, 0, 2, 0, 0, 0, 0, 2, 0, 0, 0, 0, 1, 0, 0, 0, 0, 0, 0, 0, 0, 2, 0, 0, 0, 0, 0, 0, 0, 0, 2, 0, 0, 0, 1, 0, 0, 0, 0, 0, 0, 0, 0, 0, 0, 0, 0, 2, 0, 0, 0, 0, 0, 0, 0, 0, 0, 2, 0, 0, 0, 2, 0, 0, 0, 0, 0, 0, 0, 0, 0, 0, 0, 0, 0, 0, 0, 0, 0, 0, 0, 0, 0, 0, 0, 0, 0, 0, 0, 0, 0, 0, 0, 0, 0, 0, 1, 0, 2, 1, 0, 0, 0, 0, 0, 0, 1, 1, 0, 0, 0, 0, 0, 0, 0, 0, 0, 0, 0, 0, 0, 0, 0, 0, 0, 0, 0, 0, 0, 0, 0, 0, 0, 0, 0, 0, 0, 1, 0, 0, 0, 0, 0, 0, 0, 0, 0, 0, 0, 0, 0, 0, 0, 0, 0, 0, 0, 0, 0, 0, 0, 0, 0, 1, 1, 1]
/-- 0 an instance method, 1 static, 2 a constructor -/
def q_st (mi : Nat) : Nat := q_stL.getD mi 9
def q_inP : List Nat := [318, 247, 92, 203, 86, 264, 298, 78, 763]
def q_iiP : List Nat := [73, 70, 66, 69, 65, 71, 72, 64, 74]
end
section
/-! A small machine over flat memory: shape (class or kind of array, length) of each cell, ints of the class's cells, ints of the reference's cells, longs, references. Its instructions are the claim's, resolved (gen02.py): 'bipush' is a long constant, 'freturn' returns a boolean, jumps are absolute, fields are class * 100 + place, calls are by the number of the method; 900 System.arraycopy, 901 Object's constructor. -/
abbrev qM : Type := List (Nat × Nat) × (Nat → Nat → Int32) × (Nat → Nat → Int32) × (Nat → Int64) × (Nat → Nat → Option Nat)
abbrev qS : Type := Nat × List (Option Value) × List Value × qM
abbrev qR : Type := qS ⊕ (Option Value ⊕ (Nat × List Value × qS))
def q_in (i : Int32) (n : Nat) : Bool := !(decide (i < 0) || decide (n ≤ i.toNatClampNeg))
def q_bl (x : Int32) : Bool := decide (x = 0) || decide (x = 1)
def q_chr (x : Int32) : Bool := decide (0 ≤ x) && decide (x ≤ 65535)
def q_nth {α : Type} : List α → Nat → Option α
  | [], _ => none
  | a :: _, 0 => some a
  | _ :: l, k + 1 => q_nth l k
def q_row (M : qM) (k : Nat) : Nat → Int32 := cond (Nat.blt k 56) (M.2.1 k) (M.2.2.1 k)
def q_put (M : qM) (k : Nat) (f : Nat → Int32) : qM := cond (Nat.blt k 56) (M.1, va_up M.2.1 k f, M.2.2.1, M.2.2.2) (M.1, M.2.1, va_up M.2.2.1 k f, M.2.2.2)
def q_lput (M : qM) (k : Nat) (x : Int64) : qM := (M.1, M.2.1, M.2.2.1, va_up M.2.2.2.1 k x, M.2.2.2.2)
def q_rput (M : qM) (k j : Nat) (r : Option Nat) : qM := (M.1, M.2.1, M.2.2.1, M.2.2.2.1, va_up M.2.2.2.2 k (va_up (M.2.2.2.2 k) j r))
def q_new (M : qM) (sh : Nat × Nat) : qM := q_put (M.1 ++ [sh], M.2.1, M.2.2.1, va_up M.2.2.2.1 M.1.length 0, va_up M.2.2.2.2 M.1.length (fun _ => none)) M.1.length (fun _ => 0)
def q_ref (r : Option Nat) : Value := match r with
  | some a => .ref a
  | none => .null
def q_fv (M : qM) (k ci j : Nat) : Value := match q_fk ci j with
  | 1 => .long (M.2.2.2.1 k)
  | 2 => q_ref (M.2.2.2.2 k j)
  | _ => .int (q_row M k j)
def q_nx (pc : Nat) (L : List (Option Value)) (st : List Value) (M : qM) : Option qR := some (.inl (pc, L, st, M))
def q_ld (L : List (Option Value)) (i : Nat) : Option Value := match q_nth L i with
  | some (some v) => some v
  | _ => none
def q_ok1 (L : List (Option Value)) (i : Nat) : Bool := match i with
  | 0 => true
  | j + 1 => match q_nth L j with
    | some (some w) => Nat.beq w.category 1
    | _ => true
def q_st1 (L : List (Option Value)) (i : Nat) (v : Value) : Option (List (Option Value)) := cond (Nat.blt i L.length) (some (L.set i (some v))) none
/-- where longs stand among the locals -/
def q_st1c (L : List (Option Value)) (i : Nat) (v : Value) : Option (List (Option Value)) := cond (Nat.blt i L.length && q_ok1 L i) (some (L.set i (some v))) none
def q_st2 (L : List (Option Value)) (i : Nat) (v : Value) : Option (List (Option Value)) := cond (Nat.blt (i + 1) L.length && q_ok1 L i) (some ((L.set i (some v)).set (i + 1) none)) none
def q_split : Nat → List Value → List Value → Option (List Value × List Value)
  | 0, st, acc => some (acc, st)
  | _ + 1, [], _ => none
  | n + 1, v :: st, acc => q_split n st (v :: acc)
def q_sum (st : List Value) : Nat := (st.map (fun v => v.category)).sum
def q_one (As : List Value) : Bool := As.all (fun v => Nat.beq v.category 1)
def q_sw (x : Int32) (d : Int) : Int → List Int → Int
  | _, [] => d
  | k, t :: ts => if x = Int32.ofInt k then t else q_sw x d (k + 1) ts
def q_cmp (c : ClassFile.Cond) (x y : Int32) (a b : Nat) : Nat := match c with
  | .eq => if x = y then a else b
  | .ne => if x = y then b else a
  | .lt => if x < y then a else b
  | .ge => if y ≤ x then a else b
  | .gt => if y < x then a else b
  | .le => if x ≤ y then a else b
def q_callV (pc : Nat) (L : List (Option Value)) (st : List Value) (M : qM) (mj : Nat) : Option qR := match q_split (q_na mj) st [] with
  | some (As, .ref b :: rest) => (match q_nth M.1 b with
    | some (ci, _) => cond (Nat.beq ci (q_rc mj) && (Nat.ble (q_sum rest) 8 && q_one As)) (some (.inr (.inr (mj, .ref b :: As, (pc, L, rest, M))))) none
    | none => none)
  | _ => none
def q_callS (pc : Nat) (L : List (Option Value)) (st : List Value) (M : qM) (mj : Nat) : Option qR := match q_split (q_na mj) st [] with
  | some (As, rest) => cond (Nat.ble (q_sum rest) 8 && q_one As) (some (.inr (.inr (mj, As, (pc, L, rest, M))))) none
  | none => none
def q_len0 (M : qM) (k tag : Nat) : Option Nat := match q_nth M.1 k with
  | some (t, n) => cond (Nat.beq t tag) (some n) none
  | none => none
def q_copy (pc : Nat) (L : List (Option Value)) (st : List Value) (M : qM) : Option qR := match st with
  | .int n :: .int dp :: .ref k1 :: .int sp :: .ref k0 :: r => (match q_len0 M k0 100, q_len0 M k1 100 with
    | some n0, some n1 => cond (decide (0 ≤ sp) && (decide (0 ≤ dp) && (decide (0 ≤ n) && (Nat.ble (sp.toNatClampNeg + n.toNatClampNeg) n0 && (Nat.ble (dp.toNatClampNeg + n.toNatClampNeg) n1 && Nat.ble (q_sum r) 8))))) (q_nx pc L r (q_put M k1 (va_cpy (q_row M k0) (q_row M k1) sp.toNatClampNeg dp.toNatClampNeg n.toNatClampNeg))) none
    | _, _ => none)
  | _ => none
def q_get (pc : Nat) (L : List (Option Value)) (M : qM) (e k : Nat) (r : List Value) : Option qR := match q_nth M.1 k with
  | some (ci, _) => cond (Nat.beq ci (e / 100)) (q_nx pc L (q_fv M k ci (e % 100) :: r) M) none
  | none => none
def q_set (pc : Nat) (L : List (Option Value)) (M : qM) (e k : Nat) (v : Value) (r : List Value) : Option qR := match q_nth M.1 k with
  | some (ci, _) => cond (Nat.beq ci (e / 100)) (match v with
    | .int x => (match q_fk ci (e % 100) with
      | 0 => q_nx pc L r (q_put M k (upd (q_row M k) (e % 100) x))
      | 3 => cond (q_bl x) (q_nx pc L r (q_put M k (upd (q_row M k) (e % 100) x))) none
      | _ => none)
    | .long x => (match q_fk ci (e % 100) with
      | 1 => q_nx pc L r (q_lput M k x)
      | _ => none)
    | .ref b => (match q_fk ci (e % 100) with
      | 2 => q_nx pc L r (q_rput M k (e % 100) (some b))
      | _ => none)
    | _ => none) none
  | none => none
def q_ald (xt : Nat → Nat × (Nat → Int32)) (pc : Nat) (L : List (Option Value)) (M : qM) (tag k : Nat) (i : Int32) (r : List Value) : Option qR := cond (Nat.blt k 1000)
  (match q_len0 M k tag with
    | some n => cond (q_in i n) (q_nx pc L (.int (q_row M k i.toNatClampNeg) :: r) M) none
    | none => none)
  (cond (Nat.beq tag 100 && (Nat.blt k 1003 && q_in i (xt k).1)) (q_nx pc L (.int ((xt k).2 i.toNatClampNeg) :: r) M) none)
def q_ast (pc : Nat) (L : List (Option Value)) (M : qM) (tag k : Nat) (i x : Int32) (r : List Value) : Option qR := match q_len0 M k tag with
    | some n => cond (q_in i n) (q_nx pc L r (q_put M k (upd (q_row M k) i.toNatClampNeg x))) none
    | none => none
def q_tag (t : ArrayType) : Option Nat := match t with
  | .int => some 100
  | .char => some 101
  | .boolean => some 102
  | _ => none
def q_do (xt : Nat → Nat × (Nat → Int32)) (pc : Nat) (L : List (Option Value)) (st : List Value) (M : qM) (i : Instr) (n : Nat) : Option qR := match i with
  | .aload j => (match q_ld L j with
    | some (.ref k) => q_nx (pc + n) L (.ref k :: st) M
    | _ => none)
  | .iload j => (match q_ld L j with
    | some (.int x) => q_nx (pc + n) L (.int x :: st) M
    | _ => none)
  | .lload j => (match q_ld L j with
    | some (.long x) => q_nx (pc + n) L (.long x :: st) M
    | _ => none)
  | .astore j => (match st with
    | .ref k :: r => (match q_st1 L j (.ref k) with
      | some L' => q_nx (pc + n) L' r M
      | none => none)
    | _ => none)
  | .istore j => (match st with
    | .int x :: r => (match q_st1 L j (.int x) with
      | some L' => q_nx (pc + n) L' r M
      | none => none)
    | _ => none)
  | .fstore j => (match st with
    | .int x :: r => (match q_st1c L j (.int x) with
      | some L' => q_nx (pc + n) L' r M
      | none => none)
    | _ => none)
  | .lstore j => (match st with
    | .long x :: r => (match q_st2 L j (.long x) with
      | some L' => q_nx (pc + n) L' r M
      | none => none)
    | _ => none)
  | .iconst c => q_nx (pc + n) L (.int (Int32.ofInt c) :: st) M
  | .bipush c => q_nx (pc + n) L (.long (Int64.ofInt c) :: st) M
  | .iinc j c => (match q_ld L j with
    | some (.int x) => (match q_st1 L j (.int (x + Int32.ofInt c)) with
      | some L' => q_nx (pc + n) L' st M
      | none => none)
    | _ => none)
  | .iadd => (match st with
    | .int y :: .int x :: r => q_nx (pc + n) L (.int (x + y) :: r) M
    | _ => none)
  | .isub => (match st with
    | .int y :: .int x :: r => q_nx (pc + n) L (.int (x - y) :: r) M
    | _ => none)
  | .imul => (match st with
    | .int y :: .int x :: r => q_nx (pc + n) L (.int (x * y) :: r) M
    | _ => none)
  | .iand => (match st with
    | .int y :: .int x :: r => q_nx (pc + n) L (.int (x &&& y) :: r) M
    | _ => none)
  | .ior => (match st with
    | .int y :: .int x :: r => q_nx (pc + n) L (.int (x ||| y) :: r) M
    | _ => none)
  | .ixor => (match st with
    | .int y :: .int x :: r => q_nx (pc + n) L (.int (x ^^^ y) :: r) M
    | _ => none)
  | .idiv => (match st with
    | .int y :: .int x :: r => if y = 0 then none else q_nx (pc + n) L (.int (x / y) :: r) M
    | _ => none)
  | .irem => (match st with
    | .int y :: .int x :: r => if y = 0 then none else q_nx (pc + n) L (.int (x - x / y * y) :: r) M
    | _ => none)
  | .ishl => (match st with
    | .int y :: .int x :: r => q_nx (pc + n) L (.int (x <<< (y &&& 31)) :: r) M
    | _ => none)
  | .ishr => (match st with
    | .int y :: .int x :: r => q_nx (pc + n) L (.int (x >>> (y &&& 31)) :: r) M
    | _ => none)
  | .iushr => (match st with
    | .int y :: .int x :: r => q_nx (pc + n) L (.int (x.toUInt32 >>> (y.toUInt32 &&& Int32.toUInt32 31)).toInt32 :: r) M
    | _ => none)
  | .ladd => (match st with
    | .long y :: .long x :: r => q_nx (pc + n) L (.long (x + y) :: r) M
    | _ => none)
  | .lmul => (match st with
    | .long y :: .long x :: r => q_nx (pc + n) L (.long (x * y) :: r) M
    | _ => none)
  | .ldiv => (match st with
    | .long y :: .long x :: r => if y = 0 then none else q_nx (pc + n) L (.long (x / y) :: r) M
    | _ => none)
  | .lrem => (match st with
    | .long y :: .long x :: r => if y = 0 then none else q_nx (pc + n) L (.long (x - x / y * y) :: r) M
    | _ => none)
  | .lcmp => (match st with
    | .long y :: .long x :: r => q_nx (pc + n) L (.int (lg_cmp x y) :: r) M
    | _ => none)
  | .i2l => (match st with
    | .int x :: r => q_nx (pc + n) L (.long x.toInt64 :: r) M
    | _ => none)
  | .i2c => (match st with
    | .int x :: r => cond (q_chr x) (q_nx (pc + n) L (.int x :: r) M) none
    | _ => none)
  | .dup => (match st with
    | .ref k :: r => q_nx (pc + n) L (.ref k :: .ref k :: r) M
    | .int x :: r => q_nx (pc + n) L (.int x :: .int x :: r) M
    | _ => none)
  | .dup2 => (match st with
    | .int x :: .ref k :: r => q_nx (pc + n) L (.int x :: .ref k :: .int x :: .ref k :: r) M
    | _ => none)
  | .pop => (match st with
    | .int _ :: r => q_nx (pc + n) L r M
    | _ => none)
  | .goto t => q_nx t.toNat L st M
  | .ifCond c t => (match st with
    | .int x :: r => q_nx (q_cmp c x 0 t.toNat (pc + n)) L r M
    | _ => none)
  | .if_icmp c t => (match st with
    | .int y :: .int x :: r => q_nx (q_cmp c x y t.toNat (pc + n)) L r M
    | _ => none)
  | .tableswitch d lo _ offs => (match st with
    | .int x :: r => q_nx (q_sw x d lo offs.toList).toNat L r M
    | _ => none)
  | .getfield e => (match st with
    | .ref k :: r => q_get (pc + n) L M e k r
    | _ => none)
  | .putfield e => (match st with
    | v :: .ref k :: r => q_set (pc + n) L M e k v r
    | _ => none)
  | .getstatic e => q_nx (pc + n) L (.ref e :: st) M
  | .iaload => (match st with
    | .int i :: .ref k :: r => q_ald xt (pc + n) L M 100 k i r
    | _ => none)
  | .caload => (match st with
    | .int i :: .ref k :: r => q_ald xt (pc + n) L M 101 k i r
    | _ => none)
  | .baload => (match st with
    | .int i :: .ref k :: r => q_ald xt (pc + n) L M 102 k i r
    | _ => none)
  | .iastore => (match st with
    | .int x :: .int i :: .ref k :: r => q_ast (pc + n) L M 100 k i x r
    | _ => none)
  | .castore => (match st with
    | .int x :: .int i :: .ref k :: r => cond (q_chr x) (q_ast (pc + n) L M 101 k i x r) none
    | _ => none)
  | .bastore => (match st with
    | .int x :: .int i :: .ref k :: r => cond (q_bl x) (q_ast (pc + n) L M 102 k i x r) none
    | _ => none)
  | .arraylength => (match st with
    | .ref k :: r => cond (Nat.blt k 1000)
      (match q_nth M.1 k with
        | some (t, m) => cond (Nat.ble 100 t && Nat.ble t 102) (q_nx (pc + n) L (.int (Int32.ofNat m) :: r) M) none
        | none => none)
      (cond (Nat.blt k 1003) (q_nx (pc + n) L (.int (Int32.ofNat (xt k).1) :: r) M) none)
    | _ => none)
  | .new ci => cond (Nat.blt M.1.length 999 && Nat.blt ci 9) (q_nx (pc + n) L (.ref M.1.length :: st) (q_new M (ci, q_N ci))) none
  | .newarray t => (match st with
    | .int m :: r => (match q_tag t with
      | some tag => cond (Nat.blt M.1.length 999 && (decide (0 ≤ m) && Nat.ble m.toNatClampNeg 100000)) (q_nx (pc + n) L (.ref M.1.length :: r) (q_new M (tag, m.toNatClampNeg))) none
      | none => none)
    | _ => none)
  | .invokevirtual mj => q_callV (pc + n) L st M mj
  | .invokespecial mj => cond (Nat.beq mj 901) (match st with
    | .ref _ :: r => cond (Nat.ble (q_sum r) 8) (q_nx (pc + n) L r M) none
    | _ => none) (q_callV (pc + n) L st M mj)
  | .invokestatic mj => cond (Nat.beq mj 900) (q_copy (pc + n) L st M) (cond (Nat.beq mj 902) (match st with
    | .int y :: .int x :: r => cond (Nat.ble (q_sum r) 8) (q_nx (pc + n) L (.int (if y < x then y else x) :: r) M) none
    | _ => none) (q_callS (pc + n) L st M mj))
  | .ireturn => (match st with
    | [.int x] => some (.inr (.inl (some (.int x))))
    | _ => none)
  | .freturn => (match st with
    | [.int x] => cond (q_bl x) (some (.inr (.inl (some (.int x))))) none
    | _ => none)
  | .lreturn => (match st with
    | [.long x] => some (.inr (.inl (some (.long x))))
    | _ => none)
  | .areturn => (match st with
    | [.ref x] => some (.inr (.inl (some (.ref x))))
    | _ => none)
  | .return_ => (match st with
    | [] => some (.inr (.inl none))
    | _ => none)
  | _ => none
noncomputable def q_act (xt : Nat → Nat × (Nat → Int32)) (mi : Nat) (S : qS) : Option qR := match q_code mi S.1 with
  | some (i, n) => q_do xt S.1 S.2.1 S.2.2.1 S.2.2.2 i n
  | none => none
def q_ent (mi : Nat) (As : List Value) : List (Option Value) := As.map some ++ List.replicate (q_ml mi - As.length) none
noncomputable def q_ex (xt : Nat → Nat × (Nat → Int32)) : Nat → Nat → Nat → qS → Option (Option Value × qM)
  | 0, _, _, _ => none
  | n + 1, d, mi, S => match q_act xt mi S with
    | none => none
    | some (.inl S') => q_ex xt n d mi S'
    | some (.inr (.inl v)) => some (v, S.2.2.2)
    | some (.inr (.inr (mj, As, S'))) => match d with
      | 0 => none
      | d' + 1 => match q_ex xt n d' mj (0, q_ent mj As, [], S.2.2.2) with
        | none => none
        | some (v, M') => q_ex xt n (d' + 1) mi (S'.1, S'.2.1, v.toList ++ S'.2.2.1, M')
def q_Ev (xt : Nat → Nat × (Nat → Int32)) (d mi : Nat) (S : qS) (r : Option Value × qM) : Prop := ∃ n, q_ex xt n d mi S = some r
noncomputable def q_run (xt : Nat → Nat × (Nat → Int32)) (mi : Nat) : Nat → qS → Option qS
  | 0, S => some S
  | k + 1, S => match q_act xt mi S with
    | some (.inl S') => q_run xt mi k S'
    | _ => none
theorem q_ex_mono (xt : Nat → Nat × (Nat → Int32)) : ∀ (n d mi : Nat) (S : qS) (r : Option Value × qM), q_ex xt n d mi S = some r → q_ex xt (n + 1) d mi S = some r := by
  intro n
  induction n with
  | zero => intro d mi S r h; simp [q_ex] at h
  | succ n ih =>
    intro d mi S r h
    rw [q_ex] at h ⊢
    cases ha : q_act xt mi S with
    | none => rw [ha] at h; cases h
    | some a =>
      rw [ha] at h
      rcases a with S' | v | ⟨mj, As, S'⟩
      · exact ih d mi S' r h
      · exact h
      · cases d with
        | zero => cases h
        | succ d' =>
          dsimp only at h ⊢
          cases hc : q_ex xt n d' mj (0, q_ent mj As, [], S.2.2.2) with
          | none => rw [hc] at h; cases h
          | some w =>
            rw [hc] at h
            rw [ih d' mj _ w hc]
            exact ih (d' + 1) mi _ r h
theorem q_ex_le (xt : Nat → Nat × (Nat → Int32)) {n m d mi : Nat} {S : qS} {r : Option Value × qM} (h : q_ex xt n d mi S = some r) (hm : n ≤ m) : q_ex xt m d mi S = some r := by
  induction hm with
  | refl => exact h
  | step _ ih => exact q_ex_mono xt _ d mi S r ih
theorem q_ev_step {xt : Nat → Nat × (Nat → Int32)} {d mi : Nat} {S S' : qS} {r : Option Value × qM} (h : q_act xt mi S = some (.inl S')) (hE : q_Ev xt d mi S' r) : q_Ev xt d mi S r := by
  obtain ⟨n, hn⟩ := hE
  refine ⟨n + 1, ?_⟩
  rw [q_ex, h]
  exact hn
theorem q_ev_ret {xt : Nat → Nat × (Nat → Int32)} {d mi : Nat} {S : qS} {v : Option Value} {M : qM} (h : q_act xt mi S = some (.inr (.inl v))) (hM : S.2.2.2 = M) : q_Ev xt d mi S (v, M) := by
  refine ⟨1, ?_⟩
  rw [q_ex, h, ← hM]
theorem q_ev_call {xt : Nat → Nat × (Nat → Int32)} {d mi mj : Nat} {S S' : qS} {As : List Value} {v : Option Value} {M' : qM} {r : Option Value × qM} (h : q_act xt mi S = some (.inr (.inr (mj, As, S')))) (hd : 0 < d) (hc : q_Ev xt (d - 1) mj (0, q_ent mj As, [], S.2.2.2) (v, M')) (hE : q_Ev xt d mi (S'.1, S'.2.1, v.toList ++ S'.2.2.1, M') r) : q_Ev xt d mi S r := by
  obtain ⟨n1, h1⟩ := hc
  obtain ⟨n2, h2⟩ := hE
  obtain ⟨d', rfl⟩ : ∃ d', d = d' + 1 := ⟨d - 1, by omega⟩
  rw [Nat.add_sub_cancel] at h1
  refine ⟨n1 + n2 + 1, ?_⟩
  rw [q_ex, h]
  dsimp only
  rw [q_ex_le xt (m := n1 + n2) h1 (by omega)]
  exact q_ex_le xt h2 (by omega)
theorem q_ev_run {xt : Nat → Nat × (Nat → Int32)} {d mi : Nat} {r : Option Value × qM} : ∀ (k : Nat) {S S' : qS}, q_run xt mi k S = some S' → q_Ev xt d mi S' r → q_Ev xt d mi S r := by
  intro k
  induction k with
  | zero => intro S S' h hE; rw [q_run] at h; cases h; exact hE
  | succ k ih =>
    intro S S' h hE
    rw [q_run] at h
    cases ha : q_act xt mi S with
    | none => rw [ha] at h; cases h
    | some a =>
      rw [ha] at h
      rcases a with S1 | v | w
      · exact q_ev_step ha (ih h hE)
      · cases h
      · cases h
end
section
/-! the resolved instructions are the claim's own: checked by program over each method's bytes; the words of the tables by their places -/
def q_fnd {α : Type} : List (Nat × Nat × α) → Nat → Nat → Option α
  | [], _, _ => none
  | (a, b, v) :: l, o, i => cond (Nat.beq a o && Nat.beq b i) (some v) (q_fnd l o i)
theorem q_fnd_mem {α : Type} {o i : Nat} {v : α} : ∀ {t : List (Nat × Nat × α)}, q_fnd t o i = some v → (o, i, v) ∈ t
  | [], h => by cases h
  | (a, b, w) :: l, h => by
    unfold q_fnd at h
    cases hc : (Nat.beq a o && Nat.beq b i) with
    | true =>
      rw [hc] at h
      simp only [Bool.and_eq_true] at hc
      have e1 : a = o := Nat.eq_of_beq_eq_true hc.1
      have e2 : b = i := Nat.eq_of_beq_eq_true hc.2
      cases h
      rw [e1, e2]
      exact List.mem_cons_self
    | false =>
      rw [hc] at h
      exact List.mem_cons_of_mem _ (q_fnd_mem h)
def q_tbl : List Cond := lw_tbl.filter goodWord
theorem q_tbl_good : GoodIn q_tbl q_tbl := fun w hw => ⟨hw, good_of_word (List.mem_filter.mp hw).2⟩
theorem q_tw {w : Cond} (p : Nat) (h : lw_tbl[p]? = some w) (hg : goodWord w = true) : w ∈ q_tbl := List.mem_filter.mpr ⟨List.mem_of_getElem? h, hg⟩
def q_wat (p : Nat) (w : Cond) : Bool := decide (lw_tbl[p]? = some w) && goodWord w
theorem q_wat_mem {p : Nat} {w : Cond} (h : q_wat p w = true) : w ∈ q_tbl := by
  simp only [q_wat, Bool.and_eq_true, decide_eq_true_eq] at h
  exact q_tw p h.1 h.2
def q_own (mi : Nat) : String := q_cn (q_rc mi)
abbrev q_y (mi : Nat) : MethodName := (q_me mi).2.1
abbrev q_by (mi : Nat) : ByteArray := (q_me mi).2.2.1
abbrev q_mx (mi : Nat) : Nat := (q_me mi).2.2.2.1
abbrev q_rt (mi : Nat) : Option FieldType := (q_me mi).2.2.2.2
def q_flc (o i e : Nat) : Cond := .fieldLink (q_cn o) i (q_T (e / 100) (e % 100)).1 (q_T (e / 100) (e % 100)).2.1 (q_T (e / 100) (e % 100)).2.2.1
def q_sn (e : Nat) : String := if e = 1001 then "KIND_TRACE" else "KIND_ABOVE"
theorem q_fl_all : q_fl.all (fun x => q_wat x.2.2.2 (q_flc x.1 x.2.1 x.2.2.1) && (Nat.blt (x.2.2.1 / 100) 9 && Nat.blt (x.2.2.1 % 100) (q_N (x.2.2.1 / 100)))) = true := by decide +kernel
theorem q_fs_all : q_fs.all (fun x => q_wat x.2.2.2 (.fieldLink (q_cn x.1) x.2.1 "AlwaysThere" (q_sn x.2.2.1) "[I") && (Nat.beq x.2.2.1 1001 || Nat.beq x.2.2.1 1002)) = true := by decide +kernel
def q_acp : MethodName := ⟨"java/lang/System", "arraycopy", "(Ljava/lang/Object;ILjava/lang/Object;II)V"⟩
def q_oin : MethodName := ⟨"java/lang/Object", "<init>", "()V"⟩
def q_yy (mj : Nat) : MethodName := if mj = 900 then q_acp else if mj = 901 then q_oin else if mj = 902 then Lib.Math.min.name else q_y mj
theorem q_mk_all : q_mk.all (fun x => q_wat x.2.2.2 (.methodLink (q_cn x.1) x.2.1 (q_yy x.2.2.1))) = true := by decide +kernel
theorem q_mn_all : q_mn.all (fun x => decide (lw_tbl[x.2.2.2]? = some (.methodLinkNest (q_cn x.1) x.2.1 (q_y x.2.2.1) "AlwaysThere"))) = true := by decide +kernel
theorem q_kl_all : q_kl.all (fun x => q_wat x.2.2.2 (.classLink (q_cn x.1) x.2.1 (q_cn x.2.2.1)) && Nat.blt x.2.2.1 9) = true := by decide +kernel
theorem q_ck_all : q_ck.all (fun x => q_wat x.2.2.2 (.constant (q_cn x.1) x.2.1 (Int32.ofInt x.2.2.1))) = true := by decide +kernel
theorem q_cj_all : q_cj.all (fun x => q_wat x.2.2.2 (.constantLong (q_cn x.1) x.2.1 (Int64.ofInt x.2.2.1))) = true := by decide +kernel
theorem q_in_all : (List.range 9).all (fun ci => q_wat (q_inP.getD ci 0) (.instantiable (q_cn ci) (q_N ci)) && q_wat (q_iiP.getD ci 0) (.initialized (q_cn ci))) = true := by decide +kernel
def q_layP : List Nat := [328, 330, 332, 334, 336, 256, 258, 260, 147, 149, 151, 153, 155, 157, 159, 161, 163, 165, 167, 229, 231, 233, 235, 237, 239, 241, 243, 183, 185, 187, 189, 191, 193, 195, 197, 284, 286, 288, 290, 292, 294, 310, 312, 314, 350, 352, 354, 356, 358, 360, 362, 364, 366, 368, 850, 852, 854, 856, 858, 860, 862, 864, 866, 868, 870, 872, 874, 876, 878, 880, 882, 884, 886, 888, 890]
def q_fields : List (Nat × Nat) := [(0, 0), (0, 1), (0, 2), (0, 3), (0, 4), (1, 0), (1, 1), (1, 2), (2, 0), (2, 1), (2, 2), (2, 3), (2, 4), (2, 5), (2, 6), (2, 7), (2, 8), (2, 9), (2, 10), (3, 0), (3, 1), (3, 2), (3, 3), (3, 4), (3, 5), (3, 6), (3, 7), (4, 0), (4, 1), (4, 2), (4, 3), (4, 4), (4, 5), (4, 6), (4, 7), (5, 0), (5, 1), (5, 2), (5, 3), (5, 4), (5, 5), (6, 0), (6, 1), (6, 2), (7, 0), (7, 1), (7, 2), (7, 3), (7, 4), (7, 5), (7, 6), (7, 7), (7, 8), (7, 9), (8, 0), (8, 1), (8, 2), (8, 3), (8, 4), (8, 5), (8, 6), (8, 7), (8, 8), (8, 9), (8, 10), (8, 11), (8, 12), (8, 13), (8, 14), (8, 15), (8, 16), (8, 17), (8, 18), (8, 19), (8, 20)]
theorem q_lay_all : (q_fields.zip q_layP).all (fun x => q_wat x.2 (u_lay (q_cn x.1.1) (q_T x.1.1) x.1.2)) = true := by decide +kernel
theorem q_ft_all : ∀ ci, ci < 9 → ∀ k, k < q_N ci → parseFieldDescriptor (q_T ci k).2.2.1 = some (q_ft ci k) := by decide +kernel
theorem q_nm_all : ∀ ci, ci < 9 → ∀ a, a < q_N ci → ∀ b, b < q_N ci → a ≠ b → (q_T ci a).2.1 ≠ (q_T ci b).2.1 := by decide +kernel
theorem q_dc_all : ∀ ci, ci < 9 → ∀ k, k < q_N ci → (q_T ci k).1 = q_cn ci := by decide +kernel
/-- kinds and types agree -/
theorem q_fk_all : ∀ ci, ci < 9 → ∀ k, k < q_N ci → (q_fk ci k = 0 ∧ q_ft ci k = .int) ∨ (q_fk ci k = 1 ∧ q_ft ci k = .long) ∨ (q_fk ci k = 3 ∧ q_ft ci k = .boolean) ∨ (q_fk ci k = 2 ∧ fits (q_ft ci k) .null = true ∧ defaultValue (q_ft ci k) = .null ∧ fits (q_ft ci k) (.ref 0) = true) := by decide +kernel
theorem q_ar_all : q_wat 171 (.arrayClass .int) = true ∧ q_wat 170 (.arrayClass .char) = true ∧ q_wat 339 (.arrayClass .boolean) = true := by decide +kernel
theorem q_cp_all : q_wat 469 (.native q_acp) = true ∧ q_wat 468 (.static q_acp) = true ∧ q_wat 75 (.initialized "java/lang/System") = true := by decide +kernel
theorem q_mm_all : q_wat 113 (.static Lib.Math.min.name) = true ∧ q_wat 68 (.initialized "java/lang/Math") = true ∧ q_wat 114 (.code Lib.Math.min.name Lib.Math.min.code 2 (some .int)) = true := by decide +kernel
theorem q_oi_all : q_wat 83 (.instanceMethod q_oin) = true ∧ q_wat 84 (.code q_oin ⟨#[0xb1]⟩ 1 none) = true := by decide +kernel
def q_mchk (mi : Nat) : Bool := (match q_mP.getD mi (0, 0, 0, 0) with
  | (pc, pi, ps, pn) => q_wat pc (.code (q_y mi) (q_by mi) (q_mx mi) (q_rt mi)) && (q_wat pn (.initialized (q_y mi).cls) && (match q_st mi with
    | 0 => q_wat pi (.instanceMethod (q_y mi)) && q_wat ps (.selects (q_y mi).cls (q_y mi) (q_y mi))
    | 1 => q_wat pi (.static (q_y mi))
    | 2 => q_wat pi (.instanceMethod (q_y mi)) && (decide ((q_y mi).name = "<init>") && decide (q_rt mi = none))
    | _ => false)))
def q_mch2 (mi : Nat) : Bool := plainName (q_y mi).cls && (decide ((q_y mi).cls ≠ "java/lang/invoke/MethodHandle") && (decide ((q_y mi).cls ≠ "java/lang/invoke/VarHandle") && (decide ((parseMethodDescriptor (q_y mi).desc).map (fun d => d.parameters.length) = some (q_na mi)) && (decide (q_ml mi = q_mx mi) && (decide (q_own mi = (q_y mi).cls) && (Nat.ble (q_ml mi) 45 && Nat.ble (q_na mi + (if q_st mi = 1 then 0 else 1)) (q_ml mi)))))))
end
section
theorem q_mchk_0 : ∀ mi, mi < 20 → q_mchk (0 + mi) = true := by decide +kernel
theorem q_mchk_20 : ∀ mi, mi < 20 → q_mchk (20 + mi) = true := by decide +kernel
theorem q_mchk_40 : ∀ mi, mi < 20 → q_mchk (40 + mi) = true := by decide +kernel
end
section
theorem q_mchk_60 : ∀ mi, mi < 20 → q_mchk (60 + mi) = true := by decide +kernel
theorem q_mchk_80 : ∀ mi, mi < 20 → q_mchk (80 + mi) = true := by decide +kernel
theorem q_mchk_100 : ∀ mi, mi < 20 → q_mchk (100 + mi) = true := by decide +kernel
end
section
theorem q_mchk_120 : ∀ mi, mi < 20 → q_mchk (120 + mi) = true := by decide +kernel
theorem q_mchk_140 : ∀ mi, mi < 20 → q_mchk (140 + mi) = true := by decide +kernel
theorem q_mchk_160 : ∀ mi, mi < 10 → q_mchk (160 + mi) = true := by decide +kernel
end
section
theorem q_mchk_all {mi : Nat} (h : mi < 170) : q_mchk mi = true := by
  by_cases h0 : mi < 20
  · have := q_mchk_0 (mi - 0) (by omega)
    rwa [show 0 + (mi - 0) = mi by omega] at this
  by_cases h20 : mi < 40
  · have := q_mchk_20 (mi - 20) (by omega)
    rwa [show 20 + (mi - 20) = mi by omega] at this
  by_cases h40 : mi < 60
  · have := q_mchk_40 (mi - 40) (by omega)
    rwa [show 40 + (mi - 40) = mi by omega] at this
  by_cases h60 : mi < 80
  · have := q_mchk_60 (mi - 60) (by omega)
    rwa [show 60 + (mi - 60) = mi by omega] at this
  by_cases h80 : mi < 100
  · have := q_mchk_80 (mi - 80) (by omega)
    rwa [show 80 + (mi - 80) = mi by omega] at this
  by_cases h100 : mi < 120
  · have := q_mchk_100 (mi - 100) (by omega)
    rwa [show 100 + (mi - 100) = mi by omega] at this
  by_cases h120 : mi < 140
  · have := q_mchk_120 (mi - 120) (by omega)
    rwa [show 120 + (mi - 120) = mi by omega] at this
  by_cases h140 : mi < 160
  · have := q_mchk_140 (mi - 140) (by omega)
    rwa [show 140 + (mi - 140) = mi by omega] at this
  by_cases h160 : mi < 170
  · have := q_mchk_160 (mi - 160) (by omega)
    rwa [show 160 + (mi - 160) = mi by omega] at this
  omega
theorem q_mch2_all : ∀ mi, mi < 171 → q_mch2 mi = true := by decide +kernel
end
section
def q_fin (e : Nat) : Bool := (q_T (e / 100) (e % 100)).2.2.2
def q_sp (t : Int) (i : Instr) : Option Instr := if 0 ≤ t then some i else none
def q_cv (mi pc : Nat) (r : Instr) : Option Instr := match r with
  | .aload_n k => some (.aload k)
  | .iload_n k => some (.iload k)
  | .lload_n k => some (.lload k)
  | .astore_n k => cond (q_lg mi) none (some (.astore k))
  | .istore_n k => some (cond (q_lg mi) (.fstore k) (.istore k))
  | .lstore_n k => cond (q_lg mi) (some (.lstore k)) none
  | .aload j => some (.aload j)
  | .iload j => some (.iload j)
  | .lload j => some (.lload j)
  | .astore j => cond (q_lg mi) none (some (.astore j))
  | .istore j => some (cond (q_lg mi) (.fstore j) (.istore j))
  | .lstore j => cond (q_lg mi) (some (.lstore j)) none
  | .iconst c => some (.iconst c)
  | .bipush c => if (Int8.ofInt c).toInt32 = Int32.ofInt c then some (.iconst c) else none
  | .sipush c => if (Int16.ofInt c).toInt32 = Int32.ofInt c then some (.iconst c) else none
  | .ldc i => (q_fnd q_ck (q_rc mi) i).map (fun c => .iconst c.1)
  | .ldc_w i => (q_fnd q_ck (q_rc mi) i).map (fun c => .iconst c.1)
  | .lconst k => some (.bipush ((k : Nat) : Int))
  | .ldc2_w i => (q_fnd q_cj (q_rc mi) i).map (fun c => .bipush c.1)
  | .iinc j c => some (.iinc j c)
  | .iadd => some .iadd
  | .isub => some .isub
  | .imul => some .imul
  | .iand => some .iand
  | .ior => some .ior
  | .ixor => some .ixor
  | .idiv => some .idiv
  | .irem => some .irem
  | .ishl => some .ishl
  | .ishr => some .ishr
  | .iushr => some .iushr
  | .ladd => some .ladd
  | .lmul => some .lmul
  | .ldiv => some .ldiv
  | .lrem => some .lrem
  | .lcmp => some .lcmp
  | .i2l => some .i2l
  | .i2c => some .i2c
  | .dup => some .dup
  | .dup2 => some .dup2
  | .pop => some .pop
  | .goto o => q_sp (pc + o) (.goto (pc + o))
  | .ifCond c o => q_sp (pc + o) (.ifCond c (pc + o))
  | .if_icmp c o => q_sp (pc + o) (.if_icmp c (pc + o))
  | .tableswitch d lo hi offs => if 0 ≤ (pc : Int) + d ∧ (∀ o ∈ offs.toList, 0 ≤ (pc : Int) + o) ∧ hi = lo + offs.toList.length - 1 ∧ -1000000 ≤ lo ∧ hi ≤ 1000000 then some (.tableswitch (pc + d) lo hi (offs.toList.map (fun o : Int => (pc : Int) + o)).toArray) else none
  | .getfield i => (q_fnd q_fl (q_rc mi) i).map (fun e => .getfield e.1)
  | .putfield i => (match q_fnd q_fl (q_rc mi) i with
    | some (e, _) => if q_fin e = false ∨ ((q_y mi).name = "<init>" ∧ q_rc mi = e / 100) then some (.putfield e) else none
    | none => none)
  | .getstatic i => (q_fnd q_fs (q_rc mi) i).map (fun e => .getstatic e.1)
  | .iaload => some .iaload
  | .caload => some .caload
  | .baload => some .baload
  | .iastore => some .iastore
  | .castore => some .castore
  | .bastore => some .bastore
  | .arraylength => some .arraylength
  | .new i => (q_fnd q_kl (q_rc mi) i).map (fun e => .new e.1)
  | .newarray t => some (.newarray t)
  | .invokevirtual i => (match q_fnd q_mk (q_rc mi) i with
    | some (mj, _) => if q_st mj = 0 ∧ mj < 170 then some (.invokevirtual mj) else none
    | none => none)
  | .invokespecial i => (match q_fnd q_mk (q_rc mi) i with
    | some (mj, _) => if mj = 901 ∨ (q_st mj = 2 ∧ mj < 170) then some (.invokespecial mj) else none
    | none => (match q_fnd q_mn (q_rc mi) i with
      | some (mj, _) => if q_st mj = 2 ∧ mj < 170 then some (.invokespecial mj) else none
      | none => none))
  | .invokestatic i => (match q_fnd q_mk (q_rc mi) i with
    | some (mj, _) => if mj = 900 ∨ mj = 902 ∨ (q_st mj = 1 ∧ mj < 170) then some (.invokestatic mj) else none
    | none => none)
  | .ireturn => (match q_rt mi with
    | some .int => some .ireturn
    | some .boolean => some .freturn
    | _ => none)
  | .lreturn => (match q_rt mi with
    | some .long => some .lreturn
    | _ => none)
  | .areturn => (match q_rt mi with
    | some (.object _) => some .areturn
    | _ => none)
  | .return_ => (match q_rt mi with
    | none => some .return_
    | _ => none)
  | _ => none
/-- how long the instruction is -/
def q_ln (r : Instr) : Nat := match r with
  | .aload _ => 2
  | .iload _ => 2
  | .lload _ => 2
  | .astore _ => 2
  | .istore _ => 2
  | .lstore _ => 2
  | .bipush _ => 2
  | .sipush _ => 3
  | .ldc _ => 2
  | .ldc_w _ => 3
  | .ldc2_w _ => 3
  | .iinc _ _ => 3
  | .goto _ => 3
  | .ifCond _ _ => 3
  | .if_icmp _ _ => 3
  | .tableswitch _ _ _ _ => 0
  | .getfield _ => 3
  | .putfield _ => 3
  | .getstatic _ => 3
  | .new _ => 3
  | .newarray _ => 2
  | .invokevirtual _ => 3
  | .invokespecial _ => 3
  | .invokestatic _ => 3
  | _ => 1
noncomputable def q_chk1 (mi pc : Nat) : Bool := match q_code mi pc with
  | none => true
  | some (i, n) => match decode (q_by mi) pc with
    | .ok (r, m) => decide (m = n) && ((Nat.beq (q_ln r) 0 || Nat.beq (q_ln r) n) && decide (q_cv mi pc r = some i))
    | _ => false
noncomputable def q_chk (mi : Nat) : Bool := (List.range (q_len mi)).all (q_chk1 mi)
end
section
theorem q_ck_0 : q_chk 0 = true := by decide +kernel
theorem q_ck_1 : q_chk 1 = true := by decide +kernel
theorem q_ck_2 : q_chk 2 = true := by decide +kernel
theorem q_ck_3 : q_chk 3 = true := by decide +kernel
theorem q_ck_4 : q_chk 4 = true := by decide +kernel
theorem q_ck_5 : q_chk 5 = true := by decide +kernel
theorem q_ck_6 : q_chk 6 = true := by decide +kernel
theorem q_ck_7 : q_chk 7 = true := by decide +kernel
theorem q_ck_8 : q_chk 8 = true := by decide +kernel
theorem q_ck_9 : q_chk 9 = true := by decide +kernel
theorem q_ck_10 : q_chk 10 = true := by decide +kernel
theorem q_ck_11 : q_chk 11 = true := by decide +kernel
theorem q_ck_12 : q_chk 12 = true := by decide +kernel
theorem q_ck_13 : q_chk 13 = true := by decide +kernel
theorem q_ck_14 : q_chk 14 = true := by decide +kernel
theorem q_ck_15 : q_chk 15 = true := by decide +kernel
theorem q_ck_16 : q_chk 16 = true := by decide +kernel
theorem q_ck_17 : q_chk 17 = true := by decide +kernel
theorem q_ck_18 : q_chk 18 = true := by decide +kernel
theorem q_ck_19 : q_chk 19 = true := by decide +kernel
theorem q_ck_20 : q_chk 20 = true := by decide +kernel
theorem q_ck_21 : q_chk 21 = true := by decide +kernel
theorem q_ck_22 : q_chk 22 = true := by decide +kernel
theorem q_ck_23 : q_chk 23 = true := by decide +kernel
theorem q_ck_24 : q_chk 24 = true := by decide +kernel
theorem q_ck_25 : q_chk 25 = true := by decide +kernel
theorem q_ck_26 : q_chk 26 = true := by decide +kernel
theorem q_ck_27 : q_chk 27 = true := by decide +kernel
theorem q_ck_28 : q_chk 28 = true := by decide +kernel
theorem q_ck_29 : q_chk 29 = true := by decide +kernel
end
section
theorem q_ck_30 : q_chk 30 = true := by decide +kernel
theorem q_ck_31 : q_chk 31 = true := by decide +kernel
theorem q_ck_32 : q_chk 32 = true := by decide +kernel
theorem q_ck_33 : q_chk 33 = true := by decide +kernel
theorem q_ck_34 : q_chk 34 = true := by decide +kernel
theorem q_ck_35 : q_chk 35 = true := by decide +kernel
theorem q_ck_36 : q_chk 36 = true := by decide +kernel
theorem q_ck_37 : q_chk 37 = true := by decide +kernel
theorem q_ck_38 : q_chk 38 = true := by decide +kernel
theorem q_ck_39 : q_chk 39 = true := by decide +kernel
theorem q_ck_40 : q_chk 40 = true := by decide +kernel
theorem q_ck_41 : q_chk 41 = true := by decide +kernel
theorem q_ck_42 : q_chk 42 = true := by decide +kernel
theorem q_ck_43 : q_chk 43 = true := by decide +kernel
theorem q_ck_44 : q_chk 44 = true := by decide +kernel
theorem q_ck_45 : q_chk 45 = true := by decide +kernel
theorem q_ck_46 : q_chk 46 = true := by decide +kernel
theorem q_ck_47 : q_chk 47 = true := by decide +kernel
theorem q_ck_48 : q_chk 48 = true := by decide +kernel
theorem q_ck_49 : q_chk 49 = true := by decide +kernel
theorem q_ck_50 : q_chk 50 = true := by decide +kernel
theorem q_ck_51 : q_chk 51 = true := by decide +kernel
theorem q_ck_52 : q_chk 52 = true := by decide +kernel
theorem q_ck_53 : q_chk 53 = true := by decide +kernel
theorem q_ck_54 : q_chk 54 = true := by decide +kernel
theorem q_ck_55 : q_chk 55 = true := by decide +kernel
theorem q_ck_56 : q_chk 56 = true := by decide +kernel
theorem q_ck_57 : q_chk 57 = true := by decide +kernel
end
section
theorem q_ck_58 : q_chk 58 = true := by decide +kernel
theorem q_ck_59 : q_chk 59 = true := by decide +kernel
theorem q_ck_60 : q_chk 60 = true := by decide +kernel
theorem q_ck_61 : q_chk 61 = true := by decide +kernel
theorem q_ck_62 : q_chk 62 = true := by decide +kernel
theorem q_ck_63 : q_chk 63 = true := by decide +kernel
theorem q_ck_64 : q_chk 64 = true := by decide +kernel
theorem q_ck_65 : q_chk 65 = true := by decide +kernel
theorem q_ck_66 : q_chk 66 = true := by decide +kernel
theorem q_ck_67 : q_chk 67 = true := by decide +kernel
theorem q_ck_68 : q_chk 68 = true := by decide +kernel
theorem q_ck_69 : q_chk 69 = true := by decide +kernel
theorem q_ck_70 : q_chk 70 = true := by decide +kernel
theorem q_ck_71 : q_chk 71 = true := by decide +kernel
theorem q_ck_72 : q_chk 72 = true := by decide +kernel
theorem q_ck_73 : q_chk 73 = true := by decide +kernel
theorem q_ck_74 : q_chk 74 = true := by decide +kernel
theorem q_ck_75 : q_chk 75 = true := by decide +kernel
theorem q_ck_76 : q_chk 76 = true := by decide +kernel
theorem q_ck_77 : q_chk 77 = true := by decide +kernel
theorem q_ck_78 : q_chk 78 = true := by decide +kernel
theorem q_ck_79 : q_chk 79 = true := by decide +kernel
theorem q_ck_80 : q_chk 80 = true := by decide +kernel
theorem q_ck_81 : q_chk 81 = true := by decide +kernel
theorem q_ck_82 : q_chk 82 = true := by decide +kernel
theorem q_ck_83 : q_chk 83 = true := by decide +kernel
theorem q_ck_84 : q_chk 84 = true := by decide +kernel
theorem q_ck_85 : q_chk 85 = true := by decide +kernel
theorem q_ck_86 : q_chk 86 = true := by decide +kernel
theorem q_ck_87 : q_chk 87 = true := by decide +kernel
theorem q_ck_88 : q_chk 88 = true := by decide +kernel
end
section
theorem q_ck_89 : q_chk 89 = true := by decide +kernel
theorem q_ck_90 : q_chk 90 = true := by decide +kernel
theorem q_ck_91 : q_chk 91 = true := by decide +kernel
theorem q_ck_92 : q_chk 92 = true := by decide +kernel
theorem q_ck_93 : q_chk 93 = true := by decide +kernel
theorem q_ck_94 : q_chk 94 = true := by decide +kernel
theorem q_ck_95 : q_chk 95 = true := by decide +kernel
theorem q_ck_96 : q_chk 96 = true := by decide +kernel
theorem q_ck_97 : q_chk 97 = true := by decide +kernel
theorem q_ck_98 : q_chk 98 = true := by decide +kernel
theorem q_ck_99 : q_chk 99 = true := by decide +kernel
theorem q_ck_100 : q_chk 100 = true := by decide +kernel
theorem q_ck_101 : q_chk 101 = true := by decide +kernel
theorem q_ck_102 : q_chk 102 = true := by decide +kernel
theorem q_ck_103 : q_chk 103 = true := by decide +kernel
theorem q_ck_104 : q_chk 104 = true := by decide +kernel
theorem q_ck_105 : q_chk 105 = true := by decide +kernel
theorem q_ck_106 : q_chk 106 = true := by decide +kernel
theorem q_ck_107 : q_chk 107 = true := by decide +kernel
theorem q_ck_108 : q_chk 108 = true := by decide +kernel
theorem q_ck_109 : q_chk 109 = true := by decide +kernel
theorem q_ck_110 : q_chk 110 = true := by decide +kernel
theorem q_ck_111 : q_chk 111 = true := by decide +kernel
theorem q_ck_112 : q_chk 112 = true := by decide +kernel
theorem q_ck_113 : q_chk 113 = true := by decide +kernel
theorem q_ck_114 : q_chk 114 = true := by decide +kernel
theorem q_ck_115 : q_chk 115 = true := by decide +kernel
theorem q_ck_116 : q_chk 116 = true := by decide +kernel
theorem q_ck_117 : q_chk 117 = true := by decide +kernel
theorem q_ck_118 : q_chk 118 = true := by decide +kernel
theorem q_ck_119 : q_chk 119 = true := by decide +kernel
theorem q_ck_120 : q_chk 120 = true := by decide +kernel
end
section
theorem q_ck_121 : q_chk 121 = true := by decide +kernel
theorem q_ck_122 : q_chk 122 = true := by decide +kernel
theorem q_ck_123 : q_chk 123 = true := by decide +kernel
theorem q_ck_124 : q_chk 124 = true := by decide +kernel
theorem q_ck_125 : q_chk 125 = true := by decide +kernel
theorem q_ck_126 : q_chk 126 = true := by decide +kernel
theorem q_ck_127 : q_chk 127 = true := by decide +kernel
theorem q_ck_128 : q_chk 128 = true := by decide +kernel
theorem q_ck_129 : q_chk 129 = true := by decide +kernel
theorem q_ck_130 : q_chk 130 = true := by decide +kernel
theorem q_ck_131 : q_chk 131 = true := by decide +kernel
theorem q_ck_132 : q_chk 132 = true := by decide +kernel
theorem q_ck_133 : q_chk 133 = true := by decide +kernel
theorem q_ck_134 : q_chk 134 = true := by decide +kernel
theorem q_ck_135 : q_chk 135 = true := by decide +kernel
theorem q_ck_136 : q_chk 136 = true := by decide +kernel
theorem q_ck_137 : q_chk 137 = true := by decide +kernel
theorem q_ck_138 : q_chk 138 = true := by decide +kernel
end
section
theorem q_ck_139 : q_chk 139 = true := by decide +kernel
theorem q_ck_140 : q_chk 140 = true := by decide +kernel
theorem q_ck_141 : q_chk 141 = true := by decide +kernel
theorem q_ck_142 : q_chk 142 = true := by decide +kernel
theorem q_ck_143 : q_chk 143 = true := by decide +kernel
theorem q_ck_144 : q_chk 144 = true := by decide +kernel
theorem q_ck_145 : q_chk 145 = true := by decide +kernel
theorem q_ck_146 : q_chk 146 = true := by decide +kernel
theorem q_ck_147 : q_chk 147 = true := by decide +kernel
theorem q_ck_148 : q_chk 148 = true := by decide +kernel
theorem q_ck_149 : q_chk 149 = true := by decide +kernel
theorem q_ck_150 : q_chk 150 = true := by decide +kernel
theorem q_ck_151 : q_chk 151 = true := by decide +kernel
theorem q_ck_152 : q_chk 152 = true := by decide +kernel
theorem q_ck_153 : q_chk 153 = true := by decide +kernel
theorem q_ck_154 : q_chk 154 = true := by decide +kernel
theorem q_ck_155 : q_chk 155 = true := by decide +kernel
theorem q_ck_156 : q_chk 156 = true := by decide +kernel
end
section
theorem q_ck_157 : q_chk 157 = true := by decide +kernel
theorem q_ck_158 : q_chk 158 = true := by decide +kernel
theorem q_ck_159 : q_chk 159 = true := by decide +kernel
theorem q_ck_160 : q_chk 160 = true := by decide +kernel
theorem q_ck_161 : q_chk 161 = true := by decide +kernel
theorem q_ck_162 : q_chk 162 = true := by decide +kernel
theorem q_ck_163 : q_chk 163 = true := by decide +kernel
theorem q_ck_164 : q_chk 164 = true := by decide +kernel
theorem q_ck_165 : q_chk 165 = true := by decide +kernel
theorem q_ck_166 : q_chk 166 = true := by decide +kernel
theorem q_ck_167 : q_chk 167 = true := by decide +kernel
theorem q_ck_168 : q_chk 168 = true := by decide +kernel
theorem q_ck_169 : q_chk 169 = true := by decide +kernel
end
section

theorem q_ckL_0 : ∀ j, j < 50 → q_chk1 170 (0 + j) = true := by decide +kernel
theorem q_ckL_1 : ∀ j, j < 50 → q_chk1 170 (50 + j) = true := by decide +kernel
theorem q_ckL_2 : ∀ j, j < 50 → q_chk1 170 (100 + j) = true := by decide +kernel
theorem q_ckL_3 : ∀ j, j < 50 → q_chk1 170 (150 + j) = true := by decide +kernel
theorem q_ckL_4 : ∀ j, j < 50 → q_chk1 170 (200 + j) = true := by decide +kernel
theorem q_ckL_5 : ∀ j, j < 50 → q_chk1 170 (250 + j) = true := by decide +kernel
theorem q_ckL_6 : ∀ j, j < 50 → q_chk1 170 (300 + j) = true := by decide +kernel
theorem q_ckL_7 : ∀ j, j < 50 → q_chk1 170 (350 + j) = true := by decide +kernel
theorem q_ckL_8 : ∀ j, j < 50 → q_chk1 170 (400 + j) = true := by decide +kernel
theorem q_ckL_9 : ∀ j, j < 50 → q_chk1 170 (450 + j) = true := by decide +kernel
theorem q_ckL_10 : ∀ j, j < 50 → q_chk1 170 (500 + j) = true := by decide +kernel
theorem q_ckL_11 : ∀ j, j < 50 → q_chk1 170 (550 + j) = true := by decide +kernel
theorem q_ckL_12 : ∀ j, j < 50 → q_chk1 170 (600 + j) = true := by decide +kernel
theorem q_ckL_13 : ∀ j, j < 50 → q_chk1 170 (650 + j) = true := by decide +kernel
theorem q_ckL_14 : ∀ j, j < 50 → q_chk1 170 (700 + j) = true := by decide +kernel
theorem q_ckL_15 : ∀ j, j < 50 → q_chk1 170 (750 + j) = true := by decide +kernel
theorem q_ckL_16 : ∀ j, j < 50 → q_chk1 170 (800 + j) = true := by decide +kernel
theorem q_ck_170 : q_chk 170 = true := by
  unfold q_chk
  rw [List.all_eq_true]
  intro pc hpc
  have hpc : pc < q_len 170 := List.mem_range.mp hpc
  have hl : q_len 170 = 847 := rfl
  by_cases h0 : pc < 50
  · have := q_ckL_0 (pc - 0) (by omega)
    rwa [show 0 + (pc - 0) = pc by omega] at this
  by_cases h1 : pc < 100
  · have := q_ckL_1 (pc - 50) (by omega)
    rwa [show 50 + (pc - 50) = pc by omega] at this
  by_cases h2 : pc < 150
  · have := q_ckL_2 (pc - 100) (by omega)
    rwa [show 100 + (pc - 100) = pc by omega] at this
  by_cases h3 : pc < 200
  · have := q_ckL_3 (pc - 150) (by omega)
    rwa [show 150 + (pc - 150) = pc by omega] at this
  by_cases h4 : pc < 250
  · have := q_ckL_4 (pc - 200) (by omega)
    rwa [show 200 + (pc - 200) = pc by omega] at this
  by_cases h5 : pc < 300
  · have := q_ckL_5 (pc - 250) (by omega)
    rwa [show 250 + (pc - 250) = pc by omega] at this
  by_cases h6 : pc < 350
  · have := q_ckL_6 (pc - 300) (by omega)
    rwa [show 300 + (pc - 300) = pc by omega] at this
  by_cases h7 : pc < 400
  · have := q_ckL_7 (pc - 350) (by omega)
    rwa [show 350 + (pc - 350) = pc by omega] at this
  by_cases h8 : pc < 450
  · have := q_ckL_8 (pc - 400) (by omega)
    rwa [show 400 + (pc - 400) = pc by omega] at this
  by_cases h9 : pc < 500
  · have := q_ckL_9 (pc - 450) (by omega)
    rwa [show 450 + (pc - 450) = pc by omega] at this
  by_cases h10 : pc < 550
  · have := q_ckL_10 (pc - 500) (by omega)
    rwa [show 500 + (pc - 500) = pc by omega] at this
  by_cases h11 : pc < 600
  · have := q_ckL_11 (pc - 550) (by omega)
    rwa [show 550 + (pc - 550) = pc by omega] at this
  by_cases h12 : pc < 650
  · have := q_ckL_12 (pc - 600) (by omega)
    rwa [show 600 + (pc - 600) = pc by omega] at this
  by_cases h13 : pc < 700
  · have := q_ckL_13 (pc - 650) (by omega)
    rwa [show 650 + (pc - 650) = pc by omega] at this
  by_cases h14 : pc < 750
  · have := q_ckL_14 (pc - 700) (by omega)
    rwa [show 700 + (pc - 700) = pc by omega] at this
  by_cases h15 : pc < 800
  · have := q_ckL_15 (pc - 750) (by omega)
    rwa [show 750 + (pc - 750) = pc by omega] at this
  by_cases h16 : pc < 850
  · have := q_ckL_16 (pc - 800) (by omega)
    rwa [show 800 + (pc - 800) = pc by omega] at this
  omega
end
section
theorem q_chk_all : ∀ mi, mi < 171 → q_chk mi = true
  | 0, _ => q_ck_0
  | 1, _ => q_ck_1
  | 2, _ => q_ck_2
  | 3, _ => q_ck_3
  | 4, _ => q_ck_4
  | 5, _ => q_ck_5
  | 6, _ => q_ck_6
  | 7, _ => q_ck_7
  | 8, _ => q_ck_8
  | 9, _ => q_ck_9
  | 10, _ => q_ck_10
  | 11, _ => q_ck_11
  | 12, _ => q_ck_12
  | 13, _ => q_ck_13
  | 14, _ => q_ck_14
  | 15, _ => q_ck_15
  | 16, _ => q_ck_16
  | 17, _ => q_ck_17
  | 18, _ => q_ck_18
  | 19, _ => q_ck_19
  | 20, _ => q_ck_20
  | 21, _ => q_ck_21
  | 22, _ => q_ck_22
  | 23, _ => q_ck_23
  | 24, _ => q_ck_24
  | 25, _ => q_ck_25
  | 26, _ => q_ck_26
  | 27, _ => q_ck_27
  | 28, _ => q_ck_28
  | 29, _ => q_ck_29
  | 30, _ => q_ck_30
  | 31, _ => q_ck_31
  | 32, _ => q_ck_32
  | 33, _ => q_ck_33
  | 34, _ => q_ck_34
  | 35, _ => q_ck_35
  | 36, _ => q_ck_36
  | 37, _ => q_ck_37
  | 38, _ => q_ck_38
  | 39, _ => q_ck_39
  | 40, _ => q_ck_40
  | 41, _ => q_ck_41
  | 42, _ => q_ck_42
  | 43, _ => q_ck_43
  | 44, _ => q_ck_44
  | 45, _ => q_ck_45
  | 46, _ => q_ck_46
  | 47, _ => q_ck_47
  | 48, _ => q_ck_48
  | 49, _ => q_ck_49
  | 50, _ => q_ck_50
  | 51, _ => q_ck_51
  | 52, _ => q_ck_52
  | 53, _ => q_ck_53
  | 54, _ => q_ck_54
  | 55, _ => q_ck_55
  | 56, _ => q_ck_56
  | 57, _ => q_ck_57
  | 58, _ => q_ck_58
  | 59, _ => q_ck_59
  | 60, _ => q_ck_60
  | 61, _ => q_ck_61
  | 62, _ => q_ck_62
  | 63, _ => q_ck_63
  | 64, _ => q_ck_64
  | 65, _ => q_ck_65
  | 66, _ => q_ck_66
  | 67, _ => q_ck_67
  | 68, _ => q_ck_68
  | 69, _ => q_ck_69
  | 70, _ => q_ck_70
  | 71, _ => q_ck_71
  | 72, _ => q_ck_72
  | 73, _ => q_ck_73
  | 74, _ => q_ck_74
  | 75, _ => q_ck_75
  | 76, _ => q_ck_76
  | 77, _ => q_ck_77
  | 78, _ => q_ck_78
  | 79, _ => q_ck_79
  | 80, _ => q_ck_80
  | 81, _ => q_ck_81
  | 82, _ => q_ck_82
  | 83, _ => q_ck_83
  | 84, _ => q_ck_84
  | 85, _ => q_ck_85
  | 86, _ => q_ck_86
  | 87, _ => q_ck_87
  | 88, _ => q_ck_88
  | 89, _ => q_ck_89
  | 90, _ => q_ck_90
  | 91, _ => q_ck_91
  | 92, _ => q_ck_92
  | 93, _ => q_ck_93
  | 94, _ => q_ck_94
  | 95, _ => q_ck_95
  | 96, _ => q_ck_96
  | 97, _ => q_ck_97
  | 98, _ => q_ck_98
  | 99, _ => q_ck_99
  | 100, _ => q_ck_100
  | 101, _ => q_ck_101
  | 102, _ => q_ck_102
  | 103, _ => q_ck_103
  | 104, _ => q_ck_104
  | 105, _ => q_ck_105
  | 106, _ => q_ck_106
  | 107, _ => q_ck_107
  | 108, _ => q_ck_108
  | 109, _ => q_ck_109
  | 110, _ => q_ck_110
  | 111, _ => q_ck_111
  | 112, _ => q_ck_112
  | 113, _ => q_ck_113
  | 114, _ => q_ck_114
  | 115, _ => q_ck_115
  | 116, _ => q_ck_116
  | 117, _ => q_ck_117
  | 118, _ => q_ck_118
  | 119, _ => q_ck_119
  | 120, _ => q_ck_120
  | 121, _ => q_ck_121
  | 122, _ => q_ck_122
  | 123, _ => q_ck_123
  | 124, _ => q_ck_124
  | 125, _ => q_ck_125
  | 126, _ => q_ck_126
  | 127, _ => q_ck_127
  | 128, _ => q_ck_128
  | 129, _ => q_ck_129
  | 130, _ => q_ck_130
  | 131, _ => q_ck_131
  | 132, _ => q_ck_132
  | 133, _ => q_ck_133
  | 134, _ => q_ck_134
  | 135, _ => q_ck_135
  | 136, _ => q_ck_136
  | 137, _ => q_ck_137
  | 138, _ => q_ck_138
  | 139, _ => q_ck_139
  | 140, _ => q_ck_140
  | 141, _ => q_ck_141
  | 142, _ => q_ck_142
  | 143, _ => q_ck_143
  | 144, _ => q_ck_144
  | 145, _ => q_ck_145
  | 146, _ => q_ck_146
  | 147, _ => q_ck_147
  | 148, _ => q_ck_148
  | 149, _ => q_ck_149
  | 150, _ => q_ck_150
  | 151, _ => q_ck_151
  | 152, _ => q_ck_152
  | 153, _ => q_ck_153
  | 154, _ => q_ck_154
  | 155, _ => q_ck_155
  | 156, _ => q_ck_156
  | 157, _ => q_ck_157
  | 158, _ => q_ck_158
  | 159, _ => q_ck_159
  | 160, _ => q_ck_160
  | 161, _ => q_ck_161
  | 162, _ => q_ck_162
  | 163, _ => q_ck_163
  | 164, _ => q_ck_164
  | 165, _ => q_ck_165
  | 166, _ => q_ck_166
  | 167, _ => q_ck_167
  | 168, _ => q_ck_168
  | 169, _ => q_ck_169
  | 170, _ => q_ck_170
  | n + 171, h => absurd h (by omega)
theorem q_code_spec {mi pc n : Nat} {i : Instr} (h : q_code mi pc = some (i, n)) : mi < 171 ∧ ∃ r : Instr, decode (q_by mi) pc = .ok (r, n) ∧ (q_ln r = 0 ∨ q_ln r = n) ∧ q_cv mi pc r = some i := by
  have h0 := h
  unfold q_code at h0
  cases hc : (Nat.blt mi 171 && Nat.blt pc (q_len mi)) with
  | false => rw [hc] at h0; cases h0
  | true =>
    simp only [Bool.and_eq_true] at hc
    have h1 : mi < 171 := Nat.le_of_ble_eq_true hc.1
    have h2 : pc < q_len mi := Nat.le_of_ble_eq_true hc.2
    refine ⟨h1, ?_⟩
    have h3 := List.all_eq_true.mp (q_chk_all mi h1) pc (List.mem_range.mpr h2)
    unfold q_chk1 at h3
    rw [h] at h3
    dsimp only at h3
    cases hd : decode (q_by mi) pc with
    | error e => rw [hd] at h3; cases h3
    | ok rm =>
      obtain ⟨r, m⟩ := rm
      rw [hd] at h3
      simp only [Bool.and_eq_true, Bool.or_eq_true, decide_eq_true_eq] at h3
      obtain ⟨e1, e2, e3⟩ := h3
      subst e1
      refine ⟨r, rfl, ?_, e3⟩
      rcases e2 with e2 | e2
      · exact Or.inl (Nat.eq_of_beq_eq_true e2)
      · exact Or.inr (Nat.eq_of_beq_eq_true e2)
end
section
/-! what a memory of the small machine means in the heap -/
/-- the heap's size at the law's start; the addresses of the script and of the two static rows; class numbers, slots, array classes; what the outer rows hold -/
abbrev qG : Type := Nat × (Nat → Nat) × (Nat → ClassId) × (Nat → Nat → Nat) × (Nat → ClassId) × (Nat → Nat × (Nat → Int32))
abbrev qgB (G : qG) : Nat := G.1
abbrev qgX (G : qG) : Nat → Nat := G.2.1
abbrev qgD (G : qG) : va_G := (G.2.2.1, G.2.2.2.1)
abbrev qgA (G : qG) : Nat → ClassId := G.2.2.2.2.1
abbrev qgT (G : qG) : Nat → Nat × (Nat → Int32) := G.2.2.2.2.2
abbrev qgF (G : qG) : Nat → Prop := fun q => qgB G ≤ q
def q_ad (G : qG) (k : Nat) : Nat := if k < 1000 then qgB G + k else qgX G k
def q_rv (G : qG) (v : Value) : Value := match v with
  | .ref k => .ref (q_ad G k)
  | .int x => .int x
  | .long x => .long x
  | .float x => .float x
  | .double x => .double x
  | .null => .null
  | .retAddr x => .retAddr x
theorem q_rv_cat (G : qG) (v : Value) : (q_rv G v).category = v.category := by cases v <;> rfl
def q_ce (G : qG) (M : qM) (k : Nat) (sh : Nat × Nat) : va_E := if sh.1 < 100 then .inr (sh.1, (List.range (q_N sh.1)).map (fun j => q_rv G (q_fv M k sh.1 j))) else .inl (qgA G sh.1, (sh.2, .inl (q_row M k)))
def q_wl (G : qG) (M : qM) : va_W := (List.range M.1.length).map (fun k => (qgB G + k, q_ce G M k (M.1.getD k (0, 0))))
def q_sl (M : qM) : Nat := (M.1.map (fun x => x.2)).sum
def q_tys (G : qG) : List (ClassId × FieldType) := [(qgA G 100, .int), (qgA G 101, .char), (qgA G 102, .boolean)]
def q_KK (G : qG) (U : State) : Prop := va_K (qgD G) q_cls (q_tys G) U ∧ (∀ e, e = 1001 ∨ e = 1002 → va_Z "AlwaysThere" (q_sn e) "[I" (.ref (qgX G e)) (qgF G) U U.heap) ∧ (∀ e, 1000 ≤ e → e < 1003 → va_X (qgX G e) (qgT G e).1 (qgT G e).2 U U.heap ∧ qgX G e < qgB G) ∧ (∀ q ∈ q_mn, va_Nw (.methodLinkNest (q_cn q.1) q.2.1 (q_y q.2.2.1) "AlwaysThere") U) ∧ qgB G ≤ U.heap.size
def q_Pc (G : qG) (As : List Value) (M : qM) : Array Value → State → Prop := va_Pc (As.map (q_rv G)) (fun U => va_P (qgD G) q_cls (q_wl G M) U.heap ∧ U.heap.size = qgB G + M.1.length ∧ M.1.length ≤ 1000 ∧ q_KK G U)
def q_Qc (G : qG) (r : Option Value) (M : qM) : Array Value → State → Outcome → State → Prop := fun _ st o t => o = .returned (r.map (q_rv G)) ∧ va_P (qgD G) q_cls (q_wl G M) t.heap ∧ t.heap.size = qgB G + M.1.length ∧ M.1.length ≤ 1000 ∧ ∀ q, q < qgB G → t.heap[q]? = st.heap[q]?
def q_lv (G : qG) (ls : Array Slot) (nL : Nat) (b : Bool) (L : List (Option Value)) : Prop := ls.size = nL ∧ lv_wf ls ∧ L.length = nL ∧ (∀ (i : Nat) (v : Value), L[i]? = some (some v) → ls[i]? = some (.val (q_rv G v))) ∧ (b = false → ∀ (i : Nat) (v : Value), L[i]? = some (some v) → v.category = 1)
theorem q_nth_eq {α : Type} : ∀ (l : List α) (k : Nat), q_nth l k = l[k]?
  | [], k => by simp [q_nth]
  | a :: l, 0 => by simp [q_nth]
  | a :: l, k + 1 => by rw [q_nth, List.getElem?_cons_succ]; exact q_nth_eq l k
theorem q_ld_some {L : List (Option Value)} {i : Nat} {v : Value} (h : q_ld L i = some v) : L[i]? = some (some v) := by
  unfold q_ld at h
  rw [q_nth_eq] at h
  split at h
  · next w hw => cases h; exact hw
  · cases h
theorem q_put_sh (M : qM) (k : Nat) (f : Nat → Int32) : (q_put M k f).1 = M.1 := by unfold q_put; cases Nat.blt k 56 <;> rfl
theorem q_row_put (M : qM) (k j : Nat) (f : Nat → Int32) : q_row (q_put M k f) j = if j = k then f else q_row M j := by
  by_cases h : j = k
  · subst h
    rw [if_pos rfl]
    unfold q_row q_put
    cases Nat.blt j 56 <;> simp [va_up]
  · rw [if_neg h]
    unfold q_row q_put
    cases Nat.blt k 56 <;> cases Nat.blt j 56 <;> simp [va_up, h]
theorem q_fv_put (M : qM) (k k' ci j : Nat) (f : Nat → Int32) (h : k' ≠ k) : q_fv (q_put M k f) k' ci j = q_fv M k' ci j := by
  unfold q_fv
  rw [q_row_put, if_neg h]
  unfold q_put
  cases Nat.blt k 56 <;> rfl
theorem q_wl_at {G : qG} {M : qM} {k : Nat} {sh : Nat × Nat} (h : M.1[k]? = some sh) : (q_wl G M)[k]? = some (qgB G + k, q_ce G M k sh) := by
  have hk : k < M.1.length := (List.getElem?_eq_some_iff.mp h).1
  unfold q_wl
  rw [List.getElem?_map, List.getElem?_range hk, Option.map_some, List.getD_eq_getElem?_getD, h]
  rfl
theorem q_wl_inv {G : qG} {M : qM} {k : Nat} {x : Nat × va_E} (h : (q_wl G M)[k]? = some x) : ∃ sh, M.1[k]? = some sh ∧ x = (qgB G + k, q_ce G M k sh) := by
  have hk : k < M.1.length := by
    have := (List.getElem?_eq_some_iff.mp h).1
    simpa [q_wl] using this
  have h1 : M.1[k]? = some M.1[k] := List.getElem?_eq_getElem hk
  exact ⟨_, h1, Option.some.inj (h.symm.trans (q_wl_at h1))⟩
theorem q_D (G : qG) (M : qM) : va_D (qgF G) (q_wl G M) := by
  refine ⟨fun i j x y hx hy hxy => ?_, fun k x hx => ?_⟩
  · obtain ⟨_, _, rfl⟩ := q_wl_inv hx
    obtain ⟨_, _, rfl⟩ := q_wl_inv hy
    exact Nat.add_left_cancel hxy
  · obtain ⟨_, _, rfl⟩ := q_wl_inv hx
    exact Nat.le_add_right _ _
theorem q_P_set {G : qG} {M M2 : qM} {k : Nat} {sh : Nat × Nat} {H H1 : Heap} (hP : va_P (qgD G) q_cls (q_wl G M) H) (hk : M.1[k]? = some sh) (hM : M2.1 = M.1) (oq : ∀ q : Nat, q ≠ qgB G + k → H1[q]? = H[q]?) (hne : ∀ (k' : Nat) (sh' : Nat × Nat), k' ≠ k → q_ce G M2 k' sh' = q_ce G M k' sh') (hat : va_at (qgD G) q_cls (qgB G + k, q_ce G M2 k sh) H1) : va_P (qgD G) q_cls (q_wl G M2) H1 := by
  intro i x hx
  obtain ⟨sh', h1, rfl⟩ := q_wl_inv hx
  rw [hM] at h1
  by_cases hi : i = k
  · subst hi
    cases h1.symm.trans hk
    exact hat
  · rw [hne i sh' hi]
    refine (hP i _ (q_wl_at h1)).kept (oq _ ?_)
    show qgB G + i ≠ qgB G + k
    omega
theorem q_P_push {G : qG} {M M2 : qM} {sh : Nat × Nat} {H H1 : Heap} (hP : va_P (qgD G) q_cls (q_wl G M) H) (hM : M2.1 = M.1 ++ [sh]) (oq : ∀ q : Nat, q < qgB G + M.1.length → H1[q]? = H[q]?) (hne : ∀ (k' : Nat) (sh' : Nat × Nat), k' ≠ M.1.length → q_ce G M2 k' sh' = q_ce G M k' sh') (hat : va_at (qgD G) q_cls (qgB G + M.1.length, q_ce G M2 M.1.length sh) H1) : va_P (qgD G) q_cls (q_wl G M2) H1 := by
  intro i x hx
  obtain ⟨sh', h1, rfl⟩ := q_wl_inv hx
  rw [hM] at h1
  by_cases hi : i < M.1.length
  · rw [List.getElem?_append_left hi] at h1
    rw [hne i sh' (by omega)]
    refine (hP i _ (q_wl_at h1)).kept (oq _ ?_)
    show qgB G + i < qgB G + M.1.length
    omega
  · have hl : i < (M.1 ++ [sh]).length := (List.getElem?_eq_some_iff.mp h1).1
    have hi2 : i = M.1.length := by simp at hl; omega
    subst hi2
    rw [List.getElem?_append_right (Nat.le_refl _), Nat.sub_self] at h1
    cases h1
    exact hat
theorem q_KK_moved {G : qG} {s U : State} (h : q_KK G s) (hW : s.WarmedH U.vm) (hq : ∀ q : Nat, q < qgB G → U.heap[q]? = s.heap[q]?) (hz : qgB G ≤ U.heap.size) : q_KK G U := by
  obtain ⟨h1, h2, h3, h4, h5⟩ := h
  refine ⟨h1.moved hW.alike, fun e he => ((h2 e he).moved hW.alike).kept (fun a _ hA => hq a (Nat.not_le.mp hA)), fun e ha hb => ?_, fun q hm => va_Nw.warmM hW (h4 q hm), hz⟩
  obtain ⟨x1, x2⟩ := h3 e ha hb
  exact ⟨(x1.moved hW.alike).kept (hq _ x2), x2⟩
theorem q_Pc_blind (G : qG) (As : List Value) (M : qM) : FrameBlind (q_Pc G As M) := by
  intro a U g mk h
  obtain ⟨h0, h1, h2, h3, h4⟩ := h
  exact ⟨h0, h1, h2, h3, q_KK_moved h4 (State.WarmedH.refl U) (fun _ _ => rfl) h4.2.2.2.2⟩
theorem q_ad_lt {G : qG} {k : Nat} (h : k < 1000) : q_ad G k = qgB G + k := if_pos h
theorem q_ad_ge {G : qG} {k : Nat} (h : 1000 ≤ k) : q_ad G k = qgX G k := if_neg (Nat.not_lt.mpr h)
theorem q_cls_at {ci : Nat} (h : ci < 9) : q_cls[ci]? = some (q_cn ci, q_T ci, q_N ci) := by
  unfold q_cls
  rw [List.getElem?_map, List.getElem?_range h]
  rfl
/-- the locals as the kit lists them -/
def q_prs (G : qG) (L : List (Option Value)) : List (Nat × Value) := (List.range L.length).filterMap (fun i => (q_ld L i).map (fun v => (i, q_rv G v)))
theorem q_prs_mem {G : qG} {L : List (Option Value)} {i : Nat} {w : Value} : (i, w) ∈ q_prs G L ↔ ∃ v, L[i]? = some (some v) ∧ w = q_rv G v := by
  unfold q_prs
  rw [List.mem_filterMap]
  constructor
  · rintro ⟨j, hj, h⟩
    cases hl : q_ld L j with
    | none => rw [hl] at h; cases h
    | some v =>
      rw [hl] at h
      cases h
      exact ⟨v, q_ld_some hl, rfl⟩
  · rintro ⟨v, hv, rfl⟩
    refine ⟨i, List.mem_range.mpr (List.getElem?_eq_some_iff.mp hv).1, ?_⟩
    unfold q_ld
    rw [q_nth_eq, hv]
    rfl
theorem q_lv_has {G : qG} {ls : Array Slot} {nL : Nat} {b : Bool} {L : List (Option Value)} (h : q_lv G ls nL b L) : lv_has ls nL (q_prs G L) := by
  refine ⟨h.1, h.2.1, fun q hq => ?_⟩
  obtain ⟨i, w⟩ := q
  obtain ⟨v, hv, rfl⟩ := q_prs_mem.mp hq
  exact h.2.2.2.1 i v hv
theorem q_ok1_spec {L : List (Option Value)} {i j : Nat} {v : Value} (h : q_ok1 L i = true) (hj : j + 1 = i) (hv : L[j]? = some (some v)) : v.category = 1 := by
  subst hj
  unfold q_ok1 at h
  dsimp only at h
  rw [q_nth_eq, hv] at h
  exact Nat.eq_of_beq_eq_true h
theorem q_st1_spec {L L' : List (Option Value)} {i : Nat} {v : Value} (h : q_st1 L i v = some L') : L' = L.set i (some v) ∧ i < L.length := by
  unfold q_st1 at h
  cases hc : Nat.blt i L.length with
  | false => rw [hc] at h; cases h
  | true =>
    rw [hc] at h
    exact ⟨(Option.some.inj h).symm, Nat.le_of_ble_eq_true hc⟩
theorem q_st1c_spec {L L' : List (Option Value)} {i : Nat} {v : Value} (h : q_st1c L i v = some L') : q_st1 L i v = some L' ∧ q_ok1 L i = true := by
  unfold q_st1c at h
  cases hc : (Nat.blt i L.length && q_ok1 L i) with
  | false => rw [hc] at h; cases h
  | true =>
    rw [hc] at h
    simp only [Bool.and_eq_true] at hc
    refine ⟨?_, hc.2⟩
    unfold q_st1
    rw [hc.1]
    exact h
theorem q_ok1_of {L : List (Option Value)} {i : Nat} (h : ∀ (j : Nat) (v : Value), j + 1 = i → L[j]? = some (some v) → v.category = 1) : q_ok1 L i = true := by
  unfold q_ok1
  cases i with
  | zero => rfl
  | succ j =>
    dsimp only
    rw [q_nth_eq]
    cases hl : L[j]? with
    | none => rfl
    | some w =>
      cases w with
      | none => rfl
      | some v =>
        dsimp only
        rw [h j v rfl hl]
        rfl
theorem q_ok1_lv {G : qG} {ls : Array Slot} {nL : Nat} {L : List (Option Value)} {i : Nat} (h : q_lv G ls nL false L) : q_ok1 L i = true := q_ok1_of (fun j v _ hv => h.2.2.2.2 rfl j v hv)
theorem q_ok1_int {G : qG} {ls : Array Slot} {nL : Nat} {b : Bool} {L : List (Option Value)} {i : Nat} {x : Value} (h : q_lv G ls nL b L) (hx : L[i]? = some (some x)) : q_ok1 L i = true := by
  refine q_ok1_of (fun j v hj hv => ?_)
  rcases lv_cat v with z | z
  · exact z
  · exfalso
    have h1 := h.2.2.2.1 j v hv
    have h2 := h.2.1.1 j _ h1 (by rw [q_rv_cat]; exact z)
    have h3 := h.2.2.2.1 i x hx
    rw [← hj, h2] at h3
    cases h3
theorem q_st2_spec {L L' : List (Option Value)} {i : Nat} {v : Value} (h : q_st2 L i v = some L') : L' = (L.set i (some v)).set (i + 1) none ∧ i + 1 < L.length ∧ q_ok1 L i = true := by
  unfold q_st2 at h
  cases hc : (Nat.blt (i + 1) L.length && q_ok1 L i) with
  | false => rw [hc] at h; cases h
  | true =>
    rw [hc] at h
    simp only [Bool.and_eq_true] at hc
    exact ⟨(Option.some.inj h).symm, Nat.le_of_ble_eq_true hc.1, hc.2⟩
theorem q_lv_st1 {G : qG} {ls ls0 : Array Slot} {nL : Nat} {b : Bool} {L L' : List (Option Value)} {i : Nat} {v : Value} (h0 : q_lv G ls0 nL b L) (ho : q_ok1 L i = true) (hv1 : v.category = 1) (h : q_st1 L i v = some L') (hh : lv_has ls nL ((i, q_rv G v) :: (q_prs G L).filter (fun q => !(q.1 == i) && !(q.1 + 1 == i && q.2.category == 2)))) : q_lv G ls nL b L' := by
  obtain ⟨rfl, hi⟩ := q_st1_spec h
  refine ⟨hh.1, hh.2.1, by rw [List.length_set]; exact h0.2.2.1, fun j w hj => ?_, fun hb j w hj => ?_⟩
  rotate_left
  · by_cases hji : j = i
    · subst hji
      rw [List.getElem?_set_self hi] at hj
      cases hj
      exact hv1
    · rw [List.getElem?_set_ne (Ne.symm hji)] at hj
      exact h0.2.2.2.2 hb j w hj
  by_cases hji : j = i
  · subst hji
    rw [List.getElem?_set_self hi] at hj
    cases hj
    exact hh.2.2 _ List.mem_cons_self
  · rw [List.getElem?_set_ne (Ne.symm hji)] at hj
    refine hh.2.2 (j, q_rv G w) (List.mem_cons_of_mem _ (List.mem_filter.mpr ⟨q_prs_mem.mpr ⟨w, hj, rfl⟩, ?_⟩))
    have h2 : ¬ (j + 1 = i ∧ (q_rv G w).category = 2) := fun z => by
      have := q_ok1_spec ho z.1 hj
      rw [q_rv_cat] at z
      omega
    by_cases h3 : j + 1 = i
    · have h4 : ¬ (q_rv G w).category = 2 := fun z => h2 ⟨h3, z⟩
      simp [hji, h4]
    · simp [hji, h3]
theorem q_lv_st2 {G : qG} {ls : Array Slot} {nL : Nat} {b : Bool} (hbt : b = true) {L L' : List (Option Value)} {i : Nat} {v : Value} (hl : L.length = nL) (h : q_st2 L i v = some L') (hh : lv_has ls nL ((i, q_rv G v) :: (q_prs G L).filter (fun q => !(q.1 == i) && (!(q.1 == i + 1) && !(q.1 + 1 == i && q.2.category == 2))))) : q_lv G ls nL b L' := by
  obtain ⟨rfl, hi, ho⟩ := q_st2_spec h
  refine ⟨hh.1, hh.2.1, by rw [List.length_set, List.length_set]; exact hl, fun j w hj => ?_, fun hb => by rw [hbt] at hb; cases hb⟩
  by_cases hj1 : j = i + 1
  · subst hj1
    rw [List.getElem?_set_self (by rw [List.length_set]; exact hi)] at hj
    cases hj
  rw [List.getElem?_set_ne (Ne.symm hj1)] at hj
  by_cases hji : j = i
  · subst hji
    rw [List.getElem?_set_self (by omega)] at hj
    cases hj
    exact hh.2.2 _ List.mem_cons_self
  · rw [List.getElem?_set_ne (Ne.symm hji)] at hj
    refine hh.2.2 (j, q_rv G w) (List.mem_cons_of_mem _ (List.mem_filter.mpr ⟨q_prs_mem.mpr ⟨w, hj, rfl⟩, ?_⟩))
    have h2 : ¬ (j + 1 = i ∧ (q_rv G w).category = 2) := fun z => by
      have := q_ok1_spec ho z.1 hj
      rw [q_rv_cat] at z
      omega
    by_cases h3 : j + 1 = i
    · have h4 : ¬ (q_rv G w).category = 2 := fun z => h2 ⟨h3, z⟩
      simp [hji, hj1, h4]
    · simp [hji, hj1, h3]
theorem q_split_spec : ∀ (n : Nat) (st acc As rest : List Value), q_split n st acc = some (As, rest) → ∃ X, As = X ++ acc ∧ X.length = n ∧ st = X.reverse ++ rest
  | 0, st, acc, As, rest, h => by
    unfold q_split at h
    cases h
    exact ⟨[], rfl, rfl, rfl⟩
  | n + 1, [], acc, As, rest, h => by unfold q_split at h; cases h
  | n + 1, v :: st, acc, As, rest, h => by
    unfold q_split at h
    obtain ⟨X, h1, h2, h3⟩ := q_split_spec n st (v :: acc) As rest h
    refine ⟨X ++ [v], by rw [h1]; simp, by simp [h2], ?_⟩
    rw [h3]
    simp
theorem q_split0 {n : Nat} {st As rest : List Value} (h : q_split n st [] = some (As, rest)) : As.length = n ∧ st = As.reverse ++ rest := by
  obtain ⟨X, h1, h2, h3⟩ := q_split_spec n st [] As rest h
  rw [List.append_nil] at h1
  subst h1
  exact ⟨h2, h3⟩
/-- the locals with which a method begins -/
theorem q_args_mem (G : qG) : ∀ (As : List Value) (o i : Nat) (v : Value), q_one As = true → As[i]? = some v → (o + i, q_rv G v) ∈ lv_args o (As.map (q_rv G))
  | [], o, i, v, _, h => by simp at h
  | a :: As, o, i, v, h1, h => by
    unfold q_one at h1
    rw [List.all_cons, Bool.and_eq_true] at h1
    have hc : a.category = 1 := Nat.eq_of_beq_eq_true h1.1
    rw [List.map_cons, lv_args, q_rv_cat, if_neg (by omega)]
    cases i with
    | zero =>
      rw [List.getElem?_cons_zero] at h
      cases h
      exact List.mem_cons_self
    | succ i =>
      rw [List.getElem?_cons_succ] at h
      have := q_args_mem G As (o + 1) i v h1.2 h
      rw [show o + (i + 1) = o + 1 + i by omega]
      exact List.mem_cons_of_mem _ this
theorem q_sl_len (G : qG) : ∀ (As : List Value), q_one As = true → (lg_sl (As.map (q_rv G))).length = As.length
  | [], _ => rfl
  | a :: As, h1 => by
    unfold q_one at h1
    rw [List.all_cons, Bool.and_eq_true] at h1
    have hc : a.category = 1 := Nat.eq_of_beq_eq_true h1.1
    have ih := q_sl_len G As h1.2
    unfold lg_sl at ih ⊢
    rw [List.map_cons, List.flatMap_cons, q_rv_cat, if_neg (by omega), List.length_append, ih]
    simp
    omega
theorem q_sum_eq (G : qG) (st : List Value) : ((st.map (q_rv G)).map (fun v => v.category)).sum = q_sum st := by
  unfold q_sum
  rw [List.map_map]
  congr 1
  apply List.map_congr_left
  intro v _
  exact q_rv_cat G v
end
section
/-! each instruction of the small machine is the machine's own -/
def q_Cx (G : qG) (p : Program) (R : Room) (s : State) (m : MethodId) (args : Array Value) (meth : Method) (c : Code) (mi d : Nat) : Prop := p.tables.exec = Jvm.exec ∧ c.code = q_by mi ∧ meth.sig.returnType = q_rt mi ∧ c.maxLocals = q_ml mi ∧ s.vm.findClass (q_own mi) = some m.cls ∧ (∀ w ∈ q_tbl, w.before args s = true) ∧ meth.locks = false ∧ meth.name = (q_y mi).name ∧ q_KK G s ∧ d + 2 ≤ R.frames ∧ 64 * (d + 2) ≤ R.locals
def q_At (G : qG) (s : State) (mi : Nat) (L : List (Option Value)) (M : qM) (H : Heap) (locs : List Loc) (ls : Array Slot) : Prop := va_P (qgD G) q_cls (q_wl G M) H ∧ H.size = qgB G + M.1.length ∧ M.1.length ≤ 1000 ∧ va_S (qgF G) s.heap H locs ∧ q_lv G ls (q_ml mi) (q_lg mi) L
def q_TT (G : qG) (p : Program) (l : Launch) (e : Env) (R : Room) (s : State) (m : MethodId) (args : Array Value) (below : List Frame) (meth : Method) (c : Code) (mi mc ms nM sM : Nat) (Q : State → Prop) (S : qS) : Prop :=
  ∀ (H : Heap) (locs : List Loc) (cells slots : Nat) (ls : Array Slot), q_At G s mi S.2.1 S.2.2.2 H locs ls → cells + nM ≤ mc + S.2.2.2.1.length → slots + sM ≤ ms + q_sl S.2.2.2 → W p l e R s m args below meth c H locs cells slots Q (F0 m S.1 ls (S.2.2.1.map (q_rv G)))
def q_Gd (G : qG) (p : Program) (l : Launch) (e : Env) (R : Room) (s : State) (m : MethodId) (args : Array Value) (below : List Frame) (meth : Method) (c : Code) (mi mc ms nM sM : Nat) (Q : State → Prop) (a : qR) (S : qS) : Prop :=
  ∃ S' : qS, a = .inl S' ∧ (S'.2.2.2.1.length ≤ nM → q_sl S'.2.2.2 ≤ sM → q_TT G p l e R s m args below meth c mi mc ms nM sM Q S' → q_TT G p l e R s m args below meth c mi mc ms nM sM Q S)
section QI
variable {G : qG} {p : Program} {l : Launch} {e : Env} {R : Room} {s : State} {m : MethodId} {args : Array Value} {below : List Frame} {meth : Method} {c : Code} {mi d mc ms nM sM : Nat} {Q : State → Prop} {pc n : Nat} {L : List (Option Value)} {st : List Value} {M : qM} {a : qR}
theorem qi_aload_n {j : Fin 4} (C : q_Cx G p R s m args meth c mi d) (hd : decode (q_by mi) pc = .ok (.aload_n j, n)) (hn : n = 1) (ha : q_do (qgT G) pc L st M (.aload j) n = some a) : q_Gd G p l e R s m args below meth c mi mc ms nM sM Q a (pc, L, st, M) := by
  subst hn
  unfold q_do at ha
  dsimp only at ha
  split at ha
  · next w hw =>
    cases ha
    exact ⟨_, rfl, fun _ _ K H locs cells slots ls hA hc hs => lv_aload_n C.1 C.2.1 hd rfl (hA.2.2.2.2.2.2.2.1 _ _ (q_ld_some hw)) (K H locs cells slots ls hA hc hs)⟩
  · cases ha
theorem qi_aload {j : Nat} (C : q_Cx G p R s m args meth c mi d) (hd : decode (q_by mi) pc = .ok (.aload j, n)) (hn : n = 2) (ha : q_do (qgT G) pc L st M (.aload j) n = some a) : q_Gd G p l e R s m args below meth c mi mc ms nM sM Q a (pc, L, st, M) := by
  subst hn
  unfold q_do at ha
  dsimp only at ha
  split at ha
  · next w hw =>
    cases ha
    exact ⟨_, rfl, fun _ _ K H locs cells slots ls hA hc hs => lv_aload C.1 C.2.1 hd (hA.2.2.2.2.2.2.2.1 _ _ (q_ld_some hw)) (K H locs cells slots ls hA hc hs)⟩
  · cases ha
theorem qi_iload_n {j : Fin 4} (C : q_Cx G p R s m args meth c mi d) (hd : decode (q_by mi) pc = .ok (.iload_n j, n)) (hn : n = 1) (ha : q_do (qgT G) pc L st M (.iload j) n = some a) : q_Gd G p l e R s m args below meth c mi mc ms nM sM Q a (pc, L, st, M) := by
  subst hn
  unfold q_do at ha
  dsimp only at ha
  split at ha
  · next w hw =>
    cases ha
    exact ⟨_, rfl, fun _ _ K H locs cells slots ls hA hc hs => lv_iload_n C.1 C.2.1 hd rfl (hA.2.2.2.2.2.2.2.1 _ _ (q_ld_some hw)) (K H locs cells slots ls hA hc hs)⟩
  · cases ha
theorem qi_iload {j : Nat} (C : q_Cx G p R s m args meth c mi d) (hd : decode (q_by mi) pc = .ok (.iload j, n)) (hn : n = 2) (ha : q_do (qgT G) pc L st M (.iload j) n = some a) : q_Gd G p l e R s m args below meth c mi mc ms nM sM Q a (pc, L, st, M) := by
  subst hn
  unfold q_do at ha
  dsimp only at ha
  split at ha
  · next w hw =>
    cases ha
    exact ⟨_, rfl, fun _ _ K H locs cells slots ls hA hc hs => lv_iload C.1 C.2.1 hd (hA.2.2.2.2.2.2.2.1 _ _ (q_ld_some hw)) (K H locs cells slots ls hA hc hs)⟩
  · cases ha
theorem qi_lload_n {j : Fin 4} (C : q_Cx G p R s m args meth c mi d) (hd : decode (q_by mi) pc = .ok (.lload_n j, n)) (hn : n = 1) (ha : q_do (qgT G) pc L st M (.lload j) n = some a) : q_Gd G p l e R s m args below meth c mi mc ms nM sM Q a (pc, L, st, M) := by
  subst hn
  unfold q_do at ha
  dsimp only at ha
  split at ha
  · next w hw =>
    cases ha
    exact ⟨_, rfl, fun _ _ K H locs cells slots ls hA hc hs => lv_lload_n C.1 C.2.1 hd rfl (hA.2.2.2.2.2.2.2.1 _ _ (q_ld_some hw)) (K H locs cells slots ls hA hc hs)⟩
  · cases ha
theorem qi_lload {j : Nat} (C : q_Cx G p R s m args meth c mi d) (hd : decode (q_by mi) pc = .ok (.lload j, n)) (hn : n = 2) (ha : q_do (qgT G) pc L st M (.lload j) n = some a) : q_Gd G p l e R s m args below meth c mi mc ms nM sM Q a (pc, L, st, M) := by
  subst hn
  unfold q_do at ha
  dsimp only at ha
  split at ha
  · next w hw =>
    cases ha
    exact ⟨_, rfl, fun _ _ K H locs cells slots ls hA hc hs => lv_lload C.1 C.2.1 hd (hA.2.2.2.2.2.2.2.1 _ _ (q_ld_some hw)) (K H locs cells slots ls hA hc hs)⟩
  · cases ha
theorem qi_astore_n (hlg : q_lg mi = false) {j : Fin 4} (C : q_Cx G p R s m args meth c mi d) (hd : decode (q_by mi) pc = .ok (.astore_n j, n)) (hn : n = 1) (ha : q_do (qgT G) pc L st M (.astore j) n = some a) : q_Gd G p l e R s m args below meth c mi mc ms nM sM Q a (pc, L, st, M) := by
  subst hn
  unfold q_do at ha
  dsimp only at ha
  split at ha
  · next w r =>
    split at ha
    · next L' hL =>
      cases ha
      exact ⟨_, rfl, fun _ _ K H locs cells slots ls hA hc hs => lv_astore_n C.1 C.2.1 hd rfl (q_lv_has hA.2.2.2.2) (by rw [← hA.2.2.2.2.2.2.1]; exact (q_st1_spec hL).2) rfl (fun ls' h' => K H locs cells slots ls' ⟨hA.1, hA.2.1, hA.2.2.1, hA.2.2.2.1, q_lv_st1 hA.2.2.2.2 (q_ok1_lv (hlg ▸ hA.2.2.2.2)) rfl hL h'⟩ hc hs)⟩
    · cases ha
  · cases ha
theorem qi_astore (hlg : q_lg mi = false) {j : Nat} (C : q_Cx G p R s m args meth c mi d) (hd : decode (q_by mi) pc = .ok (.astore j, n)) (hn : n = 2) (ha : q_do (qgT G) pc L st M (.astore j) n = some a) : q_Gd G p l e R s m args below meth c mi mc ms nM sM Q a (pc, L, st, M) := by
  subst hn
  unfold q_do at ha
  dsimp only at ha
  split at ha
  · next w r =>
    split at ha
    · next L' hL =>
      cases ha
      exact ⟨_, rfl, fun _ _ K H locs cells slots ls hA hc hs => lv_astore C.1 C.2.1 hd (q_lv_has hA.2.2.2.2) (by rw [← hA.2.2.2.2.2.2.1]; exact (q_st1_spec hL).2) rfl (fun ls' h' => K H locs cells slots ls' ⟨hA.1, hA.2.1, hA.2.2.1, hA.2.2.2.1, q_lv_st1 hA.2.2.2.2 (q_ok1_lv (hlg ▸ hA.2.2.2.2)) rfl hL h'⟩ hc hs)⟩
    · cases ha
  · cases ha
theorem qi_istore_n (hlg : q_lg mi = false) {j : Fin 4} (C : q_Cx G p R s m args meth c mi d) (hd : decode (q_by mi) pc = .ok (.istore_n j, n)) (hn : n = 1) (ha : q_do (qgT G) pc L st M (.istore j) n = some a) : q_Gd G p l e R s m args below meth c mi mc ms nM sM Q a (pc, L, st, M) := by
  subst hn
  unfold q_do at ha
  dsimp only at ha
  split at ha
  · next w r =>
    split at ha
    · next L' hL =>
      cases ha
      exact ⟨_, rfl, fun _ _ K H locs cells slots ls hA hc hs => lv_istore_n C.1 C.2.1 hd rfl (q_lv_has hA.2.2.2.2) (by rw [← hA.2.2.2.2.2.2.1]; exact (q_st1_spec hL).2) rfl (fun ls' h' => K H locs cells slots ls' ⟨hA.1, hA.2.1, hA.2.2.1, hA.2.2.2.1, q_lv_st1 hA.2.2.2.2 (q_ok1_lv (hlg ▸ hA.2.2.2.2)) rfl hL h'⟩ hc hs)⟩
    · cases ha
  · cases ha
theorem qi_istore (hlg : q_lg mi = false) {j : Nat} (C : q_Cx G p R s m args meth c mi d) (hd : decode (q_by mi) pc = .ok (.istore j, n)) (hn : n = 2) (ha : q_do (qgT G) pc L st M (.istore j) n = some a) : q_Gd G p l e R s m args below meth c mi mc ms nM sM Q a (pc, L, st, M) := by
  subst hn
  unfold q_do at ha
  dsimp only at ha
  split at ha
  · next w r =>
    split at ha
    · next L' hL =>
      cases ha
      exact ⟨_, rfl, fun _ _ K H locs cells slots ls hA hc hs => lv_istore C.1 C.2.1 hd (q_lv_has hA.2.2.2.2) (by rw [← hA.2.2.2.2.2.2.1]; exact (q_st1_spec hL).2) rfl (fun ls' h' => K H locs cells slots ls' ⟨hA.1, hA.2.1, hA.2.2.1, hA.2.2.2.1, q_lv_st1 hA.2.2.2.2 (q_ok1_lv (hlg ▸ hA.2.2.2.2)) rfl hL h'⟩ hc hs)⟩
    · cases ha
  · cases ha
theorem qi_fstore_n (hlg : q_lg mi = true) {j : Fin 4} (C : q_Cx G p R s m args meth c mi d) (hd : decode (q_by mi) pc = .ok (.istore_n j, n)) (hn : n = 1) (ha : q_do (qgT G) pc L st M (.fstore j) n = some a) : q_Gd G p l e R s m args below meth c mi mc ms nM sM Q a (pc, L, st, M) := by
  subst hn
  unfold q_do at ha
  dsimp only at ha
  split at ha
  · next w r =>
    split at ha
    · next L' hL =>
      cases ha
      exact ⟨_, rfl, fun _ _ K H locs cells slots ls hA hc hs => lv_istore_n C.1 C.2.1 hd rfl (q_lv_has hA.2.2.2.2) (by rw [← hA.2.2.2.2.2.2.1]; exact (q_st1_spec (q_st1c_spec hL).1).2) rfl (fun ls' h' => K H locs cells slots ls' ⟨hA.1, hA.2.1, hA.2.2.1, hA.2.2.2.1, q_lv_st1 hA.2.2.2.2 (q_st1c_spec hL).2 rfl (q_st1c_spec hL).1 h'⟩ hc hs)⟩
    · cases ha
  · cases ha
theorem qi_fstore (hlg : q_lg mi = true) {j : Nat} (C : q_Cx G p R s m args meth c mi d) (hd : decode (q_by mi) pc = .ok (.istore j, n)) (hn : n = 2) (ha : q_do (qgT G) pc L st M (.fstore j) n = some a) : q_Gd G p l e R s m args below meth c mi mc ms nM sM Q a (pc, L, st, M) := by
  subst hn
  unfold q_do at ha
  dsimp only at ha
  split at ha
  · next w r =>
    split at ha
    · next L' hL =>
      cases ha
      exact ⟨_, rfl, fun _ _ K H locs cells slots ls hA hc hs => lv_istore C.1 C.2.1 hd (q_lv_has hA.2.2.2.2) (by rw [← hA.2.2.2.2.2.2.1]; exact (q_st1_spec (q_st1c_spec hL).1).2) rfl (fun ls' h' => K H locs cells slots ls' ⟨hA.1, hA.2.1, hA.2.2.1, hA.2.2.2.1, q_lv_st1 hA.2.2.2.2 (q_st1c_spec hL).2 rfl (q_st1c_spec hL).1 h'⟩ hc hs)⟩
    · cases ha
  · cases ha
theorem qi_lstore_n (hlg : q_lg mi = true) {j : Fin 4} (C : q_Cx G p R s m args meth c mi d) (hd : decode (q_by mi) pc = .ok (.lstore_n j, n)) (hn : n = 1) (ha : q_do (qgT G) pc L st M (.lstore j) n = some a) : q_Gd G p l e R s m args below meth c mi mc ms nM sM Q a (pc, L, st, M) := by
  subst hn
  unfold q_do at ha
  dsimp only at ha
  split at ha
  · next w r =>
    split at ha
    · next L' hL =>
      cases ha
      exact ⟨_, rfl, fun _ _ K H locs cells slots ls hA hc hs => lv_lstore_n C.1 C.2.1 hd rfl (q_lv_has hA.2.2.2.2) (by rw [← hA.2.2.2.2.2.2.1]; exact (q_st2_spec hL).2.1) rfl (fun ls' h' => K H locs cells slots ls' ⟨hA.1, hA.2.1, hA.2.2.1, hA.2.2.2.1, q_lv_st2 hlg hA.2.2.2.2.2.2.1 hL h'⟩ hc hs)⟩
    · cases ha
  · cases ha
theorem qi_lstore (hlg : q_lg mi = true) {j : Nat} (C : q_Cx G p R s m args meth c mi d) (hd : decode (q_by mi) pc = .ok (.lstore j, n)) (hn : n = 2) (ha : q_do (qgT G) pc L st M (.lstore j) n = some a) : q_Gd G p l e R s m args below meth c mi mc ms nM sM Q a (pc, L, st, M) := by
  subst hn
  unfold q_do at ha
  dsimp only at ha
  split at ha
  · next w r =>
    split at ha
    · next L' hL =>
      cases ha
      exact ⟨_, rfl, fun _ _ K H locs cells slots ls hA hc hs => lv_lstore C.1 C.2.1 hd (q_lv_has hA.2.2.2.2) (by rw [← hA.2.2.2.2.2.2.1]; exact (q_st2_spec hL).2.1) rfl (fun ls' h' => K H locs cells slots ls' ⟨hA.1, hA.2.1, hA.2.2.1, hA.2.2.2.1, q_lv_st2 hlg hA.2.2.2.2.2.2.1 hL h'⟩ hc hs)⟩
    · cases ha
  · cases ha
theorem qi_iconst {v : Int} (C : q_Cx G p R s m args meth c mi d) (hd : decode (q_by mi) pc = .ok (.iconst v, n)) (hn : n = 1) (ha : q_do (qgT G) pc L st M (.iconst v) n = some a) : q_Gd G p l e R s m args below meth c mi mc ms nM sM Q a (pc, L, st, M) := by
  subst hn
  cases ha
  exact ⟨_, rfl, fun _ _ K H locs cells slots ls hA hc hs => lv_iconst C.1 C.2.1 hd rfl (K H locs cells slots ls hA hc hs)⟩
theorem qi_bipush {v : Int} (hv : (Int8.ofInt v).toInt32 = Int32.ofInt v) (C : q_Cx G p R s m args meth c mi d) (hd : decode (q_by mi) pc = .ok (.bipush v, n)) (hn : n = 2) (ha : q_do (qgT G) pc L st M (.iconst v) n = some a) : q_Gd G p l e R s m args below meth c mi mc ms nM sM Q a (pc, L, st, M) := by
  subst hn
  cases ha
  exact ⟨_, rfl, fun _ _ K H locs cells slots ls hA hc hs => lv_bipush C.1 C.2.1 hd hv (K H locs cells slots ls hA hc hs)⟩
theorem qi_sipush {v : Int} (hv : (Int16.ofInt v).toInt32 = Int32.ofInt v) (C : q_Cx G p R s m args meth c mi d) (hd : decode (q_by mi) pc = .ok (.sipush v, n)) (hn : n = 3) (ha : q_do (qgT G) pc L st M (.iconst v) n = some a) : q_Gd G p l e R s m args below meth c mi mc ms nM sM Q a (pc, L, st, M) := by
  subst hn
  cases ha
  exact ⟨_, rfl, fun _ _ K H locs cells slots ls hA hc hs => lv_sipush C.1 C.2.1 hd hv (K H locs cells slots ls hA hc hs)⟩
theorem qi_ldc {v : Int} {i x : Nat} (hv : q_fnd q_ck (q_rc mi) i = some (v, x)) (C : q_Cx G p R s m args meth c mi d) (hd : decode (q_by mi) pc = .ok (.ldc i, n)) (hn : n = 2) (ha : q_do (qgT G) pc L st M (.iconst v) n = some a) : q_Gd G p l e R s m args below meth c mi mc ms nM sM Q a (pc, L, st, M) := by
  subst hn
  cases ha
  have h1 := List.all_eq_true.mp q_ck_all _ (q_fnd_mem hv)
  exact ⟨_, rfl, fun _ _ K H locs cells slots ls hA hc hs => lv_ldc C.1 C.2.1 C.2.2.2.2.1 (C.2.2.2.2.2.1 _ (q_wat_mem h1)) hd (K H locs cells slots ls hA hc hs)⟩
theorem qi_ldc_w {v : Int} {i x : Nat} (hv : q_fnd q_ck (q_rc mi) i = some (v, x)) (C : q_Cx G p R s m args meth c mi d) (hd : decode (q_by mi) pc = .ok (.ldc_w i, n)) (hn : n = 3) (ha : q_do (qgT G) pc L st M (.iconst v) n = some a) : q_Gd G p l e R s m args below meth c mi mc ms nM sM Q a (pc, L, st, M) := by
  subst hn
  cases ha
  have h1 := List.all_eq_true.mp q_ck_all _ (q_fnd_mem hv)
  exact ⟨_, rfl, fun _ _ K H locs cells slots ls hA hc hs => lv_ldcw C.1 C.2.1 C.2.2.2.2.1 (C.2.2.2.2.2.1 _ (q_wat_mem h1)) hd (K H locs cells slots ls hA hc hs)⟩
theorem qi_lconst {k : Fin 2} (C : q_Cx G p R s m args meth c mi d) (hd : decode (q_by mi) pc = .ok (.lconst k, n)) (hn : n = 1) (ha : q_do (qgT G) pc L st M (.bipush ((k : Nat) : Int)) n = some a) : q_Gd G p l e R s m args below meth c mi mc ms nM sM Q a (pc, L, st, M) := by
  subst hn
  cases ha
  exact ⟨_, rfl, fun _ _ K H locs cells slots ls hA hc hs => lv_lconst C.1 C.2.1 hd (Int64.ofInt_eq_ofNat).symm (K H locs cells slots ls hA hc hs)⟩
theorem qi_ldc2_w {v : Int} {i x : Nat} (hv : q_fnd q_cj (q_rc mi) i = some (v, x)) (C : q_Cx G p R s m args meth c mi d) (hd : decode (q_by mi) pc = .ok (.ldc2_w i, n)) (hn : n = 3) (ha : q_do (qgT G) pc L st M (.bipush v) n = some a) : q_Gd G p l e R s m args below meth c mi mc ms nM sM Q a (pc, L, st, M) := by
  subst hn
  cases ha
  have h1 := List.all_eq_true.mp q_cj_all _ (q_fnd_mem hv)
  exact ⟨_, rfl, fun _ _ K H locs cells slots ls hA hc hs => lv_ldc2 C.1 C.2.1 C.2.2.2.2.1 (C.2.2.2.2.2.1 _ (q_wat_mem h1)) hd (K H locs cells slots ls hA hc hs)⟩
theorem qi_iinc {j : Nat} {v : Int} (C : q_Cx G p R s m args meth c mi d) (hd : decode (q_by mi) pc = .ok (.iinc j v, n)) (hn : n = 3) (ha : q_do (qgT G) pc L st M (.iinc j v) n = some a) : q_Gd G p l e R s m args below meth c mi mc ms nM sM Q a (pc, L, st, M) := by
  subst hn
  unfold q_do at ha
  dsimp only at ha
  split at ha
  · next w hw =>
    split at ha
    · next L' hL =>
      cases ha
      refine ⟨_, rfl, fun _ _ K H locs cells slots ls hA hc hs => ?_⟩
      obtain ⟨k, hk⟩ := List.getElem?_of_mem (q_prs_mem (G := G).mpr ⟨_, q_ld_some hw, rfl⟩)
      exact lv_iinc C.1 C.2.1 hd (q_lv_has hA.2.2.2.2) hk rfl (by rw [← hA.2.2.2.2.2.2.1]; exact (q_st1_spec hL).2) rfl (fun ls' h' => K H locs cells slots ls' ⟨hA.1, hA.2.1, hA.2.2.1, hA.2.2.2.1, q_lv_st1 hA.2.2.2.2 (q_ok1_int hA.2.2.2.2 (q_ld_some hw)) rfl hL h'⟩ hc hs)
    · cases ha
  · cases ha
theorem qi_iadd (C : q_Cx G p R s m args meth c mi d) (hd : decode (q_by mi) pc = .ok (.iadd, n)) (hn : n = 1) (ha : q_do (qgT G) pc L st M (.iadd) n = some a) : q_Gd G p l e R s m args below meth c mi mc ms nM sM Q a (pc, L, st, M) := by
  subst hn
  unfold q_do at ha
  dsimp only at ha
  split at ha
  · cases ha
    exact ⟨_, rfl, fun _ _ K H locs cells slots ls hA hc hs => lv_iadd C.1 C.2.1 hd (K H locs cells slots ls hA hc hs)⟩
  · cases ha
theorem qi_isub (C : q_Cx G p R s m args meth c mi d) (hd : decode (q_by mi) pc = .ok (.isub, n)) (hn : n = 1) (ha : q_do (qgT G) pc L st M (.isub) n = some a) : q_Gd G p l e R s m args below meth c mi mc ms nM sM Q a (pc, L, st, M) := by
  subst hn
  unfold q_do at ha
  dsimp only at ha
  split at ha
  · cases ha
    exact ⟨_, rfl, fun _ _ K H locs cells slots ls hA hc hs => lv_isub C.1 C.2.1 hd (K H locs cells slots ls hA hc hs)⟩
  · cases ha
theorem qi_imul (C : q_Cx G p R s m args meth c mi d) (hd : decode (q_by mi) pc = .ok (.imul, n)) (hn : n = 1) (ha : q_do (qgT G) pc L st M (.imul) n = some a) : q_Gd G p l e R s m args below meth c mi mc ms nM sM Q a (pc, L, st, M) := by
  subst hn
  unfold q_do at ha
  dsimp only at ha
  split at ha
  · cases ha
    exact ⟨_, rfl, fun _ _ K H locs cells slots ls hA hc hs => lv_imul C.1 C.2.1 hd (K H locs cells slots ls hA hc hs)⟩
  · cases ha
theorem qi_iand (C : q_Cx G p R s m args meth c mi d) (hd : decode (q_by mi) pc = .ok (.iand, n)) (hn : n = 1) (ha : q_do (qgT G) pc L st M (.iand) n = some a) : q_Gd G p l e R s m args below meth c mi mc ms nM sM Q a (pc, L, st, M) := by
  subst hn
  unfold q_do at ha
  dsimp only at ha
  split at ha
  · cases ha
    exact ⟨_, rfl, fun _ _ K H locs cells slots ls hA hc hs => lv_iand C.1 C.2.1 hd (K H locs cells slots ls hA hc hs)⟩
  · cases ha
theorem qi_ior (C : q_Cx G p R s m args meth c mi d) (hd : decode (q_by mi) pc = .ok (.ior, n)) (hn : n = 1) (ha : q_do (qgT G) pc L st M (.ior) n = some a) : q_Gd G p l e R s m args below meth c mi mc ms nM sM Q a (pc, L, st, M) := by
  subst hn
  unfold q_do at ha
  dsimp only at ha
  split at ha
  · cases ha
    exact ⟨_, rfl, fun _ _ K H locs cells slots ls hA hc hs => lv_ior C.1 C.2.1 hd (K H locs cells slots ls hA hc hs)⟩
  · cases ha
theorem qi_ixor (C : q_Cx G p R s m args meth c mi d) (hd : decode (q_by mi) pc = .ok (.ixor, n)) (hn : n = 1) (ha : q_do (qgT G) pc L st M (.ixor) n = some a) : q_Gd G p l e R s m args below meth c mi mc ms nM sM Q a (pc, L, st, M) := by
  subst hn
  unfold q_do at ha
  dsimp only at ha
  split at ha
  · cases ha
    exact ⟨_, rfl, fun _ _ K H locs cells slots ls hA hc hs => lv_ixor C.1 C.2.1 hd (K H locs cells slots ls hA hc hs)⟩
  · cases ha
theorem qi_ishl (C : q_Cx G p R s m args meth c mi d) (hd : decode (q_by mi) pc = .ok (.ishl, n)) (hn : n = 1) (ha : q_do (qgT G) pc L st M (.ishl) n = some a) : q_Gd G p l e R s m args below meth c mi mc ms nM sM Q a (pc, L, st, M) := by
  subst hn
  unfold q_do at ha
  dsimp only at ha
  split at ha
  · cases ha
    exact ⟨_, rfl, fun _ _ K H locs cells slots ls hA hc hs => lv_ishl C.1 C.2.1 hd (K H locs cells slots ls hA hc hs)⟩
  · cases ha
theorem qi_ishr (C : q_Cx G p R s m args meth c mi d) (hd : decode (q_by mi) pc = .ok (.ishr, n)) (hn : n = 1) (ha : q_do (qgT G) pc L st M (.ishr) n = some a) : q_Gd G p l e R s m args below meth c mi mc ms nM sM Q a (pc, L, st, M) := by
  subst hn
  unfold q_do at ha
  dsimp only at ha
  split at ha
  · cases ha
    exact ⟨_, rfl, fun _ _ K H locs cells slots ls hA hc hs => lv_ishr C.1 C.2.1 hd (K H locs cells slots ls hA hc hs)⟩
  · cases ha
theorem qi_ladd (C : q_Cx G p R s m args meth c mi d) (hd : decode (q_by mi) pc = .ok (.ladd, n)) (hn : n = 1) (ha : q_do (qgT G) pc L st M (.ladd) n = some a) : q_Gd G p l e R s m args below meth c mi mc ms nM sM Q a (pc, L, st, M) := by
  subst hn
  unfold q_do at ha
  dsimp only at ha
  split at ha
  · cases ha
    exact ⟨_, rfl, fun _ _ K H locs cells slots ls hA hc hs => lv_ladd C.1 C.2.1 hd (K H locs cells slots ls hA hc hs)⟩
  · cases ha
theorem qi_lmul (C : q_Cx G p R s m args meth c mi d) (hd : decode (q_by mi) pc = .ok (.lmul, n)) (hn : n = 1) (ha : q_do (qgT G) pc L st M (.lmul) n = some a) : q_Gd G p l e R s m args below meth c mi mc ms nM sM Q a (pc, L, st, M) := by
  subst hn
  unfold q_do at ha
  dsimp only at ha
  split at ha
  · cases ha
    exact ⟨_, rfl, fun _ _ K H locs cells slots ls hA hc hs => lv_lmul C.1 C.2.1 hd (K H locs cells slots ls hA hc hs)⟩
  · cases ha
theorem qi_lcmp (C : q_Cx G p R s m args meth c mi d) (hd : decode (q_by mi) pc = .ok (.lcmp, n)) (hn : n = 1) (ha : q_do (qgT G) pc L st M (.lcmp) n = some a) : q_Gd G p l e R s m args below meth c mi mc ms nM sM Q a (pc, L, st, M) := by
  subst hn
  unfold q_do at ha
  dsimp only at ha
  split at ha
  · cases ha
    exact ⟨_, rfl, fun _ _ K H locs cells slots ls hA hc hs => W.lcmp C.1 C.2.1 hd (K H locs cells slots ls hA hc hs)⟩
  · cases ha
theorem qi_i2l (C : q_Cx G p R s m args meth c mi d) (hd : decode (q_by mi) pc = .ok (.i2l, n)) (hn : n = 1) (ha : q_do (qgT G) pc L st M (.i2l) n = some a) : q_Gd G p l e R s m args below meth c mi mc ms nM sM Q a (pc, L, st, M) := by
  subst hn
  unfold q_do at ha
  dsimp only at ha
  split at ha
  · cases ha
    exact ⟨_, rfl, fun _ _ K H locs cells slots ls hA hc hs => lv_i2l C.1 C.2.1 hd rfl (K H locs cells slots ls hA hc hs)⟩
  · cases ha
theorem qi_iushr (C : q_Cx G p R s m args meth c mi d) (hd : decode (q_by mi) pc = .ok (.iushr, n)) (hn : n = 1) (ha : q_do (qgT G) pc L st M (.iushr) n = some a) : q_Gd G p l e R s m args below meth c mi mc ms nM sM Q a (pc, L, st, M) := by
  subst hn
  unfold q_do at ha
  dsimp only at ha
  split at ha
  · cases ha
    exact ⟨_, rfl, fun _ _ K H locs cells slots ls hA hc hs => lv_iushr C.1 C.2.1 hd rfl (K H locs cells slots ls hA hc hs)⟩
  · cases ha
theorem qi_idiv (C : q_Cx G p R s m args meth c mi d) (hd : decode (q_by mi) pc = .ok (.idiv, n)) (hn : n = 1) (ha : q_do (qgT G) pc L st M (.idiv) n = some a) : q_Gd G p l e R s m args below meth c mi mc ms nM sM Q a (pc, L, st, M) := by
  subst hn
  unfold q_do at ha
  dsimp only at ha
  split at ha
  · split at ha
    · cases ha
    · next hz =>
      cases ha
      exact ⟨_, rfl, fun _ _ K H locs cells slots ls hA hc hs => lv_idiv C.1 C.2.1 hd hz (K H locs cells slots ls hA hc hs)⟩
  · cases ha
theorem qi_irem (C : q_Cx G p R s m args meth c mi d) (hd : decode (q_by mi) pc = .ok (.irem, n)) (hn : n = 1) (ha : q_do (qgT G) pc L st M (.irem) n = some a) : q_Gd G p l e R s m args below meth c mi mc ms nM sM Q a (pc, L, st, M) := by
  subst hn
  unfold q_do at ha
  dsimp only at ha
  split at ha
  · split at ha
    · cases ha
    · next hz =>
      cases ha
      exact ⟨_, rfl, fun _ _ K H locs cells slots ls hA hc hs => lv_irem C.1 C.2.1 hd hz (K H locs cells slots ls hA hc hs)⟩
  · cases ha
theorem qi_ldiv (C : q_Cx G p R s m args meth c mi d) (hd : decode (q_by mi) pc = .ok (.ldiv, n)) (hn : n = 1) (ha : q_do (qgT G) pc L st M (.ldiv) n = some a) : q_Gd G p l e R s m args below meth c mi mc ms nM sM Q a (pc, L, st, M) := by
  subst hn
  unfold q_do at ha
  dsimp only at ha
  split at ha
  · split at ha
    · cases ha
    · next hz =>
      cases ha
      exact ⟨_, rfl, fun _ _ K H locs cells slots ls hA hc hs => lv_ldiv C.1 C.2.1 hd hz (K H locs cells slots ls hA hc hs)⟩
  · cases ha
theorem qi_lrem (C : q_Cx G p R s m args meth c mi d) (hd : decode (q_by mi) pc = .ok (.lrem, n)) (hn : n = 1) (ha : q_do (qgT G) pc L st M (.lrem) n = some a) : q_Gd G p l e R s m args below meth c mi mc ms nM sM Q a (pc, L, st, M) := by
  subst hn
  unfold q_do at ha
  dsimp only at ha
  split at ha
  · split at ha
    · cases ha
    · next hz =>
      cases ha
      exact ⟨_, rfl, fun _ _ K H locs cells slots ls hA hc hs => lv_lrem C.1 C.2.1 hd hz (K H locs cells slots ls hA hc hs)⟩
  · cases ha
theorem q_chr_eq {x : Int32} (h : q_chr x = true) : (x.toUInt32 % 65536).toInt32 = x ∧ vp_nar .char x = x ∧ fits .char (.int x) = true := by
  unfold q_chr at h
  simp only [Bool.and_eq_true, decide_eq_true_eq] at h
  obtain ⟨j, hj, rfl⟩ := nI_of (x := x) (by rw [Int32.not_lt]; exact h.1)
  have h2 : j ≤ 65535 := (nI_leI hj (by decide)).mp h.2
  have h3 := pk_charN (q := j) (by omega)
  refine ⟨?_, ?_, h3.2⟩
  · rw [pk_char, pk_tn (by omega), Nat.mod_eq_of_lt (by omega)]
  · unfold vp_nar; rw [h3.1]
theorem q_bl_eq {x : Int32} (h : q_bl x = true) : narrow .boolean (.int x) = .int x ∧ vp_nar .boolean x = x ∧ fits .boolean (.int x) = true := by
  unfold q_bl at h
  simp only [Bool.or_eq_true, decide_eq_true_eq] at h
  rcases h with rfl | rfl <;> decide
theorem qi_i2c (C : q_Cx G p R s m args meth c mi d) (hd : decode (q_by mi) pc = .ok (.i2c, n)) (hn : n = 1) (ha : q_do (qgT G) pc L st M (.i2c) n = some a) : q_Gd G p l e R s m args below meth c mi mc ms nM sM Q a (pc, L, st, M) := by
  subst hn
  unfold q_do at ha
  dsimp only at ha
  split at ha
  · next x r =>
    cases hx : q_chr x with
    | false => rw [hx] at ha; cases ha
    | true =>
      rw [hx] at ha
      cases ha
      exact ⟨_, rfl, fun _ _ K H locs cells slots ls hA hc hs => lv_i2c C.1 C.2.1 hd (q_chr_eq hx).1 (K H locs cells slots ls hA hc hs)⟩
  · cases ha
theorem qi_dup (C : q_Cx G p R s m args meth c mi d) (hd : decode (q_by mi) pc = .ok (.dup, n)) (hn : n = 1) (ha : q_do (qgT G) pc L st M (.dup) n = some a) : q_Gd G p l e R s m args below meth c mi mc ms nM sM Q a (pc, L, st, M) := by
  subst hn
  unfold q_do at ha
  dsimp only at ha
  split at ha
  · cases ha
    exact ⟨_, rfl, fun _ _ K H locs cells slots ls hA hc hs => lv_dup C.1 C.2.1 hd rfl (K H locs cells slots ls hA hc hs)⟩
  · cases ha
    exact ⟨_, rfl, fun _ _ K H locs cells slots ls hA hc hs => lv_dup C.1 C.2.1 hd rfl (K H locs cells slots ls hA hc hs)⟩
  · cases ha
theorem qi_dup2 (C : q_Cx G p R s m args meth c mi d) (hd : decode (q_by mi) pc = .ok (.dup2, n)) (hn : n = 1) (ha : q_do (qgT G) pc L st M (.dup2) n = some a) : q_Gd G p l e R s m args below meth c mi mc ms nM sM Q a (pc, L, st, M) := by
  subst hn
  unfold q_do at ha
  dsimp only at ha
  split at ha
  · cases ha
    exact ⟨_, rfl, fun _ _ K H locs cells slots ls hA hc hs => lv_dup2_11 C.1 C.2.1 hd rfl rfl (K H locs cells slots ls hA hc hs)⟩
  · cases ha
theorem qi_pop (C : q_Cx G p R s m args meth c mi d) (hd : decode (q_by mi) pc = .ok (.pop, n)) (hn : n = 1) (ha : q_do (qgT G) pc L st M (.pop) n = some a) : q_Gd G p l e R s m args below meth c mi mc ms nM sM Q a (pc, L, st, M) := by
  subst hn
  unfold q_do at ha
  dsimp only at ha
  split at ha
  · cases ha
    exact ⟨_, rfl, fun _ _ K H locs cells slots ls hA hc hs => lv_pop C.1 C.2.1 hd rfl (K H locs cells slots ls hA hc hs)⟩
  · cases ha
theorem q_tgt {pc : Nat} {o : Int} (h : 0 ≤ (pc : Int) + o) : (pc : Int) + o = (((pc : Int) + o).toNat : Int) := by omega
theorem qi_goto {o : Int} (ho : 0 ≤ (pc : Int) + o) (C : q_Cx G p R s m args meth c mi d) (hd : decode (q_by mi) pc = .ok (.goto o, n)) (hn : n = 3) (ha : q_do (qgT G) pc L st M (.goto ((pc : Int) + o)) n = some a) : q_Gd G p l e R s m args below meth c mi mc ms nM sM Q a (pc, L, st, M) := by
  subst hn
  cases ha
  exact ⟨_, rfl, fun _ _ K H locs cells slots ls hA hc hs => lv_goto C.1 C.2.1 hd (q_tgt ho) (K H locs cells slots ls hA hc hs)⟩
theorem qi_ifCond {cd : ClassFile.Cond} {o : Int} (ho : 0 ≤ (pc : Int) + o) (C : q_Cx G p R s m args meth c mi d) (hd : decode (q_by mi) pc = .ok (.ifCond cd o, n)) (hn : n = 3) (ha : q_do (qgT G) pc L st M (.ifCond cd ((pc : Int) + o)) n = some a) : q_Gd G p l e R s m args below meth c mi mc ms nM sM Q a (pc, L, st, M) := by
  subst hn
  unfold q_do at ha
  dsimp only at ha
  split at ha
  · cases ha
    refine ⟨_, rfl, fun _ _ K H locs cells slots ls hA hc hs => ?_⟩
    have K := K H locs cells slots ls hA hc hs
    cases cd
    · refine lv_if_eq C.1 C.2.1 hd (q_tgt ho) (fun h => ?_) (fun h => ?_)
      · simp only [q_cmp, if_pos h] at K
        exact K
      · simp only [q_cmp, if_neg h] at K
        exact K
    · refine lv_if_ne C.1 C.2.1 hd (q_tgt ho) (fun h => ?_) (fun h => ?_)
      · simp only [q_cmp, if_neg h] at K
        exact K
      · simp only [q_cmp, if_pos h] at K
        exact K
    · refine lv_if_lt C.1 C.2.1 hd (q_tgt ho) (fun h => ?_) (fun h => ?_)
      · simp only [q_cmp, if_pos h] at K
        exact K
      · simp only [q_cmp, if_neg h] at K
        exact K
    · refine lv_if_ge C.1 C.2.1 hd (q_tgt ho) (fun h => ?_) (fun h => ?_)
      · simp only [q_cmp, if_pos h] at K
        exact K
      · simp only [q_cmp, if_neg h] at K
        exact K
    · refine lv_if_gt C.1 C.2.1 hd (q_tgt ho) (fun h => ?_) (fun h => ?_)
      · simp only [q_cmp, if_pos h] at K
        exact K
      · simp only [q_cmp, if_neg h] at K
        exact K
    · refine lv_if_le C.1 C.2.1 hd (q_tgt ho) (fun h => ?_) (fun h => ?_)
      · simp only [q_cmp, if_pos h] at K
        exact K
      · simp only [q_cmp, if_neg h] at K
        exact K
  · cases ha
theorem qi_if_icmp {cd : ClassFile.Cond} {o : Int} (ho : 0 ≤ (pc : Int) + o) (C : q_Cx G p R s m args meth c mi d) (hd : decode (q_by mi) pc = .ok (.if_icmp cd o, n)) (hn : n = 3) (ha : q_do (qgT G) pc L st M (.if_icmp cd ((pc : Int) + o)) n = some a) : q_Gd G p l e R s m args below meth c mi mc ms nM sM Q a (pc, L, st, M) := by
  subst hn
  unfold q_do at ha
  dsimp only at ha
  split at ha
  · cases ha
    refine ⟨_, rfl, fun _ _ K H locs cells slots ls hA hc hs => ?_⟩
    have K := K H locs cells slots ls hA hc hs
    cases cd
    · refine lv_icmp_eq C.1 C.2.1 hd (q_tgt ho) (fun h => ?_) (fun h => ?_)
      · simp only [q_cmp, if_pos h] at K
        exact K
      · simp only [q_cmp, if_neg h] at K
        exact K
    · refine lv_icmp_ne C.1 C.2.1 hd (q_tgt ho) (fun h => ?_) (fun h => ?_)
      · simp only [q_cmp, if_neg h] at K
        exact K
      · simp only [q_cmp, if_pos h] at K
        exact K
    · refine lv_icmp_lt C.1 C.2.1 hd (q_tgt ho) (fun h => ?_) (fun h => ?_)
      · simp only [q_cmp, if_pos h] at K
        exact K
      · simp only [q_cmp, if_neg h] at K
        exact K
    · refine lv_icmp_ge C.1 C.2.1 hd (q_tgt ho) (fun h => ?_) (fun h => ?_)
      · simp only [q_cmp, if_pos h] at K
        exact K
      · simp only [q_cmp, if_neg h] at K
        exact K
    · refine lv_icmp_gt C.1 C.2.1 hd (q_tgt ho) (fun h => ?_) (fun h => ?_)
      · simp only [q_cmp, if_pos h] at K
        exact K
      · simp only [q_cmp, if_neg h] at K
        exact K
    · refine lv_icmp_le C.1 C.2.1 hd (q_tgt ho) (fun h => ?_) (fun h => ?_)
      · simp only [q_cmp, if_pos h] at K
        exact K
      · simp only [q_cmp, if_neg h] at K
        exact K
  · cases ha
theorem q_sw_in (x : Int32) (dd : Int) : ∀ (ts : List Int) (lo : Int), -1000000 ≤ lo → lo + ts.length - 1 ≤ 1000000 → ∀ (j : Nat) (t : Int), ts[j]? = some t → x.toInt = lo + j → q_sw x dd lo ts = t
  | [], lo, _, _, j, t, h, _ => by simp at h
  | u :: ts, lo, h1, h2, j, t, h, hx => by
    have hl : (lo + 0 : Int) ≤ 1000000 := by simp at h2; omega
    have e : (Int32.ofInt lo).toInt = lo := Int32.toInt_ofInt_of_le (by omega) (by omega)
    unfold q_sw
    cases j with
    | zero =>
      rw [List.getElem?_cons_zero] at h
      cases h
      rw [if_pos]
      apply Int32.toInt_inj.mp
      rw [e, hx]
      simp
    | succ j =>
      rw [List.getElem?_cons_succ] at h
      rw [if_neg (fun z => by rw [z, e] at hx; omega)]
      exact q_sw_in x dd ts (lo + 1) (by omega) (by simp at h2; omega) j t h (by rw [hx]; push_cast; omega)
theorem q_sw_out (x : Int32) (dd : Int) : ∀ (ts : List Int) (lo : Int), -1000000 ≤ lo → lo + ts.length - 1 ≤ 1000000 → (x.toInt < lo ∨ lo + ts.length - 1 < x.toInt) → q_sw x dd lo ts = dd
  | [], lo, _, _, _ => rfl
  | u :: ts, lo, h1, h2, h => by
    have hl : (lo + 0 : Int) ≤ 1000000 := by simp at h2; omega
    have e : (Int32.ofInt lo).toInt = lo := Int32.toInt_ofInt_of_le (by omega) (by omega)
    unfold q_sw
    rw [if_neg (fun z => by rw [z, e] at h; simp at h; omega)]
    exact q_sw_out x dd ts (lo + 1) (by omega) (by simp at h2; omega) (by simp at h; omega)
theorem qi_tableswitch {dd lo hi : Int} {offs : Array Int} (ho : 0 ≤ (pc : Int) + dd ∧ (∀ o ∈ offs.toList, 0 ≤ (pc : Int) + o) ∧ hi = lo + offs.toList.length - 1 ∧ -1000000 ≤ lo ∧ hi ≤ 1000000) (C : q_Cx G p R s m args meth c mi d) (hd : decode (q_by mi) pc = .ok (.tableswitch dd lo hi offs, n)) (ha : q_do (qgT G) pc L st M (.tableswitch ((pc : Int) + dd) lo hi (offs.toList.map (fun o : Int => (pc : Int) + o)).toArray) n = some a) : q_Gd G p l e R s m args below meth c mi mc ms nM sM Q a (pc, L, st, M) := by
  unfold q_do at ha
  dsimp only at ha
  split at ha
  · next x r =>
    cases ha
    refine ⟨_, rfl, fun _ _ K H locs cells slots ls hA hc hs => ?_⟩
    have K := K H locs cells slots ls hA hc hs
    obtain ⟨h1, h2, h3, h4, h5⟩ := ho
    have hl : ((offs.toList.map (fun o : Int => (pc : Int) + o)).length : Int) = offs.toList.length := by rw [List.length_map]
    by_cases hin : x.toInt < lo ∨ hi < x.toInt
    · refine lv_tableOut (tgt := ((pc : Int) + dd).toNat) C.1 C.2.1 hd hin (q_tgt h1) ?_
      have e : q_sw x ((pc : Int) + dd) lo (offs.toList.map (fun o : Int => (pc : Int) + o)) = (pc : Int) + dd := q_sw_out x _ _ lo h4 (by rw [hl]; omega) (by rw [hl]; omega)
      simp only [List.toList_toArray, e] at K
      exact K
    · have hn1 : ¬ x.toInt < lo := fun z => hin (Or.inl z)
      have hn2 : ¬ hi < x.toInt := fun z => hin (Or.inr z)
      have hj : (x.toInt - lo).toNat < offs.toList.length := by omega
      obtain ⟨o, hoo⟩ : ∃ o, offs.toList[(x.toInt - lo).toNat]? = some o := ⟨_, List.getElem?_eq_getElem hj⟩
      have e : q_sw x ((pc : Int) + dd) lo (offs.toList.map (fun o : Int => (pc : Int) + o)) = (pc : Int) + o := q_sw_in x _ _ lo h4 (by rw [hl]; omega) (x.toInt - lo).toNat _ (by rw [List.getElem?_map, hoo]; rfl) (by omega)
      simp only [List.toList_toArray, e] at K
      refine lv_tableIn (tgt := ((pc : Int) + o).toNat) C.1 C.2.1 hd hn1 hn2 (by rw [← Array.getElem?_toList]; exact hoo) (q_tgt (h2 o (List.mem_of_getElem? hoo))) K
  · cases ha
end QI
end
section
/-! memory: fields, arrays, new cells -/
def q_lyL : List (List Nat) := [[328, 330, 332, 334, 336], [256, 258, 260], [147, 149, 151, 153, 155, 157, 159, 161, 163, 165, 167], [229, 231, 233, 235, 237, 239, 241, 243], [183, 185, 187, 189, 191, 193, 195, 197], [284, 286, 288, 290, 292, 294], [310, 312, 314], [350, 352, 354, 356, 358, 360, 362, 364, 366, 368], [850, 852, 854, 856, 858, 860, 862, 864, 866, 868, 870, 872, 874, 876, 878, 880, 882, 884, 886, 888, 890]]
theorem q_lay2 : ∀ ci, ci < 9 → ∀ j, j < q_N ci → q_wat ((q_lyL.getD ci []).getD j 0) (u_lay (q_cn ci) (q_T ci) j) = true := by decide +kernel
theorem q_lay_in {ci : Nat} (h : ci < 9) : ∀ w ∈ u_ws (q_cn ci) (q_T ci) (q_N ci), w ∈ q_tbl := by
  intro w hw
  obtain ⟨j, hj, rfl⟩ := List.mem_map.mp hw
  exact q_wat_mem (q_lay2 ci h j (List.mem_range.mp hj))
theorem q_in_vp {i : Int32} {n : Nat} (h : q_in i n = true) : vp_in i n := by
  unfold q_in at h
  simp only [Bool.not_eq_true', Bool.or_eq_false_iff, decide_eq_false_iff_not] at h
  exact fun z => z.elim h.1 h.2
theorem q_ce_obj {G : qG} {M : qM} {k ci sz : Nat} (h : ci < 9) : q_ce G M k (ci, sz) = .inr (ci, (List.range (q_N ci)).map (fun j => q_rv G (q_fv M k ci j))) := if_pos (by show ci < 100; omega)
theorem q_ce_arr {G : qG} {M : qM} {k t sz : Nat} (h : 100 ≤ t) : q_ce G M k (t, sz) = .inl (qgA G t, (sz, .inl (q_row M k))) := if_neg (by show ¬ t < 100; omega)
theorem q_fs_at {G : qG} {M : qM} {k ci N j : Nat} (h : j < N) : ((List.range N).map (fun j => q_rv G (q_fv M k ci j)))[j]? = some (q_rv G (q_fv M k ci j)) := by
  rw [List.getElem?_map, List.getElem?_range h]
  rfl
theorem q_fs_V {G : qG} {M : qM} {k ci N j : Nat} (h : j < N) : vp_V ((List.range N).map (fun j => q_rv G (q_fv M k ci j))) j = q_rv G (q_fv M k ci j) := by
  unfold vp_V
  rw [List.getD_eq_getElem?_getD, q_fs_at h]
  rfl
theorem q_fl_spec {o i e x : Nat} (h : q_fnd q_fl o i = some (e, x)) : q_flc o i e ∈ q_tbl ∧ e / 100 < 9 ∧ e % 100 < q_N (e / 100) := by
  have h1 := List.all_eq_true.mp q_fl_all _ (q_fnd_mem h)
  simp only [Bool.and_eq_true] at h1
  exact ⟨q_wat_mem h1.1, Nat.le_of_ble_eq_true h1.2.1, Nat.le_of_ble_eq_true h1.2.2⟩
theorem q_ce_put {G : qG} {M : qM} {k k' : Nat} {sh : Nat × Nat} {f : Nat → Int32} (h : k' ≠ k) : q_ce G (q_put M k f) k' sh = q_ce G M k' sh := by
  unfold q_ce
  rw [q_row_put, if_neg h]
  simp only [q_fv_put M k k' _ _ f h]
theorem q_ce_lput {G : qG} {M : qM} {k k' : Nat} {sh : Nat × Nat} {x : Int64} (h : k' ≠ k) : q_ce G (q_lput M k x) k' sh = q_ce G M k' sh := by
  unfold q_ce q_lput q_fv q_row
  simp [va_up, h]
theorem q_ce_rput {G : qG} {M : qM} {k k' j : Nat} {sh : Nat × Nat} {x : Option Nat} (h : k' ≠ k) : q_ce G (q_rput M k j x) k' sh = q_ce G M k' sh := by
  unfold q_ce q_rput q_fv q_row
  simp [va_up, h]
theorem q_sl_eq {M M2 : qM} (h : M2.1 = M.1) : q_sl M2 = q_sl M := by unfold q_sl; rw [h]
section QJ
variable {G : qG} {p : Program} {l : Launch} {e : Env} {R : Room} {s : State} {m : MethodId} {args : Array Value} {below : List Frame} {meth : Method} {c : Code} {mi d mc ms nM sM : Nat} {Q : State → Prop} {pc n : Nat} {L : List (Option Value)} {st : List Value} {M : qM} {a : qR}
theorem qi_getfield {i f x : Nat} (hv : q_fnd q_fl (q_rc mi) i = some (f, x)) (C : q_Cx G p R s m args meth c mi d) (hd : decode (q_by mi) pc = .ok (.getfield i, n)) (hn : n = 3) (ha : q_do (qgT G) pc L st M (.getfield f) n = some a) : q_Gd G p l e R s m args below meth c mi mc ms nM sM Q a (pc, L, st, M) := by
  subst hn
  unfold q_do at ha
  dsimp only at ha
  split at ha
  · next k r =>
    unfold q_get at ha
    split at ha
    · next ci sz hk =>
      rw [q_nth_eq] at hk
      cases hb : Nat.beq ci (f / 100) with
      | false => rw [hb] at ha; cases ha
      | true =>
        rw [hb] at ha
        cases ha
        obtain ⟨hw, h9, hj⟩ := q_fl_spec hv
        have hci : ci = f / 100 := Nat.eq_of_beq_eq_true hb
        rw [← hci] at h9 hj
        refine ⟨_, rfl, fun _ _ K H locs cells slots ls hA hc hs => ?_⟩
        have K := K H locs cells slots ls hA hc hs
        have hlt : k < 1000 := Nat.lt_of_lt_of_le (List.getElem?_eq_some_iff.mp hk).1 hA.2.2.1
        have he := q_wl_at (G := G) hk
        rw [q_ce_obj h9] at he
        have eS : (Value.ref k :: r).map (q_rv G) = .ref (qgB G + k) :: r.map (q_rv G) := by
          rw [List.map_cons]
          show Value.ref (q_ad G k) :: _ = _
          rw [q_ad_lt hlt]
        show W p l e R s m args below meth c H locs cells slots Q (F0 m pc ls ((Value.ref k :: r).map (q_rv G)))
        rw [eS]
        have hl := C.2.2.2.2.2.1 _ hw
        unfold q_flc at hl
        rw [← hci] at hl
        exact va_get C.1 C.2.1 C.2.2.2.2.2.1 (q_lay_in h9) C.2.2.2.2.1 C.2.2.2.2.2.2.2.2.1.1 hA.1 k he (q_cls_at h9) (f % 100) hj hl (fun _ h => h) (q_fs_at hj) hd K
    · cases ha
  · cases ha
/-- a field is written -/
theorem q_wr_core {i f x k ci sz : Nat} {v : Value} {M2 : qM} {r : List Value} (hv : q_fnd q_fl (q_rc mi) i = some (f, x)) (C : q_Cx G p R s m args meth c mi d) (hd : decode (q_by mi) pc = .ok (.putfield i, 3)) (hk : M.1[k]? = some (ci, sz)) (hci : ci = f / 100) (hfin : q_fin f = false ∨ ((q_y mi).name = "<init>" ∧ q_rc mi = f / 100))
    (hnar : narrow (q_ft ci (f % 100)) (q_rv G v) = q_rv G v) (hfit : fits (q_ft ci (f % 100)) (q_rv G v) = true) (hM : M2.1 = M.1) (hne : ∀ (k' : Nat) (sh' : Nat × Nat), k' ≠ k → q_ce G M2 k' sh' = q_ce G M k' sh') (hnew : ∀ j, j < q_N ci → q_fv M2 k ci j = if j = f % 100 then v else q_fv M k ci j)
    (K : q_TT G p l e R s m args below meth c mi mc ms nM sM Q (pc + 3, L, r, M2)) : q_TT G p l e R s m args below meth c mi mc ms nM sM Q (pc, L, v :: .ref k :: r, M) := by
  intro H locs cells slots ls hA hc hs
  obtain ⟨hw, h9, hj⟩ := q_fl_spec hv
  rw [← hci] at h9 hj
  have hts := C.2.2.2.2.2.1
  have hown := C.2.2.2.2.1
  have hK := C.2.2.2.2.2.2.2.2.1.1
  have hl := hts _ hw
  unfold q_flc at hl
  rw [← hci] at hl
  have hlt : k < 1000 := Nat.lt_of_lt_of_le (List.getElem?_eq_some_iff.mp hk).1 hA.2.2.1
  have he := q_wl_at (G := G) hk
  rw [q_ce_obj h9] at he
  have hap := va_apart (own := q_own mi) hts (q_lay_in h9) (q_ft ci) (q_ft_all ci h9) (q_nm_all ci h9) hK (q_cls_at h9)
  obtain ⟨rr, h1, cell, q1, q2, q3, q4⟩ := hA.1 k _ he
  cases (Option.some.inj (h1.symm.trans (q_cls_at h9)))
  obtain ⟨hS, hfc, kC, hkC, hkind⟩ := hK.1 ci _ (q_cls_at h9)
  obtain ⟨cf, kf, fi, fd, hi, hsl⟩ := hS (f % 100) hj
  have hst := (u_facts hfc hkC (u_lays hts (q_lay_in h9) hj) hi).1
  have hlay := hts _ (q_lay_in h9 _ (u_in_lay hj))
  have eS : (v :: Value.ref k :: r).map (q_rv G) = q_rv G v :: .ref (qgB G + k) :: r.map (q_rv G) := by
    rw [List.map_cons, List.map_cons]
    show _ :: Value.ref (q_ad G k) :: _ = _
    rw [q_ad_lt hlt]
  show W p l e R s m args below meth c H locs cells slots Q (F0 m pc ls ((v :: Value.ref k :: r).map (q_rv G)))
  rw [eS]
  have fin : ∀ H' : Heap, H'[qgB G + k]? = some (cell.setSlot fd.slot (q_rv G v)) → H'.size = H.size → (∀ q, q ≠ qgB G + k → H'[q]? = H[q]?) → W p l e R s m args below meth c H' (locs ++ [⟨qgB G + k, fd.slot⟩]) cells slots Q (F0 m (pc + 3) ls (r.map (q_rv G))) := by
    intro H' e1 e2 e3
    refine K H' _ cells slots ls ⟨q_P_set hA.1 hk hM e3 hne ?_, by rw [e2, hA.2.1, hM], by rw [hM]; exact hA.2.2.1, hA.2.2.2.1.put e2 e3 (Nat.le_add_right _ _), hA.2.2.2.2⟩ (by show _ ≤ mc + M2.1.length; rw [hM]; exact hc) (by show _ ≤ ms + q_sl M2; rw [q_sl_eq hM]; exact hs)
    rw [q_ce_obj h9]
    refine ⟨_, q_cls_at h9, ?_⟩
    rw [hsl] at e1
    refine t_OB.to (V := updV (vp_V ((List.range (q_N ci)).map (fun j => q_rv G (q_fv M k ci j)))) (f % 100) (q_rv G v)) ⟨_, e1, q2, q3, t_set q4 hap hj (q_rv G v)⟩ (fun j hj2 => ?_)
    have hj2 : j < q_N ci := hj2
    show updV _ _ _ j = vp_V _ j
    rw [q_fs_V hj2, hnew j hj2]
    unfold updV
    by_cases hjf : j = f % 100
    · rw [if_pos hjf, if_pos hjf]
    · rw [if_neg hjf, if_neg hjf, q_fs_V hj2]
  have hT : (q_T ci (f % 100)).2.2.2 = q_fin f := by unfold q_fin; rw [hci]
  cases hb : q_fin f with
  | false =>
    unfold u_lay at hlay
    rw [if_neg (by rw [hT, hb]; decide)] at hlay
    exact W.putK C.1 C.2.1 (f := fd) ⟨hown, hl, ⟨_, _, _, hi⟩, hst⟩ (by rw [q2]; exact u_store hfc hkC hkind hlay hi (q_ft_all ci h9 _ hj) hnar hfit) q1 q3 (by rw [hsl]; exact k2_hasslot (q4 _ hj)) rfl rfl hd fin
  | true =>
    rcases hfin with hfin | ⟨hf1, hf2⟩
    · rw [hb] at hfin; cases hfin
    · unfold u_lay at hlay
      rw [if_pos (by rw [hT, hb])] at hlay
      have hcf : m.cls = cf := by
        obtain ⟨_, _, c', _, _, _, -, -, hf', -, -, -, hown2, -⟩ := Cond.laysFinal_spec hlay
        have e1 : c' = cf := by have := hi.symm.trans hf'; simp at this; exact this.1.symm
        rw [q_dc_all ci h9 _ hj, hci, ← hf2] at hown2
        rw [← e1]
        exact Option.some.inj (hown.symm.trans hown2)
      exact W.putFinK C.1 C.2.1 hown hl hi hst hcf (C.2.2.2.2.2.2.2.1.trans hf1) (by rw [q2]; exact u_fits hfc hkC hkind (Or.inr hlay) hi (q_ft_all ci h9 _ hj) hnar hfit) q1 q3 (by rw [hsl]; exact k2_hasslot (q4 _ hj)) rfl rfl hd fin
theorem q_fk_ty {ci j : Nat} (h9 : ci < 9) (hj : j < q_N ci) : (q_fk ci j = 0 → q_ft ci j = .int) ∧ (q_fk ci j = 1 → q_ft ci j = .long) ∧ (q_fk ci j = 3 → q_ft ci j = .boolean) ∧ (q_fk ci j = 2 → ∀ b, narrow (q_ft ci j) (.ref b) = .ref b ∧ fits (q_ft ci j) (.ref b) = true) := by
  have h := q_fk_all ci h9 j hj
  refine ⟨fun z => ?_, fun z => ?_, fun z => ?_, fun z b => ?_⟩
  · rcases h with h | h | h | h
    · exact h.2
    all_goals (rw [z] at h; exact absurd h.1 (by decide))
  · rcases h with h | h | h | h
    · rw [z] at h; exact absurd h.1 (by decide)
    · exact h.2
    all_goals (rw [z] at h; exact absurd h.1 (by decide))
  · rcases h with h | h | h | h
    · rw [z] at h; exact absurd h.1 (by decide)
    · rw [z] at h; exact absurd h.1 (by decide)
    · exact h.2
    · rw [z] at h; exact absurd h.1 (by decide)
  · rcases h with h | h | h | h
    · rw [z] at h; exact absurd h.1 (by decide)
    · rw [z] at h; exact absurd h.1 (by decide)
    · rw [z] at h; exact absurd h.1 (by decide)
    · obtain ⟨-, -, -, h4⟩ := h
      revert h4
      cases q_ft ci j <;> simp [narrow, fits]
theorem q_fv_int {M : qM} {k ci j : Nat} {x : Int32} {j0 : Nat} (h0 : q_fk ci j0 = 0 ∨ q_fk ci j0 = 3) : q_fv (q_put M k (upd (q_row M k) j0 x)) k ci j = if j = j0 then .int x else q_fv M k ci j := by
  by_cases hj : j = j0
  · subst hj
    rw [if_pos rfl]
    unfold q_fv
    rcases h0 with h0 | h0 <;> rw [h0] <;> simp only [q_row_put, if_pos] <;> simp [upd]
  · rw [if_neg hj]
    unfold q_fv
    have e1 : q_row (q_put M k (upd (q_row M k) j0 x)) k j = q_row M k j := by rw [q_row_put, if_pos rfl]; simp [upd, hj]
    rw [e1]
    unfold q_put
    cases Nat.blt k 56 <;> rfl
theorem q_fk1_uniq : ∀ ci, ci < 9 → ∀ j, j < q_N ci → ∀ j2, j2 < q_N ci → q_fk ci j = 1 → q_fk ci j2 = 1 → j = j2 := by decide +kernel
theorem qi_putfield {i f x : Nat} (hv : q_fnd q_fl (q_rc mi) i = some (f, x)) (hfin : q_fin f = false ∨ ((q_y mi).name = "<init>" ∧ q_rc mi = f / 100)) (C : q_Cx G p R s m args meth c mi d) (hd : decode (q_by mi) pc = .ok (.putfield i, n)) (hn : n = 3) (ha : q_do (qgT G) pc L st M (.putfield f) n = some a) : q_Gd G p l e R s m args below meth c mi mc ms nM sM Q a (pc, L, st, M) := by
  subst hn
  unfold q_do at ha
  dsimp only at ha
  split at ha
  · next v k r =>
    unfold q_set at ha
    split at ha
    · next ci sz hk =>
      rw [q_nth_eq] at hk
      cases hb : Nat.beq ci (f / 100) with
      | false => rw [hb] at ha; cases ha
      | true =>
        rw [hb] at ha
        have hci : ci = f / 100 := Nat.eq_of_beq_eq_true hb
        obtain ⟨hw, h9, hj⟩ := q_fl_spec hv
        rw [← hci] at h9 hj
        have ty := q_fk_ty h9 hj
        dsimp only [cond_true] at ha
        split at ha
        · next x =>
          split at ha
          · next hk0 =>
            cases ha
            exact ⟨_, rfl, fun _ _ K => q_wr_core hv C hd hk hci hfin (by rw [ty.1 hk0]; rfl) (by rw [ty.1 hk0]; rfl) (q_put_sh _ _ _) (fun k' sh' h => q_ce_put h) (fun j _ => q_fv_int (Or.inl hk0)) K⟩
          · next hk3 =>
            cases hx : q_bl x with
            | false => rw [hx] at ha; cases ha
            | true =>
              rw [hx] at ha
              cases ha
              have hq := q_bl_eq hx
              exact ⟨_, rfl, fun _ _ K => q_wr_core hv C hd hk hci hfin (by rw [ty.2.2.1 hk3]; exact hq.1) (by rw [ty.2.2.1 hk3]; exact hq.2.2) (q_put_sh _ _ _) (fun k' sh' h => q_ce_put h) (fun j _ => q_fv_int (Or.inr hk3)) K⟩
          · cases ha
        · next x =>
          split at ha
          · next hk1 =>
            cases ha
            refine ⟨_, rfl, fun _ _ K => q_wr_core (M2 := q_lput M k x) hv C hd hk hci hfin (by rw [ty.2.1 hk1]; rfl) (by rw [ty.2.1 hk1]; rfl) rfl (fun k' sh' h => q_ce_lput h) (fun j hj2 => ?_) K⟩
            by_cases hjj : j = f % 100
            · rw [if_pos hjj, hjj]
              unfold q_fv q_lput
              rw [hk1]
              simp [va_up]
            · rw [if_neg hjj]
              have hne : q_fk ci j ≠ 1 := fun z => hjj (q_fk1_uniq ci h9 j hj2 (f % 100) hj z hk1)
              unfold q_fv q_lput
              split
              · next z => exact absurd z hne
              · rfl
              · rfl
          · cases ha
        · next b =>
          split at ha
          · next hk2 =>
            cases ha
            refine ⟨_, rfl, fun _ _ K => q_wr_core (M2 := q_rput M k (f % 100) (some b)) hv C hd hk hci hfin ((ty.2.2.2 hk2 _).1) ((ty.2.2.2 hk2 _).2) rfl (fun k' sh' h => q_ce_rput h) (fun j hj2 => ?_) K⟩
            by_cases hjj : j = f % 100
            · rw [if_pos hjj, hjj]
              unfold q_fv q_rput
              rw [hk2]
              simp [va_up, q_ref]
            · rw [if_neg hjj]
              unfold q_fv q_rput
              simp [va_up, hjj, q_row]
          · cases ha
        · cases ha
    · cases ha
  · cases ha
theorem qi_getstatic {i f x : Nat} (hv : q_fnd q_fs (q_rc mi) i = some (f, x)) (C : q_Cx G p R s m args meth c mi d) (hd : decode (q_by mi) pc = .ok (.getstatic i, n)) (hn : n = 3) (ha : q_do (qgT G) pc L st M (.getstatic f) n = some a) : q_Gd G p l e R s m args below meth c mi mc ms nM sM Q a (pc, L, st, M) := by
  subst hn
  cases ha
  have h1 := List.all_eq_true.mp q_fs_all _ (q_fnd_mem hv)
  simp only [Bool.and_eq_true, Bool.or_eq_true] at h1
  have hf : f = 1001 ∨ f = 1002 := h1.2.imp Nat.eq_of_beq_eq_true Nat.eq_of_beq_eq_true
  refine ⟨_, rfl, fun _ _ K H locs cells slots ls hA hc hs => ?_⟩
  have K := K H locs cells slots ls hA hc hs
  have eS : (Value.ref f :: st).map (q_rv G) = .ref (qgX G f) :: st.map (q_rv G) := by
    rw [List.map_cons]
    show Value.ref (q_ad G f) :: _ = _
    rw [q_ad_ge (by omega)]
  have K : W p l e R s m args below meth c H locs cells slots Q (F0 m (pc + 3) ls ((Value.ref f :: st).map (q_rv G))) := K
  rw [eS] at K
  exact va_gets C.1 C.2.1 (C.2.2.2.2.2.2.2.2.1.2.1 f hf) hA.2.2.2.1 C.2.2.2.2.1 (C.2.2.2.2.2.1 _ (q_wat_mem h1.1)) (fun _ h => h) hd K
theorem q_len0_some {M : qM} {k tag len : Nat} (h : q_len0 M k tag = some len) : M.1[k]? = some (tag, len) := by
  unfold q_len0 at h
  rw [q_nth_eq] at h
  split at h
  · next t n' hk =>
    cases hb : Nat.beq t tag with
    | false => rw [hb] at h; cases h
    | true =>
      rw [hb] at h
      cases h
      rw [hk, Nat.eq_of_beq_eq_true hb]
  · cases h
theorem qi_iaload (C : q_Cx G p R s m args meth c mi d) (hd : decode (q_by mi) pc = .ok (.iaload, n)) (hn : n = 1) (ha : q_do (qgT G) pc L st M .iaload n = some a) : q_Gd G p l e R s m args below meth c mi mc ms nM sM Q a (pc, L, st, M) := by
  subst hn
  unfold q_do at ha
  dsimp only at ha
  split at ha
  · next i k r =>
    unfold q_ald at ha
    cases hb : Nat.blt k 1000 with
    | true =>
      rw [hb] at ha
      dsimp only [cond_true] at ha
      split at ha
      · next len hlen =>
        have hk := q_len0_some hlen
        cases hi : q_in i len with
        | false => rw [hi] at ha; cases ha
        | true =>
          rw [hi] at ha
          cases ha
          refine ⟨_, rfl, fun _ _ K H locs cells slots ls hA hc hs => ?_⟩
          have K := K H locs cells slots ls hA hc hs
          have hlt : k < 1000 := Nat.le_of_ble_eq_true hb
          have he := q_wl_at (G := G) hk
          rw [q_ce_arr (by decide)] at he
          have eS : (Value.int i :: Value.ref k :: r).map (q_rv G) = .int i :: .ref (qgB G + k) :: r.map (q_rv G) := by
            rw [List.map_cons, List.map_cons]
            show _ :: Value.ref (q_ad G k) :: _ = _
            rw [q_ad_lt hlt]
            rfl
          show W p l e R s m args below meth c H locs cells slots Q (F0 m pc ls ((Value.int i :: Value.ref k :: r).map (q_rv G)))
          rw [eS]
          exact va_iald C.1 C.2.1 C.2.2.2.2.2.2.2.2.1.1 hA.1 k 0 he rfl (q_in_vp hi) hd K
      · cases ha
    | false =>
      rw [hb] at ha
      dsimp only [cond_false] at ha
      cases hi : (Nat.beq 100 100 && (Nat.blt k 1003 && q_in i (qgT G k).1)) with
      | false => rw [hi] at ha; cases ha
      | true =>
        rw [hi] at ha
        cases ha
        simp only [Bool.and_eq_true] at hi
        refine ⟨_, rfl, fun _ _ K H locs cells slots ls hA hc hs => ?_⟩
        have K := K H locs cells slots ls hA hc hs
        have hge : 1000 ≤ k := by
          rcases Nat.lt_or_ge k 1000 with z | z
          · rw [show Nat.blt k 1000 = true from Nat.ble_eq_true_of_le z] at hb; cases hb
          · exact z
        have hX := C.2.2.2.2.2.2.2.2.1.2.2.1 k hge (Nat.le_of_ble_eq_true hi.2.1)
        have hbs := C.2.2.2.2.2.2.2.2.1.2.2.2.2
        have eS : (Value.int i :: Value.ref k :: r).map (q_rv G) = .int i :: .ref (qgX G k) :: r.map (q_rv G) := by
          rw [List.map_cons, List.map_cons]
          show _ :: Value.ref (q_ad G k) :: _ = _
          rw [q_ad_ge hge]
          rfl
        show W p l e R s m args below meth c H locs cells slots Q (F0 m pc ls ((Value.int i :: Value.ref k :: r).map (q_rv G)))
        rw [eS]
        exact va_sld C.1 C.2.1 hX.1 (Nat.lt_of_lt_of_le hX.2 hbs) (Nat.not_le.mpr hX.2) hA.2.2.2.1 (q_in_vp hi.2.2) hd K
  · cases ha
theorem qi_caload (C : q_Cx G p R s m args meth c mi d) (hd : decode (q_by mi) pc = .ok (.caload, n)) (hn : n = 1) (ha : q_do (qgT G) pc L st M .caload n = some a) : q_Gd G p l e R s m args below meth c mi mc ms nM sM Q a (pc, L, st, M) := by
  subst hn
  unfold q_do at ha
  dsimp only at ha
  split at ha
  · next i k r =>
    unfold q_ald at ha
    cases hb : Nat.blt k 1000 with
    | true =>
      rw [hb] at ha
      dsimp only [cond_true] at ha
      split at ha
      · next len hlen =>
        have hk := q_len0_some hlen
        cases hi : q_in i len with
        | false => rw [hi] at ha; cases ha
        | true =>
          rw [hi] at ha
          cases ha
          refine ⟨_, rfl, fun _ _ K H locs cells slots ls hA hc hs => ?_⟩
          have K := K H locs cells slots ls hA hc hs
          have hlt : k < 1000 := Nat.le_of_ble_eq_true hb
          have he := q_wl_at (G := G) hk
          rw [q_ce_arr (by decide)] at he
          have eS : (Value.int i :: Value.ref k :: r).map (q_rv G) = .int i :: .ref (qgB G + k) :: r.map (q_rv G) := by
            rw [List.map_cons, List.map_cons]
            show _ :: Value.ref (q_ad G k) :: _ = _
            rw [q_ad_lt hlt]
            rfl
          show W p l e R s m args below meth c H locs cells slots Q (F0 m pc ls ((Value.int i :: Value.ref k :: r).map (q_rv G)))
          rw [eS]
          exact va_cald C.1 C.2.1 C.2.2.2.2.2.2.2.2.1.1 hA.1 k 1 he rfl (q_in_vp hi) hd K
      · cases ha
    | false =>
      rw [hb] at ha
      dsimp only [cond_false] at ha
      cases hi : (Nat.beq 101 100 && (Nat.blt k 1003 && q_in i (qgT G k).1)) with
      | false => rw [hi] at ha; cases ha
      | true =>
        exact absurd hi (by simp)
  · cases ha
theorem qi_baload (C : q_Cx G p R s m args meth c mi d) (hd : decode (q_by mi) pc = .ok (.baload, n)) (hn : n = 1) (ha : q_do (qgT G) pc L st M .baload n = some a) : q_Gd G p l e R s m args below meth c mi mc ms nM sM Q a (pc, L, st, M) := by
  subst hn
  unfold q_do at ha
  dsimp only at ha
  split at ha
  · next i k r =>
    unfold q_ald at ha
    cases hb : Nat.blt k 1000 with
    | true =>
      rw [hb] at ha
      dsimp only [cond_true] at ha
      split at ha
      · next len hlen =>
        have hk := q_len0_some hlen
        cases hi : q_in i len with
        | false => rw [hi] at ha; cases ha
        | true =>
          rw [hi] at ha
          cases ha
          refine ⟨_, rfl, fun _ _ K H locs cells slots ls hA hc hs => ?_⟩
          have K := K H locs cells slots ls hA hc hs
          have hlt : k < 1000 := Nat.le_of_ble_eq_true hb
          have he := q_wl_at (G := G) hk
          rw [q_ce_arr (by decide)] at he
          have eS : (Value.int i :: Value.ref k :: r).map (q_rv G) = .int i :: .ref (qgB G + k) :: r.map (q_rv G) := by
            rw [List.map_cons, List.map_cons]
            show _ :: Value.ref (q_ad G k) :: _ = _
            rw [q_ad_lt hlt]
            rfl
          show W p l e R s m args below meth c H locs cells slots Q (F0 m pc ls ((Value.int i :: Value.ref k :: r).map (q_rv G)))
          rw [eS]
          exact va_zald C.1 C.2.1 C.2.2.2.2.2.2.2.2.1.1 hA.1 k 2 he rfl (q_in_vp hi) hd K
      · cases ha
    | false =>
      rw [hb] at ha
      dsimp only [cond_false] at ha
      cases hi : (Nat.beq 102 100 && (Nat.blt k 1003 && q_in i (qgT G k).1)) with
      | false => rw [hi] at ha; cases ha
      | true =>
        exact absurd hi (by simp)
  · cases ha
/-- an element is written -/
theorem q_aw_core {k tag len idx : Nat} {x : Int32} {H H' : Heap} {locs : List Loc} {ls : Array Slot} (hA : q_At G s mi L M H locs ls) (hk : M.1[k]? = some (tag, len)) (ht : 100 ≤ tag) (e1 : H'[qgB G + k]? = some ((vp_cell (qgA G tag) (len, .inl (q_row M k))).setSlot idx (.int x))) (e2 : H'.size = H.size) (e3 : ∀ q, q ≠ qgB G + k → H'[q]? = H[q]?) : q_At G s mi L (q_put M k (upd (q_row M k) idx x)) H' (locs ++ [⟨qgB G + k, idx⟩]) ls := by
  refine ⟨q_P_set hA.1 hk (q_put_sh _ _ _) e3 (fun k' sh' h => q_ce_put h) ?_, by rw [e2, hA.2.1, q_put_sh], by rw [q_put_sh]; exact hA.2.2.1, hA.2.2.2.1.put e2 e3 (Nat.le_add_right _ _), hA.2.2.2.2⟩
  rw [q_ce_arr ht]
  show H'[qgB G + k]? = some (vp_cell _ _)
  rw [e1, vp_cell_i, vp_cell_i, arrV_store, q_row_put, if_pos rfl]
  congr 2
  funext q
  by_cases hq : q = idx
  · subst hq; simp [updV, upd]
  · simp [updV, upd, hq]
theorem qi_iastore (C : q_Cx G p R s m args meth c mi d) (hd : decode (q_by mi) pc = .ok (.iastore, n)) (hn : n = 1) (ha : q_do (qgT G) pc L st M .iastore n = some a) : q_Gd G p l e R s m args below meth c mi mc ms nM sM Q a (pc, L, st, M) := by
  subst hn
  unfold q_do at ha
  dsimp only at ha
  split at ha
  · next x i k r =>
    unfold q_ast at ha
    split at ha
    · next len hlen =>
      have hk := q_len0_some hlen
      cases hi : q_in i len with
      | false => rw [hi] at ha; cases ha
      | true =>
        rw [hi] at ha
        cases ha
        refine ⟨_, rfl, fun _ _ K H locs cells slots ls hA hc hs => ?_⟩
        have hlt : k < 1000 := Nat.lt_of_lt_of_le (List.getElem?_eq_some_iff.mp hk).1 hA.2.2.1
        have he := q_wl_at (G := G) hk
        rw [q_ce_arr (by decide)] at he
        have hcell := hA.1 k _ he
        have eS : (Value.int x :: Value.int i :: Value.ref k :: r).map (q_rv G) = .int x :: .int i :: .ref (qgB G + k) :: r.map (q_rv G) := by
          rw [List.map_cons, List.map_cons, List.map_cons]
          show _ :: _ :: Value.ref (q_ad G k) :: _ = _
          rw [q_ad_lt hlt]
          rfl
        show W p l e R s m args below meth c H locs cells slots Q (F0 m pc ls ((Value.int x :: Value.int i :: Value.ref k :: r).map (q_rv G)))
        rw [eS]
        refine W.iast C.1 C.2.1 hcell ((C.2.2.2.2.2.2.2.2.1.1.2 0 _ rfl).1 len (fun j => .int (q_row M k j))) (fun q => by cases q) (by show ¬ (i < 0 ∨ (arrV _ _ _).slots.size ≤ _); rw [arrV_size]; exact q_in_vp hi) rfl rfl hd fun H1 e1 e2 e3 => ?_
        
        exact K H1 _ cells slots ls (q_aw_core hA hk (by decide) e1 e2 e3) (by show _ ≤ mc + (q_put M k _).1.length; rw [q_put_sh]; exact hc) (by show _ ≤ ms + q_sl (q_put M k _); rw [q_sl_eq (q_put_sh _ _ _)]; exact hs)
    · cases ha
  · cases ha
theorem qi_castore (C : q_Cx G p R s m args meth c mi d) (hd : decode (q_by mi) pc = .ok (.castore, n)) (hn : n = 1) (ha : q_do (qgT G) pc L st M .castore n = some a) : q_Gd G p l e R s m args below meth c mi mc ms nM sM Q a (pc, L, st, M) := by
  subst hn
  unfold q_do at ha
  dsimp only at ha
  split at ha
  · next x i k r =>
    cases hch : q_chr x with
    | false => rw [hch] at ha; cases ha
    | true =>
    rw [hch] at ha
    dsimp only [cond_true] at ha
    unfold q_ast at ha
    split at ha
    · next len hlen =>
      have hk := q_len0_some hlen
      cases hi : q_in i len with
      | false => rw [hi] at ha; cases ha
      | true =>
        rw [hi] at ha
        cases ha
        refine ⟨_, rfl, fun _ _ K H locs cells slots ls hA hc hs => ?_⟩
        have hlt : k < 1000 := Nat.lt_of_lt_of_le (List.getElem?_eq_some_iff.mp hk).1 hA.2.2.1
        have he := q_wl_at (G := G) hk
        rw [q_ce_arr (by decide)] at he
        have hcell := hA.1 k _ he
        have eS : (Value.int x :: Value.int i :: Value.ref k :: r).map (q_rv G) = .int x :: .int i :: .ref (qgB G + k) :: r.map (q_rv G) := by
          rw [List.map_cons, List.map_cons, List.map_cons]
          show _ :: _ :: Value.ref (q_ad G k) :: _ = _
          rw [q_ad_lt hlt]
          rfl
        show W p l e R s m args below meth c H locs cells slots Q (F0 m pc ls ((Value.int x :: Value.int i :: Value.ref k :: r).map (q_rv G)))
        rw [eS]
        refine W.cast C.1 C.2.1 hcell ((C.2.2.2.2.2.2.2.2.1.1.2 1 _ rfl).1 len (fun j => .int (q_row M k j))) (fun q => by cases q) (by show ¬ (i < 0 ∨ (arrV _ _ _).slots.size ≤ _); rw [arrV_size]; exact q_in_vp hi) rfl rfl hd fun H1 e1 e2 e3 => ?_
        rw [show narrow .char (.int x) = .int x from by have := (q_chr_eq hch).2.1; unfold vp_nar at this; cases hz : narrow .char (.int x) <;> simp [narrow] at hz <;> simp_all [narrow]] at e1
        exact K H1 _ cells slots ls (q_aw_core hA hk (by decide) e1 e2 e3) (by show _ ≤ mc + (q_put M k _).1.length; rw [q_put_sh]; exact hc) (by show _ ≤ ms + q_sl (q_put M k _); rw [q_sl_eq (q_put_sh _ _ _)]; exact hs)
    · cases ha
  · cases ha
theorem qi_bastore (C : q_Cx G p R s m args meth c mi d) (hd : decode (q_by mi) pc = .ok (.bastore, n)) (hn : n = 1) (ha : q_do (qgT G) pc L st M .bastore n = some a) : q_Gd G p l e R s m args below meth c mi mc ms nM sM Q a (pc, L, st, M) := by
  subst hn
  unfold q_do at ha
  dsimp only at ha
  split at ha
  · next x i k r =>
    cases hch : q_bl x with
    | false => rw [hch] at ha; cases ha
    | true =>
    rw [hch] at ha
    dsimp only [cond_true] at ha
    unfold q_ast at ha
    split at ha
    · next len hlen =>
      have hk := q_len0_some hlen
      cases hi : q_in i len with
      | false => rw [hi] at ha; cases ha
      | true =>
        rw [hi] at ha
        cases ha
        refine ⟨_, rfl, fun _ _ K H locs cells slots ls hA hc hs => ?_⟩
        have hlt : k < 1000 := Nat.lt_of_lt_of_le (List.getElem?_eq_some_iff.mp hk).1 hA.2.2.1
        have he := q_wl_at (G := G) hk
        rw [q_ce_arr (by decide)] at he
        have hcell := hA.1 k _ he
        have eS : (Value.int x :: Value.int i :: Value.ref k :: r).map (q_rv G) = .int x :: .int i :: .ref (qgB G + k) :: r.map (q_rv G) := by
          rw [List.map_cons, List.map_cons, List.map_cons]
          show _ :: _ :: Value.ref (q_ad G k) :: _ = _
          rw [q_ad_lt hlt]
          rfl
        show W p l e R s m args below meth c H locs cells slots Q (F0 m pc ls ((Value.int x :: Value.int i :: Value.ref k :: r).map (q_rv G)))
        rw [eS]
        refine W.zast C.1 C.2.1 hcell ((C.2.2.2.2.2.2.2.2.1.1.2 2 _ rfl).1 len (fun j => .int (q_row M k j))) (fun q => by cases q) (by show ¬ (i < 0 ∨ (arrV _ _ _).slots.size ≤ _); rw [arrV_size]; exact q_in_vp hi) rfl rfl hd fun H1 e1 e2 e3 => ?_
        rw [(q_bl_eq hch).1] at e1
        exact K H1 _ cells slots ls (q_aw_core hA hk (by decide) e1 e2 e3) (by show _ ≤ mc + (q_put M k _).1.length; rw [q_put_sh]; exact hc) (by show _ ≤ ms + q_sl (q_put M k _); rw [q_sl_eq (q_put_sh _ _ _)]; exact hs)
    · cases ha
  · cases ha
theorem qi_arraylength (C : q_Cx G p R s m args meth c mi d) (hd : decode (q_by mi) pc = .ok (.arraylength, n)) (hn : n = 1) (ha : q_do (qgT G) pc L st M .arraylength n = some a) : q_Gd G p l e R s m args below meth c mi mc ms nM sM Q a (pc, L, st, M) := by
  subst hn
  unfold q_do at ha
  dsimp only at ha
  split at ha
  · next k r =>
    cases hb : Nat.blt k 1000 with
    | true =>
      rw [hb] at ha
      dsimp only [cond_true] at ha
      split at ha
      · next t len hk =>
        rw [q_nth_eq] at hk
        cases ht : (Nat.ble 100 t && Nat.ble t 102) with
        | false => rw [ht] at ha; cases ha
        | true =>
          rw [ht] at ha
          cases ha
          simp only [Bool.and_eq_true] at ht
          have t1 : 100 ≤ t := Nat.le_of_ble_eq_true ht.1
          have t2 : t ≤ 102 := Nat.le_of_ble_eq_true ht.2
          refine ⟨_, rfl, fun _ _ K H locs cells slots ls hA hc hs => ?_⟩
          have K := K H locs cells slots ls hA hc hs
          have hlt : k < 1000 := Nat.le_of_ble_eq_true hb
          have he := q_wl_at (G := G) hk
          rw [q_ce_arr t1] at he
          have eS : (Value.ref k :: r).map (q_rv G) = .ref (qgB G + k) :: r.map (q_rv G) := by
            rw [List.map_cons]
            show Value.ref (q_ad G k) :: _ = _
            rw [q_ad_lt hlt]
          show W p l e R s m args below meth c H locs cells slots Q (F0 m pc ls ((Value.ref k :: r).map (q_rv G)))
          rw [eS]
          obtain rfl | rfl | rfl : t = 100 ∨ t = 101 ∨ t = 102 := by omega
          · exact va_alen C.1 C.2.1 C.2.2.2.2.2.2.2.2.1.1 hA.1 k 0 he rfl rfl hd K
          · exact va_alen C.1 C.2.1 C.2.2.2.2.2.2.2.2.1.1 hA.1 k 1 he rfl rfl hd K
          · exact va_alen C.1 C.2.1 C.2.2.2.2.2.2.2.2.1.1 hA.1 k 2 he rfl rfl hd K
      · cases ha
    | false =>
      rw [hb] at ha
      dsimp only [cond_false] at ha
      cases hi : Nat.blt k 1003 with
      | false => rw [hi] at ha; cases ha
      | true =>
        rw [hi] at ha
        cases ha
        refine ⟨_, rfl, fun _ _ K H locs cells slots ls hA hc hs => ?_⟩
        have K := K H locs cells slots ls hA hc hs
        have hge : 1000 ≤ k := by
          rcases Nat.lt_or_ge k 1000 with z | z
          · rw [show Nat.blt k 1000 = true from Nat.ble_eq_true_of_le z] at hb; cases hb
          · exact z
        have hX := C.2.2.2.2.2.2.2.2.1.2.2.1 k hge (Nat.le_of_ble_eq_true hi)
        have hbs := C.2.2.2.2.2.2.2.2.1.2.2.2.2
        have eS : (Value.ref k :: r).map (q_rv G) = .ref (qgX G k) :: r.map (q_rv G) := by
          rw [List.map_cons]
          show Value.ref (q_ad G k) :: _ = _
          rw [q_ad_ge hge]
        show W p l e R s m args below meth c H locs cells slots Q (F0 m pc ls ((Value.ref k :: r).map (q_rv G)))
        rw [eS]
        exact va_slen C.1 C.2.1 hX.1 (Nat.lt_of_lt_of_le hX.2 hbs) (Nat.not_le.mpr hX.2) hA.2.2.2.1 hd K
  · cases ha
theorem q_new_sh (M : qM) (sh : Nat × Nat) : (q_new M sh).1 = M.1 ++ [sh] := by unfold q_new; rw [q_put_sh]
theorem q_new_ce {G : qG} {M : qM} {sh sh' : Nat × Nat} {k : Nat} (h : k ≠ M.1.length) : q_ce G (q_new M sh) k sh' = q_ce G M k sh' := by
  unfold q_new
  rw [q_ce_put h]
  unfold q_ce q_fv q_row
  simp [va_up, h]
theorem q_new_row (M : qM) (sh : Nat × Nat) : q_row (q_new M sh) M.1.length = fun _ => 0 := by
  unfold q_new
  rw [q_row_put, if_pos rfl]
theorem q_new_fv {M : qM} {sh : Nat × Nat} {ci j : Nat} (h9 : ci < 9) (hj : j < q_N ci) (G : qG) : defaultValue (q_ft ci j) = q_rv G (q_fv (q_new M sh) M.1.length ci j) := by
  have h := q_fk_all ci h9 j hj
  unfold q_fv
  rw [q_new_row]
  have e1 : (q_new M sh).2.2.2.1 M.1.length = 0 := by unfold q_new q_put; cases Nat.blt M.1.length 56 <;> simp [va_up]
  have e2 : (q_new M sh).2.2.2.2 M.1.length = fun _ => none := by unfold q_new q_put; cases Nat.blt M.1.length 56 <;> simp [va_up]
  rw [e1, e2]
  rcases h with h | h | h | h
  · rw [h.1, h.2]; rfl
  · rw [h.1, h.2]; rfl
  · rw [h.1, h.2]; rfl
  · rw [h.1, h.2.2.1]; rfl
theorem q_sl_new (M : qM) (sh : Nat × Nat) : q_sl (q_new M sh) = q_sl M + sh.2 := by
  unfold q_sl
  rw [q_new_sh]
  simp
theorem qi_new {i f x : Nat} (hv : q_fnd q_kl (q_rc mi) i = some (f, x)) (hmc : mc ≤ R.cells) (hms : ms ≤ R.slots) (C : q_Cx G p R s m args meth c mi d) (hd : decode (q_by mi) pc = .ok (.new i, n)) (hn : n = 3) (ha : q_do (qgT G) pc L st M (.new f) n = some a) : q_Gd G p l e R s m args below meth c mi mc ms nM sM Q a (pc, L, st, M) := by
  subst hn
  unfold q_do at ha
  dsimp only at ha
  cases hb : (Nat.blt M.1.length 999 && Nat.blt f 9) with
  | false => rw [hb] at ha; cases ha
  | true =>
    rw [hb] at ha
    cases ha
    simp only [Bool.and_eq_true] at hb
    have hl9 : M.1.length < 999 := Nat.le_of_ble_eq_true hb.1
    have h9 : f < 9 := Nat.le_of_ble_eq_true hb.2
    have h1 := List.all_eq_true.mp q_kl_all _ (q_fnd_mem hv)
    simp only [Bool.and_eq_true] at h1
    have h2 := List.all_eq_true.mp q_in_all f (List.mem_range.mpr h9)
    simp only [Bool.and_eq_true] at h2
    have hts := C.2.2.2.2.2.1
    refine ⟨_, rfl, fun hg1 hg2 K H locs cells slots ls hA hc hs => ?_⟩
    dsimp only at hg1 hg2 hc hs
    rw [q_new_sh, List.length_append] at hg1
    rw [q_sl_new] at hg2
    have hg1 : M.1.length + 1 ≤ nM := hg1
    have hg2 : q_sl M + q_N f ≤ sM := hg2
    have hKn := C.2.2.2.2.2.2.2.2.1.1.1 f _ (q_cls_at h9)
    refine W.newcK C.1 C.2.1 C.2.2.2.2.1 (hts _ (q_wat_mem h1.1)) (hts _ (q_wat_mem h2.1)) (hts _ (q_wat_mem h2.2)) rfl hd (by omega) (by omega) hKn.2.1 hA.2.1 fun H1 kC hkC e1 z1 o1 => ?_
    have K := K H1 locs (cells + 1) (slots + q_N f) ls ⟨q_P_push (sh := (f, q_N f)) hA.1 (q_new_sh _ _) o1 (fun k' sh' h => q_new_ce h) ?_, by rw [q_new_sh, List.length_append, z1]; rfl, by rw [q_new_sh, List.length_append]; show M.1.length + 1 ≤ 1000; omega, ⟨Nat.le_trans hA.2.2.2.1.1 (by rw [hA.2.1, z1]; omega), fun q h3 h4 => (o1 q (by rw [← hA.2.1]; exact Nat.lt_of_lt_of_le h3 hA.2.2.2.1.1)).trans (hA.2.2.2.1.2.1 q h3 h4), hA.2.2.2.1.2.2⟩, hA.2.2.2.2⟩ (by show _ ≤ mc + (q_new M _).1.length; rw [q_new_sh, List.length_append]; show _ ≤ mc + (M.1.length + 1); omega) (by show _ ≤ ms + q_sl (q_new M _); rw [q_sl_new]; show _ ≤ ms + (q_sl M + q_N f); omega)
    · have eS : (Value.ref M.1.length :: st).map (q_rv G) = .ref (qgB G + M.1.length) :: st.map (q_rv G) := by
        rw [List.map_cons]
        show Value.ref (q_ad G M.1.length) :: _ = _
        rw [q_ad_lt (by omega)]
      have K : W p l e R s m args below meth c H1 locs (cells + 1) (slots + q_N f) Q (F0 m (pc + 3) ls ((Value.ref M.1.length :: st).map (q_rv G))) := K
      rw [eS] at K
      exact K
    · rw [q_ce_obj h9]
      exact ⟨_, q_cls_at h9, (u_born (q_ft f) hts (q_lay_in h9) hKn hkC e1 (q_ft_all f h9)).to (fun j hj => by rw [q_fs_V hj]; exact q_new_fv h9 hj G)⟩
theorem q_tag_spec {t : ArrayType} {tag : Nat} (h : q_tag t = some tag) : 100 ≤ tag ∧ tag ≤ 102 ∧ (∃ p, q_wat p (.arrayClass (newarray.typeOf t)) = true) ∧ defaultValue (newarray.typeOf t) = .int 0 ∧ componentBytes (newarray.typeOf t) ≤ 4 ∧ ∃ j : Nat, ∀ G : qG, (q_tys G)[j]? = some (qgA G tag, newarray.typeOf t) := by
  cases t <;> simp [q_tag] at h <;> subst h
  · exact ⟨by decide, by decide, ⟨_, q_ar_all.2.2⟩, rfl, by decide, 2, fun _ => rfl⟩
  · exact ⟨by decide, by decide, ⟨_, q_ar_all.2.1⟩, rfl, by decide, 1, fun _ => rfl⟩
  · exact ⟨by decide, by decide, ⟨_, q_ar_all.1⟩, rfl, by decide, 0, fun _ => rfl⟩
theorem qi_newarray {t : ArrayType} (hmc : mc ≤ R.cells) (hms : ms ≤ R.slots) (C : q_Cx G p R s m args meth c mi d) (hd : decode (q_by mi) pc = .ok (.newarray t, n)) (hn : n = 2) (ha : q_do (qgT G) pc L st M (.newarray t) n = some a) : q_Gd G p l e R s m args below meth c mi mc ms nM sM Q a (pc, L, st, M) := by
  subst hn
  unfold q_do at ha
  dsimp only at ha
  split at ha
  · next x r =>
    split at ha
    · next tag htag =>
      cases hb : (Nat.blt M.1.length 999 && (decide (0 ≤ x) && Nat.ble x.toNatClampNeg 100000)) with
      | false => rw [hb] at ha; cases ha
      | true =>
        rw [hb] at ha
        cases ha
        simp only [Bool.and_eq_true, decide_eq_true_eq] at hb
        have hl9 : M.1.length < 999 := Nat.le_of_ble_eq_true hb.1
        have hx5 : x.toNatClampNeg ≤ 100000 := Nat.le_of_ble_eq_true hb.2.2
        obtain ⟨ht1, ht2, ⟨pw, hpw⟩, hdf, hcb, j, hty⟩ := q_tag_spec htag
        have hts := C.2.2.2.2.2.1
        refine ⟨_, rfl, fun hg1 hg2 K H locs cells slots ls hA hc hs => ?_⟩
        dsimp only at hg1 hg2 hc hs
        rw [q_new_sh, List.length_append] at hg1
        rw [q_sl_new] at hg2
        have hg1 : M.1.length + 1 ≤ nM := hg1
        have hg2 : q_sl M + x.toNatClampNeg ≤ sM := hg2
        have hbytes : x.toNatClampNeg * componentBytes (newarray.typeOf t) ≤ 536870912 := Nat.le_trans (Nat.mul_le_mul hx5 hcb) (by decide)
        refine va_newaK C.1 C.2.1 (hts _ (q_wat_mem hpw)) rfl hd rfl (by rw [Int32.not_lt]; exact hb.2.1) rfl hbytes (by omega) (by omega) hA.2.1 fun H1 cN e1 z1 o1 hAr hNm => ?_
        have hcN : cN = qgA G tag := by
          have h5 := (C.2.2.2.2.2.2.2.2.1.1.2 j _ (hty G)).2
          have h6 : s.vm.findClass ("[" ++ (newarray.typeOf t).toString) = some (qgA G tag) := by
            cases t <;> simp [q_tag] at htag <;> exact h5
          exact Option.some.inj (hNm.symm.trans h6)
        have K := K H1 locs (cells + 1) (slots + x.toNatClampNeg) ls ⟨q_P_push (sh := (tag, x.toNatClampNeg)) hA.1 (q_new_sh _ _) o1 (fun k' sh' h => q_new_ce h) ?_, by rw [q_new_sh, List.length_append, z1]; rfl, by rw [q_new_sh, List.length_append]; show M.1.length + 1 ≤ 1000; omega, ⟨Nat.le_trans hA.2.2.2.1.1 (by rw [hA.2.1, z1]; omega), fun q h3 h4 => (o1 q (by rw [← hA.2.1]; exact Nat.lt_of_lt_of_le h3 hA.2.2.2.1.1)).trans (hA.2.2.2.1.2.1 q h3 h4), hA.2.2.2.1.2.2⟩, hA.2.2.2.2⟩ (by show _ ≤ mc + (q_new M _).1.length; rw [q_new_sh, List.length_append]; show _ ≤ mc + (M.1.length + 1); omega) (by show _ ≤ ms + q_sl (q_new M _); rw [q_sl_new]; show _ ≤ ms + (q_sl M + x.toNatClampNeg); omega)
        · have eS : (Value.ref M.1.length :: r).map (q_rv G) = .ref (qgB G + M.1.length) :: r.map (q_rv G) := by
            rw [List.map_cons]
            show Value.ref (q_ad G M.1.length) :: _ = _
            rw [q_ad_lt (by omega)]
          have K : W p l e R s m args below meth c H1 locs (cells + 1) (slots + x.toNatClampNeg) Q (F0 m (pc + 2) ls ((Value.ref M.1.length :: r).map (q_rv G))) := K
          rw [eS] at K
          exact K
        · rw [q_ce_arr ht1]
          show H1[qgB G + M.1.length]? = some (vp_cell _ _)
          rw [e1, vp_cell_i, q_new_row, hcN, hdf]
    · cases ha
  · cases ha
end QJ
end
section
/-! copies, calls, ends: the small machine's answers are the machine's -/
theorem q_cd {α : Type} {b : Bool} {x : Option α} {y : α} (h : cond b x none = some y) : b = true ∧ x = some y := by
  cases b with
  | false => cases h
  | true => exact ⟨rfl, h⟩
theorem q_nx_eq {pc : Nat} {L : List (Option Value)} {st : List Value} {M : qM} {S' : qS} (h : q_nx pc L st M = some (.inl S')) : S'.2.2.2 = M := by cases h; rfl
theorem q_get_grow {pc : Nat} {L : List (Option Value)} {M : qM} {e k : Nat} {r : List Value} {S' : qS} (h : q_get pc L M e k r = some (.inl S')) : S'.2.2.2.1 = M.1 := by
  unfold q_get at h
  split at h
  · rw [q_nx_eq (q_cd h).2]
  · cases h
theorem q_set_grow {pc : Nat} {L : List (Option Value)} {M : qM} {e k : Nat} {v : Value} {r : List Value} {S' : qS} (h : q_set pc L M e k v r = some (.inl S')) : S'.2.2.2.1 = M.1 := by
  unfold q_set at h
  split at h
  · have h := (q_cd h).2
    split at h
    · split at h
      · rw [q_nx_eq h, q_put_sh]
      · rw [q_nx_eq (q_cd h).2, q_put_sh]
      · cases h
    · split at h
      · rw [q_nx_eq h]; rfl
      · cases h
    · split at h
      · rw [q_nx_eq h]; rfl
      · cases h
    · cases h
  · cases h
theorem q_ald_grow {xt : Nat → Nat × (Nat → Int32)} {pc : Nat} {L : List (Option Value)} {M : qM} {tag k : Nat} {i : Int32} {r : List Value} {S' : qS} (h : q_ald xt pc L M tag k i r = some (.inl S')) : S'.2.2.2.1 = M.1 := by
  unfold q_ald at h
  cases hb : Nat.blt k 1000 with
  | true =>
    rw [hb] at h
    dsimp only [cond_true] at h
    split at h
    · rw [q_nx_eq (q_cd h).2]
    · cases h
  | false =>
    rw [hb] at h
    rw [q_nx_eq (q_cd h).2]
theorem q_ast_grow {pc : Nat} {L : List (Option Value)} {M : qM} {tag k : Nat} {i x : Int32} {r : List Value} {S' : qS} (h : q_ast pc L M tag k i x r = some (.inl S')) : S'.2.2.2.1 = M.1 := by
  unfold q_ast at h
  split at h
  · rw [q_nx_eq (q_cd h).2, q_put_sh]
  · cases h
theorem q_copy_grow {pc : Nat} {L : List (Option Value)} {st : List Value} {M : qM} {S' : qS} (h : q_copy pc L st M = some (.inl S')) : S'.2.2.2.1 = M.1 := by
  unfold q_copy at h
  split at h
  · split at h
    · rw [q_nx_eq (q_cd h).2, q_put_sh]
    · cases h
  · cases h
theorem q_callV_inl {pc : Nat} {L : List (Option Value)} {st : List Value} {M : qM} {mj : Nat} {S' : qS} (h : q_callV pc L st M mj = some (.inl S')) : False := by
  unfold q_callV at h
  split at h
  · split at h
    · have := (q_cd h).2; cases this
    · cases h
  · cases h
theorem q_callS_inl {pc : Nat} {L : List (Option Value)} {st : List Value} {M : qM} {mj : Nat} {S' : qS} (h : q_callS pc L st M mj = some (.inl S')) : False := by
  unfold q_callS at h
  split at h
  · have := (q_cd h).2; cases this
  · cases h
theorem q_e0 {A B : List (Nat × Nat)} (h : A = B) : ∃ ex, A = B ++ ex := ⟨[], by rw [h, List.append_nil]⟩
theorem q_do_grow {xt : Nat → Nat × (Nat → Int32)} {pc n : Nat} {L : List (Option Value)} {st : List Value} {M : qM} {i : Instr} {S' : qS} (h : q_do xt pc L st M i n = some (.inl S')) : ∃ ex, S'.2.2.2.1 = M.1 ++ ex := by
  unfold q_do at h
  split at h
  all_goals (try (cases h; done))
  all_goals (try (exact q_e0 (by rw [q_nx_eq h])))
  all_goals (try (cases hb : Nat.beq _ 901 <;> rw [hb] at h <;> dsimp only [cond_true, cond_false] at h))
  all_goals (try (cases hb : Nat.beq _ 900 <;> rw [hb] at h <;> dsimp only [cond_true, cond_false] at h))
  all_goals (try (cases hb2 : Nat.beq _ 902 <;> rw [hb2] at h <;> dsimp only [cond_true, cond_false] at h))
  all_goals (try (exact absurd (q_callV_inl h) id))
  all_goals (try (exact absurd (q_callS_inl h) id))
  all_goals (try (exact q_e0 (q_copy_grow h)))
  all_goals (try (rw [q_nx_eq (q_cd h).2]; exact ⟨_, q_new_sh _ _⟩))
  all_goals (split at h)
  all_goals (try (cases h; done))
  all_goals (try (exact q_e0 (by rw [q_nx_eq h])))
  all_goals (try (exact q_e0 (q_get_grow h)))
  all_goals (try (exact q_e0 (q_set_grow h)))
  all_goals (try (exact q_e0 (q_ald_grow h)))
  all_goals (try (exact q_e0 (q_ast_grow h)))
  all_goals (try (exact q_e0 (by rw [q_nx_eq (q_cd h).2])))
  all_goals (try (exact q_e0 (q_ast_grow (q_cd h).2)))
  all_goals (try (have h9 := (q_cd h).2; cases h9; done))
  all_goals (try (cases hb : Nat.blt _ 1000 <;> rw [hb] at h <;> dsimp only [cond_true, cond_false] at h))
  all_goals (try (exact q_e0 (by rw [q_nx_eq (q_cd h).2])))
  all_goals (split at h)
  all_goals (try (cases h; done))
  all_goals (first | (have h8 := q_nx_eq h; rw [h8]) | (have h8 := q_nx_eq (q_cd h).2; rw [h8]))
  all_goals (first | exact q_e0 rfl | exact ⟨_, q_new_sh _ _⟩)
theorem q_ex_grow {xt : Nat → Nat × (Nat → Int32)} : ∀ (n d mi : Nat) (S : qS) (r : Option Value) (M' : qM), q_ex xt n d mi S = some (r, M') → ∃ ex, M'.1 = S.2.2.2.1 ++ ex := by
  intro n
  induction n with
  | zero => intro d mi S r M' h; simp [q_ex] at h
  | succ n ih =>
    intro d mi S r M' h
    rw [q_ex] at h
    cases ha : q_act xt mi S with
    | none => rw [ha] at h; cases h
    | some a =>
      rw [ha] at h
      rcases a with S' | v | ⟨mj, As, S'⟩
      · obtain ⟨e2, h2⟩ := ih d mi S' r M' h
        unfold q_act at ha
        split at ha
        · obtain ⟨e1, h1⟩ := q_do_grow ha
          exact ⟨e1 ++ e2, by rw [h2, h1, List.append_assoc]⟩
        · cases ha
      · cases h
        exact ⟨[], (List.append_nil _).symm⟩
      · cases d with
        | zero => cases h
        | succ d' =>
          dsimp only at h
          cases hc : q_ex xt n d' mj (0, q_ent mj As, [], S.2.2.2) with
          | none => rw [hc] at h; cases h
          | some w =>
            obtain ⟨v, M1⟩ := w
            rw [hc] at h
            obtain ⟨e1, h1⟩ := ih d' mj _ v M1 hc
            obtain ⟨e2, h2⟩ := ih (d' + 1) mi _ r M' h
            exact ⟨e1 ++ e2, by rw [h2]; show M1.1 ++ e2 = _; rw [h1, List.append_assoc]⟩
theorem q_ex_le2 {xt : Nat → Nat × (Nat → Int32)} {n d mi : Nat} {S : qS} {r : Option Value} {M' : qM} (h : q_ex xt n d mi S = some (r, M')) : S.2.2.2.1.length ≤ M'.1.length ∧ q_sl S.2.2.2 ≤ q_sl M' := by
  obtain ⟨ex, he⟩ := q_ex_grow n d mi S r M' h
  constructor
  · rw [he, List.length_append]; omega
  · unfold q_sl
    rw [he, List.map_append, List.sum_append]
    omega
def q_PW (G : qG) (l : Launch) (n : Nat) : Prop := ∀ (d mi : Nat) (S : qS) (r : Option Value) (M' : qM), q_ex (qgT G) n d mi S = some (r, M') → ∀ (p : Program) (e : Env) (R : Room) (s : State) (m : MethodId) (args : Array Value) (below : List Frame) (meth : Method) (c : Code), q_Cx G p R s m args meth c mi d → ∀ (mc ms : Nat), mc ≤ R.cells → ms ≤ R.slots → q_TT G p l e R s m args below meth c mi mc ms M'.1.length (q_sl M') (MQ below (q_Qc G r M') args s mc ms (qgF G)) S
theorem q_mch2_spec {mi : Nat} (h : mi < 171) : plainName (q_y mi).cls = true ∧ ((q_y mi).cls ≠ "java/lang/invoke/MethodHandle" ∧ (q_y mi).cls ≠ "java/lang/invoke/VarHandle" ∧ (parseMethodDescriptor (q_y mi).desc).map (fun d => d.parameters.length) = some (q_na mi)) ∧ q_ml mi = q_mx mi ∧ q_own mi = (q_y mi).cls ∧ q_ml mi ≤ 45 ∧ q_na mi + (if q_st mi = 1 then 0 else 1) ≤ q_ml mi := by
  have h1 := q_mch2_all mi h
  unfold q_mch2 at h1
  simp only [Bool.and_eq_true, decide_eq_true_eq] at h1
  obtain ⟨a1, a2, a3, a4, a5, a6, a7, a8⟩ := h1
  exact ⟨a1, ⟨a2, a3, a4⟩, a5, a6, Nat.le_of_ble_eq_true a7, Nat.le_of_ble_eq_true a8⟩
theorem q_ent_at {mj i : Nat} {As : List Value} {v : Value} (h : (q_ent mj As)[i]? = some (some v)) : As[i]? = some v := by
  unfold q_ent at h
  by_cases hi : i < As.length
  · rw [List.getElem?_append_left (by rw [List.length_map]; exact hi), List.getElem?_map] at h
    cases ha : As[i]? with
    | none => rw [ha] at h; cases h
    | some w => rw [ha] at h; cases h; rfl
  · rw [List.getElem?_append_right (by rw [List.length_map]; omega), List.getElem?_replicate] at h
    split at h <;> cases h
theorem q_met {G : qG} {l : Launch} {n : Nat} (ih : q_PW G l n) {d' mj : Nat} {As : List Value} {M M1 : qM} {v : Option Value} (hex : q_ex (qgT G) n d' mj (0, q_ent mj As, [], M) = some (v, M1)) (hm : mj < 171) (hlen : As.length ≤ q_ml mj) (hone : q_one As = true) :
    Met l (q_y mj) (Cond.code (q_y mj) (q_by mj) (q_mx mj) (q_rt mj) :: q_tbl) { frames := d' + 2, cells := M1.1.length - M.1.length, slots := q_sl M1 - q_sl M, locals := 64 * (d' + 2) } (q_Pc G As M) (q_Qc G v M1) (M1.1.length - M.1.length) (q_sl M1 - q_sl M) (qgF G) := by
  obtain ⟨hp1, hp2, hp3, hp4, hp5, -⟩ := q_mch2_spec hm
  have hg := q_ex_le2 hex
  refine Met.ofW (cc := q_by mj) (maxL := q_mx mj) (ret := q_rt mj) hp1 rfl ?_
  intro p e s m args below meth c s₁ B hml hv
  obtain ⟨rfl, hP, hsz, hle, hK⟩ := hv
  have hts := atoms_spec (ws := Cond.code (q_y mj) (q_by mj) (q_mx mj) (q_rt mj) :: q_tbl) B.pre
  have hl := lv_entry (As.map (q_rv G)) (n := q_mx mj) (by rw [q_sl_len G As hone, ← hp3]; exact hlen)
  rw [lg_entry_eq]
  generalize (lg_sl (As.map (q_rv G)) ++ List.replicate (q_mx mj - (lg_sl (As.map (q_rv G))).length) Slot.unset).toArray = ls at hl ⊢
  refine ih d' mj (0, q_ent mj As, [], M) v M1 hex p e _ s m _ below meth c ⟨B.exec, B.bytes, B.returns, hml.trans hp3.symm, ?_, fun w hw => hts w (List.mem_cons_of_mem _ hw), B.notSynchronized, (name_of_methodNamed B.named B.method).1, hK, Nat.le_refl _, Nat.le_refl _⟩ _ _ (Nat.le_refl _) (Nat.le_refl _) s.heap [] 0 0 ls ⟨hP, hsz, hle, va_S.rf, ?_⟩ ?_ ?_
  · rw [hp4]; exact findClass_of_methodNamed B.named
  · refine ⟨hl.1.trans hp3.symm, hl.2.1, ?_, fun i w h => ?_, fun _ i w h => ?_⟩
    · show (q_ent mj As).length = _
      unfold q_ent
      rw [List.length_append, List.length_map, List.length_replicate]
      omega
    · have := q_args_mem G As 0 i w hone (q_ent_at h)
      rw [Nat.zero_add] at this
      exact hl.2.2 _ this
    · have h1 := List.all_eq_true.mp hone w (List.mem_of_getElem? (q_ent_at h))
      exact Nat.eq_of_beq_eq_true h1
  · show 0 + M1.1.length ≤ (M1.1.length - M.1.length) + M.1.length
    have := hg.1
    dsimp only at this
    omega
  · show 0 + q_sl M1 ≤ (q_sl M1 - q_sl M) + q_sl M
    have := hg.2
    dsimp only at this
    omega
section QK
variable {G : qG} {p : Program} {l : Launch} {e : Env} {R : Room} {s : State} {m : MethodId} {args : Array Value} {below : List Frame} {meth : Method} {c : Code} {mi d mc ms nM sM : Nat} {Q : State → Prop} {pc n : Nat} {L : List (Option Value)} {st : List Value} {M : qM} {a : qR}
theorem q_nn {z : Int32} (hz : 0 ≤ z) : z.toInt = (z.toNatClampNeg : Int) := by
  have hz0 : (0 : Int) ≤ z.toInt := by simpa using Int32.le_iff_toInt_le.mp hz
  show z.toInt = ((z.toInt.toNat : Nat) : Int)
  omega
theorem qi_copy {i x : Nat} (hv : q_fnd q_mk (q_rc mi) i = some (900, x)) (C : q_Cx G p R s m args meth c mi d) (hd : decode (q_by mi) pc = .ok (.invokestatic i, n)) (hn : n = 3) (ha : q_copy (pc + n) L st M = some a) : q_Gd G p l e R s m args below meth c mi mc ms nM sM Q a (pc, L, st, M) := by
  subst hn
  unfold q_copy at ha
  split at ha
  · next nn dp k1 sp k0 r =>
    split at ha
    · next n0 n1 h0 h1 =>
      obtain ⟨hb, ha⟩ := q_cd ha
      cases ha
      simp only [Bool.and_eq_true, decide_eq_true_eq] at hb
      obtain ⟨b1, b2, b3, b4, b5, b6⟩ := hb
      have b4 := Nat.le_of_ble_eq_true b4
      have b5 := Nat.le_of_ble_eq_true b5
      have b6 := Nat.le_of_ble_eq_true b6
      have g0 := q_len0_some h0
      have g1 := q_len0_some h1
      refine ⟨_, rfl, fun _ _ K H locs cells slots ls hA hc hs => ?_⟩
      have hl0 : k0 < 1000 := Nat.lt_of_lt_of_le (List.getElem?_eq_some_iff.mp g0).1 hA.2.2.1
      have hl1 : k1 < 1000 := Nat.lt_of_lt_of_le (List.getElem?_eq_some_iff.mp g1).1 hA.2.2.1
      have he0 := q_wl_at (G := G) g0
      rw [q_ce_arr (by decide)] at he0
      have he1 := q_wl_at (G := G) g1
      rw [q_ce_arr (by decide)] at he1
      have hc0 : H[qgB G + k0]? = some (vp_cell (qgA G 100) (n0, .inl (q_row M k0))) := hA.1 k0 _ he0
      have hc1 : H[qgB G + k1]? = some (vp_cell (qgA G 100) (n1, .inl (q_row M k1))) := hA.1 k1 _ he1
      have hK := C.2.2.2.2.2.2.2.2.1.1
      have hts := C.2.2.2.2.2.1
      obtain ⟨-, kd, hkd, cm, hkind⟩ := (hK.2 0 _ rfl).1 n0 (fun j => .int (q_row M k0 j))
      have hlink := hts _ (q_wat_mem (List.all_eq_true.mp q_mk_all _ (q_fnd_mem hv)))
      have eS : (Value.int nn :: Value.int dp :: Value.ref k1 :: Value.int sp :: Value.ref k0 :: r).map (q_rv G) = .int nn :: .int dp :: .ref (qgB G + k1) :: .int sp :: .ref (qgB G + k0) :: r.map (q_rv G) := by
        simp only [List.map_cons]
        show Value.int nn :: Value.int dp :: Value.ref (q_ad G k1) :: Value.int sp :: Value.ref (q_ad G k0) :: _ = _
        rw [q_ad_lt hl0, q_ad_lt hl1]
      show W p l e R s m args below meth c H locs cells slots Q (F0 m pc ls ((Value.int nn :: Value.int dp :: Value.ref k1 :: Value.int sp :: Value.ref k0 :: r).map (q_rv G)))
      rw [eS]
      intro T hT X
      have hsum := q_sum_eq G r
      obtain ⟨vm', X', step⟩ := X.arraycopy C.1 C.2.2.2.2.1 (index := i) hlink (hts _ (q_wat_mem q_cp_all.1)) (hts _ (q_wat_mem q_cp_all.2.1)) (hts _ (q_wat_mem q_cp_all.2.2)) (src := qgB G + k0) (dst := qgB G + k1) (cs := vp_cell (qgA G 100) (n0, .inl (q_row M k0))) (cd := vp_cell (qgA G 100) (n1, .inl (q_row M k1))) (srcPos := sp) (destPos := dp) (n := nn) (by rw [hT]; exact hc0) (by rw [hT]; exact hc1)
        (fun _ h => by cases h) (fun _ h => by cases h) (fun h => by cases h) (fun h => by cases h) hkd hkd hkind hkind (by simp [refKind]) (Int32.not_lt.mpr b1) (Int32.not_lt.mpr b2) (Int32.not_lt.mpr b3)
        (by rw [q_nn b1, q_nn b3]; show ¬ _ > ((arrV _ n0 (fun j => .int (q_row M k0 j))).slots.size : Int); rw [arrV_size]; omega)
        (by rw [q_nn b2, q_nn b3]; show ¬ _ > ((arrV _ n1 (fun j => .int (q_row M k1 j))).slots.size : Int); rw [arrV_size]; omega)
        (fun vm₁ _ j hj => by
          have e9 : (vp_cell (qgA G 100) (n0, .inl (q_row M k0))).slots.getD (sp.toNatClampNeg + j) .null = .int (q_row M k0 (sp.toNatClampNeg + j)) := by
            show (arrV _ n0 (fun j => .int (q_row M k0 j))).slots.getD _ _ = _
            rw [Array.getD_eq_getD_getElem?, arrV_read _ _ (by omega)]
            rfl
          rw [e9]
          exact ⟨rfl, trivial⟩)
        (g := F0 m pc ls (.int nn :: .int dp :: .ref (qgB G + k1) :: .int sp :: .ref (qgB G + k0) :: r.map (q_rv G))) rfl (by rw [C.2.2.2.1]; exact hA.2.2.2.2.1) (rest := r.map (q_rv G)) rfl (by rw [C.2.1]; exact hd) (by have := C.2.2.2.2.2.2.2.2.2.1; omega) (by show 2 * 0 + _ + (nativeFrameWords "java/lang/System" "arraycopy" 5 + 11) ≤ _; rw [hsum]; have := C.2.2.2.2.2.2.2.2.2.2; have h77 : nativeFrameWords "java/lang/System" "arraycopy" 5 = 7 := (by decide +kernel); omega)
      have e1 : copied (vp_cell (qgA G 100) (n0, .inl (q_row M k0))) (vp_cell (qgA G 100) (n1, .inl (q_row M k1))) sp dp nn = vp_cell (qgA G 100) (n1, .inl (va_cpy (q_row M k0) (q_row M k1) sp.toNatClampNeg dp.toNatClampNeg nn.toNatClampNeg)) := va_copied (fun z => .int z) _ _ _ _ b4
      rw [e1] at X' step
      have hl : qgB G + k1 < H.size := (Array.getElem?_eq_some_iff.mp hc1).1
      have oq : ∀ q : Nat, q ≠ qgB G + k1 → (H.setIfInBounds (qgB G + k1) (vp_cell (qgA G 100) (n1, .inl (va_cpy (q_row M k0) (q_row M k1) sp.toNatClampNeg dp.toNatClampNeg nn.toNatClampNeg))))[q]? = H[q]? := fun q hq => by simp [Array.getElem?_setIfInBounds, Ne.symm hq]
      have hheap : ((T.setVm vm').setCell (qgB G + k1) (vp_cell (qgA G 100) (n1, .inl (va_cpy (q_row M k0) (q_row M k1) sp.toNatClampNeg dp.toNatClampNeg nn.toNatClampNeg)))).heap = H.setIfInBounds (qgB G + k1) (vp_cell (qgA G 100) (n1, .inl (va_cpy (q_row M k0) (q_row M k1) sp.toNatClampNeg dp.toNatClampNeg nn.toNatClampNeg))) := by rw [← hT]; rfl
      obtain ⟨t, a1, b1'⟩ := K _ _ cells slots ls ⟨q_P_set hA.1 g1 (q_put_sh _ _ _) oq (fun k' sh' h => q_ce_put h) (by
          rw [q_ce_arr (by decide), q_row_put, if_pos rfl]
          show (H.setIfInBounds (qgB G + k1) _)[qgB G + k1]? = some _
          simp [Array.getElem?_setIfInBounds, hl]), by rw [q_put_sh, Array.size_setIfInBounds]; exact hA.2.1, by rw [q_put_sh]; exact hA.2.2.1, ⟨by rw [Array.size_setIfInBounds]; exact hA.2.2.2.1.1, fun q g3 g4 => by
          rw [oq q (fun e9 => g4 (by rw [e9]; exact Nat.le_add_right _ _))]
          exact hA.2.2.2.1.2.1 q g3 g4, fun q hq => by
          rcases List.mem_append.mp hq with h | h
          · exact hA.2.2.2.1.2.2 q h
          · obtain ⟨z, -, hz⟩ := List.mem_map.mp h
            rw [← hz]
            exact Nat.le_add_right _ _⟩, hA.2.2.2.2⟩ (by show _ ≤ mc + (q_put M k1 _).1.length; rw [q_put_sh]; exact hc) (by show _ ≤ ms + q_sl (q_put M k1 _); rw [q_sl_eq (q_put_sh _ _ _)]; exact hs) _ hheap X'
      exact ⟨t, step t a1, b1'⟩
    · cases ha
  · cases ha
theorem qi_min {i x : Nat} (hv : q_fnd q_mk (q_rc mi) i = some (902, x)) (hmc : mc ≤ R.cells) (hms : ms ≤ R.slots) (C : q_Cx G p R s m args meth c mi d) (hd : decode (q_by mi) pc = .ok (.invokestatic i, n)) (hn : n = 3) (ha : q_do (qgT G) pc L st M (.invokestatic 902) n = some a) : q_Gd G p l e R s m args below meth c mi mc ms nM sM Q a (pc, L, st, M) := by
  subst hn
  unfold q_do at ha
  dsimp only at ha
  rw [show Nat.beq 902 900 = false from rfl, show Nat.beq 902 902 = true from rfl] at ha
  dsimp only [cond_true, cond_false] at ha
  split at ha
  · next y x r =>
    obtain ⟨hb, ha⟩ := q_cd ha
    cases ha
    have hb := Nat.le_of_ble_eq_true hb
    refine ⟨_, rfl, fun h1 h2 K H locs cells slots ls hA hc hs => ?_⟩
    have K := K H locs cells slots ls hA hc hs
    have hts := C.2.2.2.2.2.1
    have hlink := hts _ (q_wat_mem (List.all_eq_true.mp q_mk_all _ (q_fnd_mem hv)))
    have hsum := q_sum_eq G r
    have hf := C.2.2.2.2.2.2.2.2.2.1
    have hlo := C.2.2.2.2.2.2.2.2.2.2
    dsimp only at h1 h2 hc hs
    exact va_mmin C.1 C.2.1 (by rw [C.2.2.2.1]; exact hA.2.2.2.2.1.symm) C.2.2.2.2.1 hlink (hts _ (q_wat_mem q_mm_all.1)) (hts _ (q_wat_mem q_mm_all.2.1)) (hts _ (q_wat_mem q_mm_all.2.2)) (by omega) (by rw [hsum]; omega) (by omega) (by omega) hd K
  · cases ha
theorem qi_objInit {i x : Nat} (hv : q_fnd q_mk (q_rc mi) i = some (901, x)) (C : q_Cx G p R s m args meth c mi d) (hd : decode (q_by mi) pc = .ok (.invokespecial i, n)) (hn : n = 3) (ha : q_do (qgT G) pc L st M (.invokespecial 901) n = some a) : q_Gd G p l e R s m args below meth c mi mc ms nM sM Q a (pc, L, st, M) := by
  subst hn
  unfold q_do at ha
  dsimp only at ha
  rw [show Nat.beq 901 901 = true from rfl] at ha
  dsimp only [cond_true] at ha
  split at ha
  · next k r =>
    obtain ⟨hb, ha⟩ := q_cd ha
    cases ha
    have hb := Nat.le_of_ble_eq_true hb
    refine ⟨_, rfl, fun _ _ K H locs cells slots ls hA hc hs => ?_⟩
    have K := K H locs cells slots ls hA hc hs
    have hts := C.2.2.2.2.2.1
    have hlink := hts _ (q_wat_mem (List.all_eq_true.mp q_mk_all _ (q_fnd_mem hv)))
    have hsum := q_sum_eq G r
    have hf := C.2.2.2.2.2.2.2.2.2.1
    have hlo := C.2.2.2.2.2.2.2.2.2.2
    exact W.objInit C.1 C.2.1 C.2.2.2.2.1 hlink (hts _ (q_wat_mem q_oi_all.1)) (hts _ (q_wat_mem q_oi_all.2)) rfl (by rw [C.2.2.2.1]; exact hA.2.2.2.2.1) rfl hd (by omega) (by show 2 * 0 + ((r.map (q_rv G)).map fun v => v.category).sum + 12 ≤ _; rw [hsum]; omega) K
  · cases ha
/-- behind a call -/
theorem q_back {v : Option Value} {M1 : qM} {rest : List Value} {aa : Array Value} {H : Heap} {locs : List Loc} {cells slots mc1 ms1 : Nat} {ls : Array Slot} {st0 : List Value} (hr : va_Run p l e R s m args below meth c H locs cells slots mc1 ms1 (F0 m pc ls st0) (rest.map (q_rv G)) (q_Qc G v M1 aa) (qgF G)) (hgr : M.1.length ≤ M1.1.length) (hA : q_At G s mi L M H locs ls)
    (K : ∀ (H1 : Heap) (locs1 : List Loc), q_At G s mi L M1 H1 locs1 ls → W p l e R s m args below meth c H1 locs1 (cells + mc1) (slots + ms1) Q (F0 m (pc + 3) ls ((v.toList ++ rest).map (q_rv G)))) : W p l e R s m args below meth c H locs cells slots Q (F0 m pc ls st0) := by
  intro T hT X
  obtain ⟨w, st₀, t, T', LL, h0, X', hL, e1, e2, ⟨hq1, hq2, hq3, hq4, hq5⟩, stp⟩ := hr T hT X
  have hw : w = v.map (q_rv G) := Outcome.returned.inj hq1
  subst hw
  have hA1 : q_At G s mi L M1 T'.heap (locs ++ LL) ls := by
    refine ⟨by rw [e1]; exact hq2, by rw [e1]; exact hq3, hq4, ⟨?_, fun q g1 g2 => ?_, fun q hq => ?_⟩, hA.2.2.2.2⟩
    · have h1 := hA.2.2.2.1.1
      have h2 := hA.2.1
      have h3 : T'.heap.size = qgB G + M1.1.length := by rw [e1]; exact hq3
      omega
    · rw [e1, hq5 q (Nat.not_le.mp g2), h0]
      exact hA.2.2.2.1.2.1 q g1 g2
    · rcases List.mem_append.mp hq with h | h
      · exact hA.2.2.2.1.2.2 q h
      · exact hL q h
  obtain ⟨t2, a1, b1⟩ := K T'.heap (locs ++ LL) hA1 T' rfl X'
  refine ⟨t2, stp t2 ?_, b1⟩
  have eS : (v.toList ++ rest).map (q_rv G) = (v.map (q_rv G)).toList ++ rest.map (q_rv G) := by cases v <;> simp
  rw [eS] at a1
  exact a1
end QK
end
section
/-! the step: whatever the small machine answers, the machine answers -/
section QL
variable {G : qG} {p : Program} {l : Launch} {e : Env} {R : Room} {s : State} {m : MethodId} {args : Array Value} {below : List Frame} {meth : Method} {c : Code} {mi d mc ms nM sM : Nat} {Q : State → Prop} {pc n : Nat} {L : List (Option Value)} {st : List Value} {M : qM} {a : qR}
theorem q_mchk_spec {mj : Nat} (h : mj < 170) : Cond.code (q_y mj) (q_by mj) (q_mx mj) (q_rt mj) ∈ q_tbl ∧ Cond.initialized (q_y mj).cls ∈ q_tbl ∧ (q_st mj = 0 → Cond.instanceMethod (q_y mj) ∈ q_tbl ∧ Cond.selects (q_y mj).cls (q_y mj) (q_y mj) ∈ q_tbl) ∧ (q_st mj = 1 → Cond.static (q_y mj) ∈ q_tbl) ∧ (q_st mj = 2 → Cond.instanceMethod (q_y mj) ∈ q_tbl ∧ (q_y mj).name = "<init>" ∧ q_rt mj = none) := by
  have h1 := q_mchk_all h
  unfold q_mchk at h1
  split at h1
  · simp only [Bool.and_eq_true] at h1
    obtain ⟨a1, a2, a3⟩ := h1
    refine ⟨q_wat_mem a1, q_wat_mem a2, fun z => ?_, fun z => ?_, fun z => ?_⟩
    · rw [z] at a3
      simp only [Bool.and_eq_true] at a3
      exact ⟨q_wat_mem a3.1, q_wat_mem a3.2⟩
    · rw [z] at a3
      exact q_wat_mem a3
    · rw [z] at a3
      simp only [Bool.and_eq_true, decide_eq_true_eq] at a3
      exact ⟨q_wat_mem a3.1, a3.2.1, a3.2.2⟩
theorem q_good {mj : Nat} (h : mj < 170) : GoodIn q_tbl (Cond.code (q_y mj) (q_by mj) (q_mx mj) (q_rt mj) :: q_tbl) := by
  intro w hw
  rcases List.mem_cons.mp hw with rfl | hw
  · exact q_tbl_good _ (q_mchk_spec h).1
  · exact q_tbl_good w hw
theorem q_ret_Q {r : Option Value} {H : Heap} {locs : List Loc} {ls : Array Slot} {args : Array Value} (hK : q_KK G s) (hA : q_At G s mi L M H locs ls) {v : Option Value} (hv : v = r.map (q_rv G)) : ∀ t : State, t.heap = H → s.WarmedH t.vm → q_Qc G r M args s (.returned v) t := by
  intro t ht _
  refine ⟨by rw [hv], by rw [ht]; exact hA.1, by rw [ht]; exact hA.2.1, hA.2.2.1, fun q hq => ?_⟩
  rw [ht]
  exact hA.2.2.2.1.2.1 q (Nat.lt_of_lt_of_le hq hK.2.2.2.2) (Nat.not_le.mpr hq)
/-- a call of an instance method, or of a constructor; of a static method -/
theorem q_invoke {nf mj : Nat} (ih : q_PW G l nf) {S' : qS} {As : List Value} {r : Option Value} {M' : qM} (hmc : mc ≤ R.cells) (hms : ms ≤ R.slots) (C : q_Cx G p R s m args meth c mi d)
    (h : q_ex (qgT G) (nf + 1) d mi (pc, L, st, M) = some (r, M')) (ha : q_act (qgT G) mi (pc, L, st, M) = some (.inr (.inr (mj, As, S')))) (hm : mj < 170) (hlen : As.length ≤ q_ml mj) (hone : q_one As = true) (hS' : S' = (pc + 3, L, S'.2.2.1, M))
    (run : ∀ (H : Heap) (locs : List Loc) (cells slots : Nat) (ls : Array Slot) (mc1 ms1 : Nat) (rm : Room) (v : Option Value) (M1 : qM), q_At G s mi L M H locs ls → Met l (q_y mj) (Cond.code (q_y mj) (q_by mj) (q_mx mj) (q_rt mj) :: q_tbl) rm (q_Pc G As M) (q_Qc G v M1) mc1 ms1 (qgF G) → rm.cells = mc1 → rm.slots = ms1 → rm.frames + 1 ≤ R.frames ∧ 8 + (q_mx mj + 11) + rm.locals ≤ R.locals → cells + mc1 ≤ R.cells ∧ slots + ms1 ≤ R.slots → PreS s H (q_Pc G As M) (As.map (q_rv G)) → va_Run p l e R s m args below meth c H locs cells slots mc1 ms1 (F0 m pc ls (st.map (q_rv G))) (S'.2.2.1.map (q_rv G)) (q_Qc G v M1 (As.map (q_rv G)).toArray) (qgF G)) :
    q_TT G p l e R s m args below meth c mi mc ms M'.1.length (q_sl M') (MQ below (q_Qc G r M') args s mc ms (qgF G)) (pc, L, st, M) := by
  rw [q_ex, ha] at h
  cases d with
  | zero => cases h
  | succ d' =>
    dsimp only at h
    cases hc : q_ex (qgT G) nf d' mj (0, q_ent mj As, [], M) with
    | none => rw [hc] at h; cases h
    | some w =>
      obtain ⟨v, M1⟩ := w
      rw [hc] at h
      dsimp only at h
      have g1 := q_ex_le2 hc
      have g2 := q_ex_le2 h
      dsimp only at g1 g2
      have hM := q_met ih hc (by omega) hlen hone
      obtain ⟨hp1, hp2, hp3, hp4, hp5, -⟩ := q_mch2_spec (show mj < 171 by omega)
      intro H locs cells slots ls hA hcc hss
      dsimp only at hcc hss hA
      have hf := C.2.2.2.2.2.2.2.2.2.1
      have hlo := C.2.2.2.2.2.2.2.2.2.2
      have hKK := C.2.2.2.2.2.2.2.2.1
      refine q_back (M := M) (M1 := M1) (v := v) (rest := S'.2.2.1) (run H locs cells slots ls _ _ _ v M1 hA hM rfl rfl ⟨by show d' + 2 + 1 ≤ _; omega, by show 8 + (q_mx mj + 11) + 64 * (d' + 2) ≤ _; omega⟩ ⟨by omega, by omega⟩ ⟨q_Pc_blind G As M, fun U hU hW => ⟨rfl, by rw [hU]; exact hA.1, by rw [hU]; exact hA.2.1, hA.2.2.1, q_KK_moved hKK hW (fun q hq => by rw [hU]; exact hA.2.2.2.1.2.1 q (Nat.lt_of_lt_of_le hq hKK.2.2.2.2) (Nat.not_le.mpr hq)) (by rw [hU, hA.2.1]; exact Nat.le_add_right _ _)⟩⟩) g1.1 hA (fun H1 locs1 hA1 => ?_)
      have K := ih (d' + 1) mi (S'.1, S'.2.1, v.toList ++ S'.2.2.1, M1) r M' h p e R s m args below meth c C mc ms hmc hms H1 locs1 (cells + (M1.1.length - M.1.length)) (slots + (q_sl M1 - q_sl M)) ls
      rw [hS'] at K
      exact K hA1 (by show _ ≤ mc + M1.1.length; omega) (by show _ ≤ ms + q_sl M1; omega)
theorem q_callV_spec {mj : Nat} {a : qR} (ha : q_callV pc L st M mj = some a) : ∃ (As rest : List Value) (b sz : Nat), st = As.reverse ++ .ref b :: rest ∧ As.length = q_na mj ∧ M.1[b]? = some (q_rc mj, sz) ∧ q_sum rest ≤ 8 ∧ q_one As = true ∧ a = .inr (.inr (mj, .ref b :: As, (pc, L, rest, M))) := by
  unfold q_callV at ha
  split at ha
  · next As b rest hsp =>
    split at ha
    · next ci sz hk =>
      obtain ⟨hb, ha⟩ := q_cd ha
      simp only [Bool.and_eq_true] at hb
      obtain ⟨h1, h2⟩ := q_split0 hsp
      rw [q_nth_eq, Nat.eq_of_beq_eq_true hb.1] at hk
      exact ⟨As, rest, b, sz, h2, h1, hk, Nat.le_of_ble_eq_true hb.2.1, hb.2.2, (Option.some.inj ha).symm⟩
    · cases ha
  · cases ha
theorem q_callS_spec {mj : Nat} {a : qR} (ha : q_callS pc L st M mj = some a) : ∃ (As rest : List Value), st = As.reverse ++ rest ∧ As.length = q_na mj ∧ q_sum rest ≤ 8 ∧ q_one As = true ∧ a = .inr (.inr (mj, As, (pc, L, rest, M))) := by
  unfold q_callS at ha
  split at ha
  · next As rest hsp =>
    obtain ⟨hb, ha⟩ := q_cd ha
    simp only [Bool.and_eq_true] at hb
    obtain ⟨h1, h2⟩ := q_split0 hsp
    exact ⟨As, rest, h2, h1, Nat.le_of_ble_eq_true hb.1, hb.2, (Option.some.inj ha).symm⟩
  · cases ha
theorem q_one_ref {As : List Value} {b : Nat} (h : q_one As = true) : q_one (.ref b :: As) = true := by
  unfold q_one at h ⊢
  rw [List.all_cons, h]
  rfl
end QL
theorem q_rcLt : ∀ mi, mi < 170 → q_st mi = 1 ∨ q_rc mi < 9 := by decide +kernel
end
section
theorem q_step {G : qG} {l : Launch} {nf : Nat} (ih : q_PW G l nf) : q_PW G l (nf + 1) := by
  intro d mi S r M' h p e R s m args below meth c C mc ms hmc hms
  obtain ⟨pc, L, st, M⟩ := S
  have h0 := h
  rw [q_ex] at h
  cases ha : q_act (qgT G) mi (pc, L, st, M) with
  | none => rw [ha] at h; cases h
  | some a =>
    rw [ha] at h
    have ha0 := ha
    unfold q_act at ha
    split at ha
    · next i n hcode =>
      dsimp only at ha hcode
      obtain ⟨hmi, rr, hdec, hln, hcv⟩ := q_code_spec hcode
      have plain : q_Gd G p l e R s m args below meth c mi mc ms M'.1.length (q_sl M') (MQ below (q_Qc G r M') args s mc ms (qgF G)) a (pc, L, st, M) → q_TT G p l e R s m args below meth c mi mc ms M'.1.length (q_sl M') (MQ below (q_Qc G r M') args s mc ms (qgF G)) (pc, L, st, M) := by
        rintro ⟨S', hS', hT⟩
        subst hS'
        have g := q_ex_le2 h
        exact hT g.1 g.2 (ih d mi S' r M' h p e R s m args below meth c C mc ms hmc hms)
      have hKK := C.2.2.2.2.2.2.2.2.1
      have hts := C.2.2.2.2.2.1
      cases rr
      case aload_n j => cases hcv; exact plain (qi_aload_n C hdec (hln.resolve_left (fun z => by simp [q_ln] at z)).symm ha)
      case aload j => cases hcv; exact plain (qi_aload C hdec (hln.resolve_left (fun z => by simp [q_ln] at z)).symm ha)
      case iload_n j => cases hcv; exact plain (qi_iload_n C hdec (hln.resolve_left (fun z => by simp [q_ln] at z)).symm ha)
      case iload j => cases hcv; exact plain (qi_iload C hdec (hln.resolve_left (fun z => by simp [q_ln] at z)).symm ha)
      case lload_n j => cases hcv; exact plain (qi_lload_n C hdec (hln.resolve_left (fun z => by simp [q_ln] at z)).symm ha)
      case lload j => cases hcv; exact plain (qi_lload C hdec (hln.resolve_left (fun z => by simp [q_ln] at z)).symm ha)
      case istore_n j =>
        unfold q_cv at hcv
        dsimp only at hcv
        cases hlg : q_lg mi with
        | false => rw [hlg] at hcv; cases hcv; exact plain (qi_istore_n hlg C hdec (hln.resolve_left (fun z => by simp [q_ln] at z)).symm ha)
        | true => rw [hlg] at hcv; cases hcv; exact plain (qi_fstore_n hlg C hdec (hln.resolve_left (fun z => by simp [q_ln] at z)).symm ha)
      case astore_n j =>
        unfold q_cv at hcv
        dsimp only at hcv
        cases hlg : q_lg mi with
        | false => rw [hlg] at hcv; cases hcv; exact plain (qi_astore_n hlg C hdec (hln.resolve_left (fun z => by simp [q_ln] at z)).symm ha)
        | true => rw [hlg] at hcv; cases hcv
      case lstore_n j =>
        unfold q_cv at hcv
        dsimp only at hcv
        cases hlg : q_lg mi with
        | true => rw [hlg] at hcv; cases hcv; exact plain (qi_lstore_n hlg C hdec (hln.resolve_left (fun z => by simp [q_ln] at z)).symm ha)
        | false => rw [hlg] at hcv; cases hcv
      case istore j =>
        unfold q_cv at hcv
        dsimp only at hcv
        cases hlg : q_lg mi with
        | false => rw [hlg] at hcv; cases hcv; exact plain (qi_istore hlg C hdec (hln.resolve_left (fun z => by simp [q_ln] at z)).symm ha)
        | true => rw [hlg] at hcv; cases hcv; exact plain (qi_fstore hlg C hdec (hln.resolve_left (fun z => by simp [q_ln] at z)).symm ha)
      case astore j =>
        unfold q_cv at hcv
        dsimp only at hcv
        cases hlg : q_lg mi with
        | false => rw [hlg] at hcv; cases hcv; exact plain (qi_astore hlg C hdec (hln.resolve_left (fun z => by simp [q_ln] at z)).symm ha)
        | true => rw [hlg] at hcv; cases hcv
      case lstore j =>
        unfold q_cv at hcv
        dsimp only at hcv
        cases hlg : q_lg mi with
        | true => rw [hlg] at hcv; cases hcv; exact plain (qi_lstore hlg C hdec (hln.resolve_left (fun z => by simp [q_ln] at z)).symm ha)
        | false => rw [hlg] at hcv; cases hcv
      case iconst v => cases hcv; exact plain (qi_iconst C hdec (hln.resolve_left (fun z => by simp [q_ln] at z)).symm ha)
      case bipush v =>
        unfold q_cv at hcv
        dsimp only at hcv
        split at hcv
        · next hv => cases hcv; exact plain (qi_bipush hv C hdec (hln.resolve_left (fun z => by simp [q_ln] at z)).symm ha)
        · cases hcv
      case sipush v =>
        unfold q_cv at hcv
        dsimp only at hcv
        split at hcv
        · next hv => cases hcv; exact plain (qi_sipush hv C hdec (hln.resolve_left (fun z => by simp [q_ln] at z)).symm ha)
        · cases hcv
      case ldc i =>
        unfold q_cv at hcv
        dsimp only at hcv
        cases hv : q_fnd q_ck (q_rc mi) i with
        | none => rw [hv] at hcv; cases hcv
        | some w =>
          obtain ⟨w, x⟩ := w
          rw [hv] at hcv
          cases hcv
          exact plain (qi_ldc hv C hdec (hln.resolve_left (fun z => by simp [q_ln] at z)).symm ha)
      case ldc_w i =>
        unfold q_cv at hcv
        dsimp only at hcv
        cases hv : q_fnd q_ck (q_rc mi) i with
        | none => rw [hv] at hcv; cases hcv
        | some w =>
          obtain ⟨w, x⟩ := w
          rw [hv] at hcv
          cases hcv
          exact plain (qi_ldc_w hv C hdec (hln.resolve_left (fun z => by simp [q_ln] at z)).symm ha)
      case ldc2_w i =>
        unfold q_cv at hcv
        dsimp only at hcv
        cases hv : q_fnd q_cj (q_rc mi) i with
        | none => rw [hv] at hcv; cases hcv
        | some w =>
          obtain ⟨w, x⟩ := w
          rw [hv] at hcv
          cases hcv
          exact plain (qi_ldc2_w hv C hdec (hln.resolve_left (fun z => by simp [q_ln] at z)).symm ha)
      case getfield i =>
        unfold q_cv at hcv
        dsimp only at hcv
        cases hv : q_fnd q_fl (q_rc mi) i with
        | none => rw [hv] at hcv; cases hcv
        | some w =>
          obtain ⟨w, x⟩ := w
          rw [hv] at hcv
          cases hcv
          exact plain (qi_getfield hv C hdec (hln.resolve_left (fun z => by simp [q_ln] at z)).symm ha)
      case getstatic i =>
        unfold q_cv at hcv
        dsimp only at hcv
        cases hv : q_fnd q_fs (q_rc mi) i with
        | none => rw [hv] at hcv; cases hcv
        | some w =>
          obtain ⟨w, x⟩ := w
          rw [hv] at hcv
          cases hcv
          exact plain (qi_getstatic hv C hdec (hln.resolve_left (fun z => by simp [q_ln] at z)).symm ha)
      case new i =>
        unfold q_cv at hcv
        dsimp only at hcv
        cases hv : q_fnd q_kl (q_rc mi) i with
        | none => rw [hv] at hcv; cases hcv
        | some w =>
          obtain ⟨w, x⟩ := w
          rw [hv] at hcv
          cases hcv
          exact plain (qi_new hv hmc hms C hdec (hln.resolve_left (fun z => by simp [q_ln] at z)).symm ha)
      case putfield i =>
        unfold q_cv at hcv
        dsimp only at hcv
        split at hcv
        · next f x hv =>
          split at hcv
          · next hfin => cases hcv; exact plain (qi_putfield hv hfin C hdec (hln.resolve_left (fun z => by simp [q_ln] at z)).symm ha)
          · cases hcv
        · cases hcv
      case lconst k => cases hcv; exact plain (qi_lconst C hdec (hln.resolve_left (fun z => by simp [q_ln] at z)).symm ha)
      case iinc j v => cases hcv; exact plain (qi_iinc C hdec (hln.resolve_left (fun z => by simp [q_ln] at z)).symm ha)
      case iadd => cases hcv; exact plain (qi_iadd C hdec (hln.resolve_left (fun z => by simp [q_ln] at z)).symm ha)
      case isub => cases hcv; exact plain (qi_isub C hdec (hln.resolve_left (fun z => by simp [q_ln] at z)).symm ha)
      case imul => cases hcv; exact plain (qi_imul C hdec (hln.resolve_left (fun z => by simp [q_ln] at z)).symm ha)
      case iand => cases hcv; exact plain (qi_iand C hdec (hln.resolve_left (fun z => by simp [q_ln] at z)).symm ha)
      case ior => cases hcv; exact plain (qi_ior C hdec (hln.resolve_left (fun z => by simp [q_ln] at z)).symm ha)
      case ixor => cases hcv; exact plain (qi_ixor C hdec (hln.resolve_left (fun z => by simp [q_ln] at z)).symm ha)
      case ishl => cases hcv; exact plain (qi_ishl C hdec (hln.resolve_left (fun z => by simp [q_ln] at z)).symm ha)
      case ishr => cases hcv; exact plain (qi_ishr C hdec (hln.resolve_left (fun z => by simp [q_ln] at z)).symm ha)
      case iushr => cases hcv; exact plain (qi_iushr C hdec (hln.resolve_left (fun z => by simp [q_ln] at z)).symm ha)
      case ladd => cases hcv; exact plain (qi_ladd C hdec (hln.resolve_left (fun z => by simp [q_ln] at z)).symm ha)
      case lmul => cases hcv; exact plain (qi_lmul C hdec (hln.resolve_left (fun z => by simp [q_ln] at z)).symm ha)
      case idiv => cases hcv; exact plain (qi_idiv C hdec (hln.resolve_left (fun z => by simp [q_ln] at z)).symm ha)
      case irem => cases hcv; exact plain (qi_irem C hdec (hln.resolve_left (fun z => by simp [q_ln] at z)).symm ha)
      case ldiv => cases hcv; exact plain (qi_ldiv C hdec (hln.resolve_left (fun z => by simp [q_ln] at z)).symm ha)
      case lrem => cases hcv; exact plain (qi_lrem C hdec (hln.resolve_left (fun z => by simp [q_ln] at z)).symm ha)
      case lcmp => cases hcv; exact plain (qi_lcmp C hdec (hln.resolve_left (fun z => by simp [q_ln] at z)).symm ha)
      case i2l => cases hcv; exact plain (qi_i2l C hdec (hln.resolve_left (fun z => by simp [q_ln] at z)).symm ha)
      case i2c => cases hcv; exact plain (qi_i2c C hdec (hln.resolve_left (fun z => by simp [q_ln] at z)).symm ha)
      case dup => cases hcv; exact plain (qi_dup C hdec (hln.resolve_left (fun z => by simp [q_ln] at z)).symm ha)
      case dup2 => cases hcv; exact plain (qi_dup2 C hdec (hln.resolve_left (fun z => by simp [q_ln] at z)).symm ha)
      case pop => cases hcv; exact plain (qi_pop C hdec (hln.resolve_left (fun z => by simp [q_ln] at z)).symm ha)
      case iaload => cases hcv; exact plain (qi_iaload C hdec (hln.resolve_left (fun z => by simp [q_ln] at z)).symm ha)
      case caload => cases hcv; exact plain (qi_caload C hdec (hln.resolve_left (fun z => by simp [q_ln] at z)).symm ha)
      case baload => cases hcv; exact plain (qi_baload C hdec (hln.resolve_left (fun z => by simp [q_ln] at z)).symm ha)
      case iastore => cases hcv; exact plain (qi_iastore C hdec (hln.resolve_left (fun z => by simp [q_ln] at z)).symm ha)
      case castore => cases hcv; exact plain (qi_castore C hdec (hln.resolve_left (fun z => by simp [q_ln] at z)).symm ha)
      case bastore => cases hcv; exact plain (qi_bastore C hdec (hln.resolve_left (fun z => by simp [q_ln] at z)).symm ha)
      case arraylength => cases hcv; exact plain (qi_arraylength C hdec (hln.resolve_left (fun z => by simp [q_ln] at z)).symm ha)
      case newarray t => cases hcv; exact plain (qi_newarray hmc hms C hdec (hln.resolve_left (fun z => by simp [q_ln] at z)).symm ha)
      case goto o =>
        unfold q_cv q_sp at hcv
        dsimp only at hcv
        split at hcv
        · next ho => cases hcv; exact plain (qi_goto ho C hdec (hln.resolve_left (fun z => by simp [q_ln] at z)).symm ha)
        · cases hcv
      case ifCond cd o =>
        unfold q_cv q_sp at hcv
        dsimp only at hcv
        split at hcv
        · next ho => cases hcv; exact plain (qi_ifCond ho C hdec (hln.resolve_left (fun z => by simp [q_ln] at z)).symm ha)
        · cases hcv
      case if_icmp cd o =>
        unfold q_cv q_sp at hcv
        dsimp only at hcv
        split at hcv
        · next ho => cases hcv; exact plain (qi_if_icmp ho C hdec (hln.resolve_left (fun z => by simp [q_ln] at z)).symm ha)
        · cases hcv
      case tableswitch dd lo hi offs =>
        unfold q_cv at hcv
        dsimp only at hcv
        split at hcv
        · next ho => cases hcv; exact plain (qi_tableswitch ho C hdec ha)
        · cases hcv
      case ireturn =>
        have hn : n = 1 := (hln.resolve_left (fun z => by simp [q_ln] at z)).symm
        subst hn
        unfold q_cv at hcv
        dsimp only at hcv
        split at hcv
        · next hrt =>
          cases hcv
          unfold q_do at ha
          dsimp only at ha
          split at ha
          · next x =>
            cases ha
            cases h
            intro H locs cells slots ls hA hc hs
            dsimp only at hc hs hA
            refine W.widen (k := mc) (n := ms) (by omega) (by omega) ?_
            exact W.iret C.1 C.2.1 (C.2.2.1.trans hrt) (q_ret_Q hKK hA rfl) hA.2.2.2.1.2.2 hdec C.2.2.2.2.2.2.1
          · cases ha
        · next hrt =>
          cases hcv
          unfold q_do at ha
          dsimp only at ha
          split at ha
          · next x =>
            obtain ⟨hb, ha⟩ := q_cd ha
            cases ha
            cases h
            intro H locs cells slots ls hA hc hs
            dsimp only at hc hs hA
            refine W.widen (k := mc) (n := ms) (by omega) (by omega) ?_
            exact W.zret C.1 C.2.1 (C.2.2.1.trans hrt) (q_bl_eq hb).1 (q_ret_Q hKK hA rfl) hA.2.2.2.1.2.2 hdec C.2.2.2.2.2.2.1
          · cases ha
        · cases hcv
      case lreturn =>
        have hn : n = 1 := (hln.resolve_left (fun z => by simp [q_ln] at z)).symm
        subst hn
        unfold q_cv at hcv
        dsimp only at hcv
        split at hcv
        · next hrt =>
          cases hcv
          unfold q_do at ha
          dsimp only at ha
          split at ha
          · next x =>
            cases ha
            cases h
            intro H locs cells slots ls hA hc hs
            dsimp only at hc hs hA
            refine W.widen (k := mc) (n := ms) (by omega) (by omega) ?_
            exact W.lret C.1 C.2.1 (C.2.2.1.trans hrt) (q_ret_Q hKK hA rfl) hA.2.2.2.1.2.2 hdec C.2.2.2.2.2.2.1
          · cases ha
        · cases hcv
      case areturn =>
        have hn : n = 1 := (hln.resolve_left (fun z => by simp [q_ln] at z)).symm
        subst hn
        unfold q_cv at hcv
        dsimp only at hcv
        split at hcv
        · next cn hrt =>
          cases hcv
          unfold q_do at ha
          dsimp only at ha
          split at ha
          · next x =>
            cases ha
            cases h
            intro H locs cells slots ls hA hc hs
            dsimp only at hc hs hA
            refine W.widen (k := mc) (n := ms) (by omega) (by omega) ?_
            exact W.aret C.1 C.2.1 (C.2.2.1.trans hrt) (Or.inl ⟨_, rfl⟩) (Or.inr ⟨_, rfl⟩) (q_ret_Q hKK hA rfl) hA.2.2.2.1.2.2 hdec C.2.2.2.2.2.2.1
          · cases ha
        · cases hcv
      case return_ =>
        have hn : n = 1 := (hln.resolve_left (fun z => by simp [q_ln] at z)).symm
        subst hn
        unfold q_cv at hcv
        dsimp only at hcv
        split at hcv
        · next hrt =>
          cases hcv
          unfold q_do at ha
          dsimp only at ha
          split at ha
          · cases ha
            cases h
            intro H locs cells slots ls hA hc hs
            dsimp only at hc hs hA
            refine W.widen (k := mc) (n := ms) (by omega) (by omega) ?_
            exact W.vret C.1 C.2.1 (C.2.2.1.trans hrt) (q_ret_Q hKK hA rfl) hA.2.2.2.1.2.2 hdec C.2.2.2.2.2.2.1
          · cases ha
        · cases hcv
      case invokevirtual i =>
        have hn : n = 3 := (hln.resolve_left (fun z => by simp [q_ln] at z)).symm
        subst hn
        unfold q_cv at hcv
        dsimp only at hcv
        split at hcv
        · next mj x hv =>
          split at hcv
          · next hmj =>
            obtain ⟨hst, hm⟩ := hmj
            cases hcv
            unfold q_do at ha
            dsimp only at ha
            obtain ⟨As, rest, b, sz, e1, e2, e3, e4, e5, e6⟩ := q_callV_spec ha
            subst e6
            obtain ⟨w1, w2, w3, -, -⟩ := q_mchk_spec hm
            obtain ⟨hp1, hp2, hp3, hp4, hp5, hp6⟩ := q_mch2_spec (show mj < 171 by omega)
            have h9 : q_rc mj < 9 := (q_rcLt mj hm).resolve_left (by omega)
            rw [if_neg (by omega)] at hp6
            have hlink := hts _ (q_wat_mem (List.all_eq_true.mp q_mk_all _ (q_fnd_mem hv)))
            have hyy : q_yy mj = q_y mj := by unfold q_yy; rw [if_neg (by omega), if_neg (by omega), if_neg (by omega)]
            simp only [hyy] at hlink
            refine q_invoke ih hmc hms C h0 ha0 hm (by rw [List.length_cons, e2]; exact hp6) (q_one_ref e5) rfl ?_
            intro H locs cells slots ls mc1 ms1 rm v M1 hA hM hrc hrs hR hf hpre
            have hlt : b < 1000 := Nat.lt_of_lt_of_le (List.getElem?_eq_some_iff.mp e3).1 hA.2.2.1
            have he := q_wl_at (G := G) e3
            rw [q_ce_obj h9] at he
            have eA : (Value.ref b :: As).map (q_rv G) = .ref (qgB G + b) :: As.map (q_rv G) := by
              rw [List.map_cons]
              show Value.ref (q_ad G b) :: _ = _
              rw [q_ad_lt hlt]
            have eS : st.map (q_rv G) = (As.map (q_rv G)).reverse ++ .ref (qgB G + b) :: rest.map (q_rv G) := by
              rw [e1, List.map_append, List.map_reverse, List.map_cons]
              show _ ++ Value.ref (q_ad G b) :: _ = _
              rw [q_ad_lt hlt]
            rw [eA] at hpre ⊢
            have hrecv := va_recv hKK.1 hA.1 (q_cls_at h9) he
            have hcw : CallW R s args (q_own mi) (q_y mj).cls i (q_y mj) (q_by mj) (q_mx mj) (q_rt mj) (Cond.code (q_y mj) (q_by mj) (q_mx mj) (q_rt mj) :: q_tbl) rm mc1 ms1 (q_na mj) := ⟨callB_of (q_na mj) hts (q_good hm) rfl hrc hrs (hts _ w2) hlink hp2 hR, hts _ (w3 hst).1, hts _ (w3 hst).2⟩
            exact va_runV (As := As.map (q_rv G)) (rest := rest.map (q_rv G)) (b := qgB G + b) ⟨C.1, C.2.1, C.2.2.2.1, C.2.2.2.2.1, hts⟩ hM hcw ⟨hpre.1, by rw [← hp4]; exact hrecv, hpre.2⟩ rfl (by rw [List.length_map]; exact e2) hA.2.2.2.2.1 eS (by show 2 * 0 + ((rest.map (q_rv G)).map fun v => v.category).sum ≤ 8; rw [q_sum_eq]; omega) hdec hf
          · cases hcv
        · cases hcv
      case invokespecial i =>
        have hn : n = 3 := (hln.resolve_left (fun z => by simp [q_ln] at z)).symm
        subst hn
        unfold q_cv at hcv
        dsimp only at hcv
        split at hcv
        · next mj x hv =>
          split at hcv
          · next hmj =>
            cases hcv
            rcases hmj with rfl | ⟨hst, hm⟩
            · exact plain (qi_objInit hv C hdec rfl ha)
            unfold q_do at ha
            dsimp only at ha
            have hne : Nat.beq mj 901 = false := by
              cases hz : Nat.beq mj 901 with
              | false => rfl
              | true => have := Nat.eq_of_beq_eq_true hz; omega
            rw [hne] at ha
            dsimp only [cond_false] at ha
            have hlink := hts _ (q_wat_mem (List.all_eq_true.mp q_mk_all _ (q_fnd_mem hv)))
            have hyy : q_yy mj = q_y mj := by unfold q_yy; rw [if_neg (by omega), if_neg (by omega), if_neg (by omega)]
            simp only [hyy] at hlink
            obtain ⟨As, rest, b, sz, e1, e2, e3, e4, e5, e6⟩ := q_callV_spec ha
            subst e6
            obtain ⟨w1, w2, -, -, w3⟩ := q_mchk_spec hm
            obtain ⟨w4, w5, w6⟩ := w3 hst
            obtain ⟨hp1, hp2, hp3, hp4, hp5, hp6⟩ := q_mch2_spec (show mj < 171 by omega)
            have h9 : q_rc mj < 9 := (q_rcLt mj hm).resolve_left (by omega)
            rw [if_neg (by omega)] at hp6
            refine q_invoke ih hmc hms C h0 ha0 hm (by rw [List.length_cons, e2]; exact hp6) (q_one_ref e5) rfl ?_
            intro H locs cells slots ls mc1 ms1 rm v M1 hA hM hrc hrs hR hf hpre
            have hlt : b < 1000 := Nat.lt_of_lt_of_le (List.getElem?_eq_some_iff.mp e3).1 hA.2.2.1
            have eA : (Value.ref b :: As).map (q_rv G) = .ref (qgB G + b) :: As.map (q_rv G) := by
              rw [List.map_cons]
              show Value.ref (q_ad G b) :: _ = _
              rw [q_ad_lt hlt]
            have eS : st.map (q_rv G) = (As.map (q_rv G)).reverse ++ .ref (qgB G + b) :: rest.map (q_rv G) := by
              rw [e1, List.map_append, List.map_reverse, List.map_cons]
              show _ ++ Value.ref (q_ad G b) :: _ = _
              rw [q_ad_lt hlt]
            rw [eA] at hpre ⊢
            rw [w6] at hM
            have hgood := q_good hm
            rw [w6] at hgood
            exact va_runI (As := As.map (q_rv G)) (rest := rest.map (q_rv G)) (b := qgB G + b) ⟨C.1, C.2.1, C.2.2.2.1, C.2.2.2.2.1, hts⟩ hM (cwI (q_na mj) hts hgood rfl hrc hrs (hts _ w2) hlink (hts _ w4) w5 hp2 hR) hpre rfl (by rw [List.length_map]; exact e2) hA.2.2.2.2.1 eS (by show 2 * 0 + ((rest.map (q_rv G)).map fun v => v.category).sum ≤ 8; rw [q_sum_eq]; omega) hdec hf
          · cases hcv
        · split at hcv
          · next mj x hv =>
            split at hcv
            · next hmj =>
              obtain ⟨hst, hm⟩ := hmj
              cases hcv
              unfold q_do at ha
              dsimp only at ha
              have hne : Nat.beq mj 901 = false := by
                cases hz : Nat.beq mj 901 with
                | false => rfl
                | true => have := Nat.eq_of_beq_eq_true hz; omega
              rw [hne] at ha
              dsimp only [cond_false] at ha
              have hlink := hKK.2.2.2.1 _ (q_fnd_mem hv)
              obtain ⟨As, rest, b, sz, e1, e2, e3, e4, e5, e6⟩ := q_callV_spec ha
              subst e6
              obtain ⟨w1, w2, -, -, w3⟩ := q_mchk_spec hm
              obtain ⟨w4, w5, w6⟩ := w3 hst
              obtain ⟨hp1, hp2, hp3, hp4, hp5, hp6⟩ := q_mch2_spec (show mj < 171 by omega)
              have h9 : q_rc mj < 9 := (q_rcLt mj hm).resolve_left (by omega)
              rw [if_neg (by omega)] at hp6
              refine q_invoke ih hmc hms C h0 ha0 hm (by rw [List.length_cons, e2]; exact hp6) (q_one_ref e5) rfl ?_
              intro H locs cells slots ls mc1 ms1 rm v M1 hA hM hrc hrs hR hf hpre
              have hlt : b < 1000 := Nat.lt_of_lt_of_le (List.getElem?_eq_some_iff.mp e3).1 hA.2.2.1
              have eA : (Value.ref b :: As).map (q_rv G) = .ref (qgB G + b) :: As.map (q_rv G) := by
                rw [List.map_cons]
                show Value.ref (q_ad G b) :: _ = _
                rw [q_ad_lt hlt]
              have eS : st.map (q_rv G) = (As.map (q_rv G)).reverse ++ .ref (qgB G + b) :: rest.map (q_rv G) := by
                rw [e1, List.map_append, List.map_reverse, List.map_cons]
                show _ ++ Value.ref (q_ad G b) :: _ = _
                rw [q_ad_lt hlt]
              rw [eA] at hpre ⊢
              rw [w6] at hM
              have hgood := q_good hm
              rw [w6] at hgood
              exact va_runIN (As := As.map (q_rv G)) (rest := rest.map (q_rv G)) (b := qgB G + b) ⟨C.1, C.2.1, C.2.2.2.1, C.2.2.2.2.1, hts⟩ hM ⟨va_cnB (q_na mj) hts hgood rfl hrc hrs hlink (hts _ w2) hp2 hR, w5, hts _ w4⟩ hpre rfl (by rw [List.length_map]; exact e2) hA.2.2.2.2.1 eS (by show 2 * 0 + ((rest.map (q_rv G)).map fun v => v.category).sum ≤ 8; rw [q_sum_eq]; omega) hdec hf
            · cases hcv
          · cases hcv
      case invokestatic i =>
        have hn : n = 3 := (hln.resolve_left (fun z => by simp [q_ln] at z)).symm
        subst hn
        unfold q_cv at hcv
        dsimp only at hcv
        split at hcv
        · next mj x hv =>
          split at hcv
          · next hmj =>
            cases hcv
            rcases hmj with rfl | rfl | ⟨hst, hm⟩
            · unfold q_do at ha
              dsimp only at ha
              rw [show Nat.beq 900 900 = true from rfl] at ha
              exact plain (qi_copy hv C hdec rfl ha)
            · exact plain (qi_min hv hmc hms C hdec rfl ha)
            unfold q_do at ha
            dsimp only at ha
            have hne : Nat.beq mj 900 = false := by
              cases hz : Nat.beq mj 900 with
              | false => rfl
              | true => have := Nat.eq_of_beq_eq_true hz; omega
            have hne2 : Nat.beq mj 902 = false := by
              cases hz : Nat.beq mj 902 with
              | false => rfl
              | true => have := Nat.eq_of_beq_eq_true hz; omega
            rw [hne, hne2] at ha
            dsimp only [cond_false] at ha
            have hlink := hts _ (q_wat_mem (List.all_eq_true.mp q_mk_all _ (q_fnd_mem hv)))
            have hyy : q_yy mj = q_y mj := by unfold q_yy; rw [if_neg (by omega), if_neg (by omega), if_neg (by omega)]
            simp only [hyy] at hlink
            obtain ⟨As, rest, e1, e2, e4, e5, e6⟩ := q_callS_spec ha
            subst e6
            obtain ⟨w1, w2, -, w3, -⟩ := q_mchk_spec hm
            obtain ⟨hp1, hp2, hp3, hp4, hp5, hp6⟩ := q_mch2_spec (show mj < 171 by omega)
            rw [if_pos hst] at hp6
            refine q_invoke ih hmc hms C h0 ha0 hm (by omega) e5 rfl ?_
            intro H locs cells slots ls mc1 ms1 rm v M1 hA hM hrc hrs hR hf hpre
            have eS : st.map (q_rv G) = (As.map (q_rv G)).reverse ++ rest.map (q_rv G) := by
              rw [e1, List.map_append, List.map_reverse]
            exact va_runS (As := As.map (q_rv G)) (rest := rest.map (q_rv G)) ⟨C.1, C.2.1, C.2.2.2.1, C.2.2.2.2.1, hts⟩ hM ⟨callB_of (q_na mj) hts (q_good hm) rfl hrc hrs (hts _ w2) hlink hp2 hR, hts _ (w3 hst)⟩ hpre rfl (by rw [List.length_map]; exact e2) hA.2.2.2.2.1 eS (by show 2 * 0 + ((rest.map (q_rv G)).map fun v => v.category).sum ≤ 8; rw [q_sum_eq]; omega) hdec hf
          · cases hcv
        · cases hcv
      all_goals (exact absurd hcv (by simp [q_cv]))
    · cases ha
theorem q_sound (G : qG) (l : Launch) : ∀ n, q_PW G l n := by
  intro n
  induction n with
  | zero =>
    intro d mi S r M' h
    simp [q_ex] at h
  | succ n ih => exact q_step ih
end
section
/-! shallow functions of the methods, and that the small machine follows them: printed by wip/whole/gen11.py -/
def qSH : List (Nat × Nat) := [(7, 10), (4, 8), (101, 200), (2, 11), (100, 64), (100, 64), (100, 8), (100, 5), (100, 8), (2, 11), (100, 64), (100, 64), (100, 8), (100, 5), (100, 8), (3, 8), (100, 12), (100, 12), (100, 12), (100, 12), (100, 8), (100, 8), (3, 8), (100, 12), (100, 12), (100, 12), (100, 12), (100, 8), (100, 8), (3, 8), (100, 12), (100, 12), (100, 12), (100, 12), (100, 8), (100, 8), (1, 3), (100, 12), (100, 12), (5, 6), (100, 8), (100, 8), (100, 8), (100, 8), (100, 8), (6, 3), (5, 6), (100, 8), (100, 8), (100, 8), (100, 8), (100, 8), (0, 5), (100, 5), (102, 256), (100, 256), (8, 21), (100, 200), (100, 93), (100, 93), (100, 65), (100, 780), (100, 130), (102, 2), (100, 64), (100, 8), (100, 8), (100, 8), (100, 8), (100, 8)]
def qRL : List (List (Option Nat)) := [[some 1, some 9, some 15, some 22, some 29, some 36, some 39, some 45, some 52], [some 2, none, some 3], [], [none, none, none, none, none, none, some 4, some 5, some 6, some 7, some 8], [], [], [], [], [], [none, none, none, none, none, none, some 10, some 11, some 12, some 13, some 14], [], [], [], [], [], [none, none, some 16, some 17, some 18, some 19, some 20, some 21], [], [], [], [], [], [], [none, none, some 23, some 24, some 25, some 26, some 27, some 28], [], [], [], [], [], [], [none, none, some 30, some 31, some 32, some 33, some 34, some 35], [], [], [], [], [], [], [none, some 37, some 38], [], [], [none, some 40, some 41, some 42, some 43, some 44], [], [], [], [], [], [none, none, some 46], [none, some 47, some 48, some 49, some 50, some 51], [], [], [], [], [], [none, none, some 53, some 54, some 55], [], [], [], [none, some 57, none, some 58, some 59, some 60, some 61, none, some 62, some 63, some 64, none, none, none, none, some 65, some 66, none, some 67, some 68, some 69], [], [], [], [], [], [], [], [], [], [], [], [], []]
def qRH (k j : Nat) : Option Nat := match q_nth qRL k with
  | some l => (match q_nth l j with
    | some r => r
    | none => none)
  | none => none
abbrev qMM (m n : Nat → Nat → Int32) (lm : Nat → Int64) : qM := (qSH, m, n, lm, qRH)
def q_w (m : Nat → Nat → Int32) (k j : Nat) (x : Int32) : Nat → Nat → Int32 := va_up m k (upd (m k) j x)
def q_cw (m : Nat → Nat → Int32) (k0 k1 sp dp c : Nat) : Nat → Nat → Int32 := va_up m k1 (va_cpy (m k0) (m k1) sp dp c)
def q_trL : List Int32 := [1, 10, 100, 1000, 10000, 100000]
def q_abL : List Int32 := [-1, 0, 0, 1, 2, 0]
def q_tr (j : Nat) : Int32 := q_trL.getD j 0
def q_ab (j : Nat) : Int32 := q_abL.getD j 0
def qXT (Ln : Nat) (xs : Nat → Int32) (k : Nat) : Nat × (Nat → Int32) := cond (Nat.beq k 1000) (Ln, xs) (cond (Nat.beq k 1001) (6, q_tr) (6, q_ab))
def qFU : Nat := 10000000
theorem q_ev_eq {xt : Nat → Nat × (Nat → Int32)} {d mi : Nat} {S S' : qS} {r : Option Value × qM} (h : S = S') (hE : q_Ev xt d mi S' r) : q_Ev xt d mi S r := h ▸ hE
theorem q_ev_brT {xt : Nat → Nat × (Nat → Int32)} {d mi : Nat} {S : qS} {c : Prop} [Decidable c] (hc : c) {a b : Nat} {L : List (Option Value)} {st : List Value} {M : qM} {r : Option Value × qM} (h : q_act xt mi S = some (.inl (if c then a else b, L, st, M))) (hE : q_Ev xt d mi (a, L, st, M) r) : q_Ev xt d mi S r := by
  rw [if_pos hc] at h
  exact q_ev_step h hE
theorem q_ev_brF {xt : Nat → Nat × (Nat → Int32)} {d mi : Nat} {S : qS} {c : Prop} [Decidable c] (hc : ¬ c) {a b : Nat} {L : List (Option Value)} {st : List Value} {M : qM} {r : Option Value × qM} (h : q_act xt mi S = some (.inl (if c then a else b, L, st, M))) (hE : q_Ev xt d mi (b, L, st, M) r) : q_Ev xt d mi S r := by
  rw [if_neg hc] at h
  exact q_ev_step h hE
theorem q_ev_chk {xt : Nat → Nat × (Nat → Int32)} {d mi : Nat} {S S' : qS} {b : Bool} (hb : b = true) {r : Option Value × qM} (h : q_act xt mi S = cond b (some (.inl S')) none) (hE : q_Ev xt d mi S' r) : q_Ev xt d mi S r := by
  rw [hb] at h
  exact q_ev_step h hE
theorem q_ev_chk2 {xt : Nat → Nat × (Nat → Int32)} {d mi : Nat} {S S' : qS} {b b2 : Bool} (hb : b = true) (hb2 : b2 = true) {r : Option Value × qM} (h : q_act xt mi S = cond b (cond b2 (some (.inl S')) none) none) (hE : q_Ev xt d mi S' r) : q_Ev xt d mi S r := by
  rw [hb, hb2] at h
  exact q_ev_step h hE
theorem q_ev_nz {xt : Nat → Nat × (Nat → Int32)} {d mi : Nat} {S S' : qS} {c : Prop} [Decidable c] (hc : ¬ c) {r : Option Value × qM} (h : q_act xt mi S = if c then none else some (.inl S')) (hE : q_Ev xt d mi S' r) : q_Ev xt d mi S r := by
  rw [if_neg hc] at h
  exact q_ev_step h hE
theorem q_ev_retb {xt : Nat → Nat × (Nat → Int32)} {d mi : Nat} {S : qS} {b : Bool} (hb : b = true) {v : Option Value} {M : qM} (h : q_act xt mi S = cond b (some (.inr (.inl v))) none) (hM : S.2.2.2 = M) : q_Ev xt d mi S (v, M) := by
  rw [hb] at h
  exact q_ev_ret h hM
theorem q_ev_sw {xt : Nat → Nat × (Nat → Int32)} {d mi : Nat} {S : qS} {x : Int32} {dd lo v : Int} {ts : List Int} {a : Nat} {L : List (Option Value)} {st : List Value} {M : qM} {r : Option Value × qM} (hs : q_sw x dd lo ts = v) (hv : v.toNat = a) (h : q_act xt mi S = some (.inl ((q_sw x dd lo ts).toNat, L, st, M))) (hE : q_Ev xt d mi (a, L, st, M) r) : q_Ev xt d mi S r := by
  rw [hs, hv] at h
  exact q_ev_step h hE
def q_swl (dd : Int) : Int → List Int → List Int32
  | _, [] => []
  | k, t :: ts => if t = dd then q_swl dd (k + 1) ts else Int32.ofInt k :: q_swl dd (k + 1) ts
theorem q_sw_nd {x : Int32} {dd : Int} : ∀ {ts : List Int} {lo : Int}, x ∉ q_swl dd lo ts → q_sw x dd lo ts = dd
  | [], lo, _ => rfl
  | t :: ts, lo, h => by
    unfold q_sw
    unfold q_swl at h
    by_cases ht : t = dd
    · rw [if_pos ht] at h
      rw [q_sw_nd h, ht, ite_self]
    · rw [if_neg ht] at h
      have h1 : ¬ x = Int32.ofInt lo := fun z => h (by rw [z]; exact List.mem_cons_self)
      rw [if_neg h1]
      exact q_sw_nd (fun z => h (List.mem_cons_of_mem _ z))
end
section
noncomputable def F_AT_type (m : (Nat → Nat → Int32)) (a1 : Int32) : Option (Int32 × (Nat → Nat → Int32)) :=
  if a1 < 0 then
    some ((-1), m)
  else
    if a1 ≤ 255 then
      if m 1 1 < 200 then
        cond (q_chr a1) (
          cond (q_chr a1) (cond (q_in (m 1 1) 200) (
            some ((m 1 1 + 1), (q_w (q_w m 2 (m 1 1).toNatClampNeg a1) 1 1 (m 1 1 + 1)))
           ) none) none
         ) none
      else
        some ((-3), m)
    else
      some ((-1), m)
theorem T_AT_type {Ln : Nat} {xs : Nat → Int32} {n : (Nat → Nat → Int32)} {lm : Nat → Int64} {d : Nat} (hd : 0 ≤ d) {m : (Nat → Nat → Int32)} {a1 : Int32} {rv : Int32} {m1 : (Nat → Nat → Int32)} (h : F_AT_type m a1 = some (rv, m1)) : q_Ev (qXT Ln xs) d 67 (0, [some (.ref 0), some (.int a1)], [], qMM m n lm) (some (.int rv), qMM m1 n lm) := by
  unfold F_AT_type at h
  refine q_ev_run 1 (S' := (1, [some (.ref 0), some (.int a1)], [.int a1], qMM m n lm)) rfl ?_
  by_cases hc1 : a1 < 0
  · rw [if_pos hc1] at h
    refine q_ev_brT hc1 (a := 11) (b := 4) rfl ?_
    refine q_ev_run 1 (S' := (12, [some (.ref 0), some (.int a1)], [.int (-1)], qMM m n lm)) rfl ?_
    cases h
    exact q_ev_ret rfl rfl
  · rw [if_neg hc1] at h
    refine q_ev_brF hc1 (a := 11) (b := 4) rfl ?_
    refine q_ev_run 2 (S' := (8, [some (.ref 0), some (.int a1)], [.int 255, .int a1], qMM m n lm)) rfl ?_
    by_cases hc2 : a1 ≤ 255
    · rw [if_pos hc2] at h
      refine q_ev_brT hc2 (a := 13) (b := 11) rfl ?_
      refine q_ev_run 4 (S' := (23, [some (.ref 0), some (.int a1)], [.int 200, .int (m 1 1)], qMM m n lm)) rfl ?_
      by_cases hc3 : m 1 1 < 200
      · rw [if_pos hc3] at h
        refine q_ev_brT hc3 (a := 29) (b := 26) rfl ?_
        refine q_ev_run 7 (S' := (44, [some (.ref 0), some (.int a1)], [.int a1, .int (m 1 1), .ref 2], qMM m n lm)) rfl ?_
        obtain ⟨hb4, h⟩ := q_cd h
        refine q_ev_chk (b := q_chr a1) hb4 (S' := (45, [some (.ref 0), some (.int a1)], [.int a1, .int (m 1 1), .ref 2], qMM m n lm)) rfl ?_
        obtain ⟨hb5, h⟩ := q_cd h
        obtain ⟨hb6, h⟩ := q_cd h
        refine q_ev_chk2 (b := q_chr a1) (b2 := q_in (m 1 1) 200) hb5 hb6 (S' := (46, [some (.ref 0), some (.int a1)], [], qMM (q_w m 2 (m 1 1).toNatClampNeg a1) n lm)) rfl ?_
        refine q_ev_run 10 (S' := (66, [some (.ref 0), some (.int a1)], [.int (m 1 1 + 1)], qMM (q_w (q_w m 2 (m 1 1).toNatClampNeg a1) 1 1 (m 1 1 + 1)) n lm)) rfl ?_
        cases h
        exact q_ev_ret rfl rfl
      · rw [if_neg hc3] at h
        refine q_ev_brF hc3 (a := 29) (b := 26) rfl ?_
        refine q_ev_run 1 (S' := (28, [some (.ref 0), some (.int a1)], [.int (-3)], qMM m n lm)) rfl ?_
        cases h
        exact q_ev_ret rfl rfl
    · rw [if_neg hc2] at h
      refine q_ev_brF hc2 (a := 13) (b := 11) rfl ?_
      refine q_ev_run 1 (S' := (12, [some (.ref 0), some (.int a1)], [.int (-1)], qMM m n lm)) rfl ?_
      cases h
      exact q_ev_ret rfl rfl
noncomputable def F_Mo_in (a0 : Int32) (a1 : Int32) (a2 : Int32) : Option (Int32) :=
  if a0 < a1 then
    some (0)
  else
    if a2 < a0 then
      some (0)
    else
      some (1)
theorem T_Mo_in {Ln : Nat} {xs : Nat → Int32} {n : (Nat → Nat → Int32)} {m : (Nat → Nat → Int32)} {lm : Nat → Int64} {d : Nat} (hd : 0 ≤ d) {a0 : Int32} {a1 : Int32} {a2 : Int32} {rv : Int32} (h : F_Mo_in a0 a1 a2 = some rv) : q_Ev (qXT Ln xs) d 104 (0, [some (.int a0), some (.int a1), some (.int a2)], [], qMM m n lm) (some (.int rv), qMM m n lm) := by
  unfold F_Mo_in at h
  refine q_ev_run 2 (S' := (2, [some (.int a0), some (.int a1), some (.int a2)], [.int a1, .int a0], qMM m n lm)) rfl ?_
  by_cases hc1 : a0 < a1
  · rw [if_pos hc1] at h
    refine q_ev_brT hc1 (a := 14) (b := 5) rfl ?_
    refine q_ev_run 1 (S' := (15, [some (.int a0), some (.int a1), some (.int a2)], [.int 0], qMM m n lm)) rfl ?_
    cases h
    exact q_ev_ret rfl rfl
  · rw [if_neg hc1] at h
    refine q_ev_brF hc1 (a := 14) (b := 5) rfl ?_
    refine q_ev_run 2 (S' := (7, [some (.int a0), some (.int a1), some (.int a2)], [.int a2, .int a0], qMM m n lm)) rfl ?_
    by_cases hc2 : a2 < a0
    · rw [if_pos hc2] at h
      refine q_ev_brT hc2 (a := 14) (b := 10) rfl ?_
      refine q_ev_run 1 (S' := (15, [some (.int a0), some (.int a1), some (.int a2)], [.int 0], qMM m n lm)) rfl ?_
      cases h
      exact q_ev_ret rfl rfl
    · rw [if_neg hc2] at h
      refine q_ev_brF hc2 (a := 14) (b := 10) rfl ?_
      refine q_ev_run 2 (S' := (15, [some (.int a0), some (.int a1), some (.int a2)], [.int 1], qMM m n lm)) rfl ?_
      cases h
      exact q_ev_ret rfl rfl
noncomputable def F_Mo_type (m : (Nat → Nat → Int32)) (a1 : Int32) : Option (Int32 × (Nat → Nat → Int32)) :=
  Option.bind (F_Mo_in a1 0 255) (fun r1 =>
    if r1 = 0 then
      some ((-1), m)
    else
      if m 56 2 = 200 then
        some ((-3), m)
      else
        cond (q_in (m 56 2) 200) (some ((m 56 2 + 1), (q_w (q_w m 57 (m 56 2).toNatClampNeg a1) 56 2 (m 56 2 + 1)))) none)
theorem T_Mo_type {Ln : Nat} {xs : Nat → Int32} {n : (Nat → Nat → Int32)} {lm : Nat → Int64} {d : Nat} (hd : 1 ≤ d) {m : (Nat → Nat → Int32)} {a1 : Int32} {rv : Int32} {m1 : (Nat → Nat → Int32)} (h : F_Mo_type m a1 = some (rv, m1)) : q_Ev (qXT Ln xs) d 108 (0, [some (.ref 56), some (.int a1)], [], qMM n m lm) (some (.int rv), qMM n m1 lm) := by
  unfold F_Mo_type at h
  refine q_ev_run 3 (S' := (5, [some (.ref 56), some (.int a1)], [.int 255, .int 0, .int a1], qMM n m lm)) rfl ?_
  obtain ⟨r1, hf2, h⟩ := Option.bind_eq_some_iff.mp h
  try dsimp only at h
  refine q_ev_call (S' := (8, [some (.ref 56), some (.int a1)], [], qMM n m lm)) rfl (by omega) (T_Mo_in (by first | omega | decide) hf2) ?_
  refine q_ev_eq (S' := (8, [some (.ref 56), some (.int a1)], [.int r1], qMM n m lm)) rfl ?_
  by_cases hc3 : r1 = 0
  · rw [if_pos hc3] at h
    refine q_ev_brT hc3 (a := 11) (b := 13) rfl ?_
    refine q_ev_run 1 (S' := (12, [some (.ref 56), some (.int a1)], [.int (-1)], qMM n m lm)) rfl ?_
    cases h
    exact q_ev_ret rfl rfl
  · rw [if_neg hc3] at h
    refine q_ev_brF hc3 (a := 11) (b := 13) rfl ?_
    refine q_ev_run 3 (S' := (20, [some (.ref 56), some (.int a1)], [.int 200, .int (m 56 2)], qMM n m lm)) rfl ?_
    by_cases hc4 : m 56 2 = 200
    · rw [if_pos hc4] at h
      refine q_ev_brT hc4 (a := 23) (b := 26) rfl ?_
      refine q_ev_run 1 (S' := (25, [some (.ref 56), some (.int a1)], [.int (-3)], qMM n m lm)) rfl ?_
      cases h
      exact q_ev_ret rfl rfl
    · rw [if_neg hc4] at h
      refine q_ev_brF hc4 (a := 23) (b := 26) rfl ?_
      refine q_ev_run 5 (S' := (35, [some (.ref 56), some (.int a1)], [.int a1, .int (m 56 2), .ref 57], qMM n m lm)) rfl ?_
      obtain ⟨hb5, h⟩ := q_cd h
      refine q_ev_chk (b := q_in (m 56 2) 200) hb5 (S' := (36, [some (.ref 56), some (.int a1)], [], qMM n (q_w m 57 (m 56 2).toNatClampNeg a1) lm)) rfl ?_
      refine q_ev_run 8 (S' := (50, [some (.ref 56), some (.int a1)], [.int (m 56 2 + 1)], qMM n (q_w (q_w m 57 (m 56 2).toNatClampNeg a1) 56 2 (m 56 2 + 1)) lm)) rfl ?_
      cases h
      exact q_ev_ret rfl rfl
noncomputable def F_AT_clear (m : (Nat → Nat → Int32)) : Option (Int32 × (Nat → Nat → Int32)) :=
  some (m 1 1, (q_w m 1 1 0))
theorem T_AT_clear {Ln : Nat} {xs : Nat → Int32} {n : (Nat → Nat → Int32)} {lm : Nat → Int64} {d : Nat} (hd : 0 ≤ d) {m : (Nat → Nat → Int32)} {rv : Int32} {m1 : (Nat → Nat → Int32)} (h : F_AT_clear m = some (rv, m1)) : q_Ev (qXT Ln xs) d 68 (0, [some (.ref 0), none], [], qMM m n lm) (some (.int rv), qMM m1 n lm) := by
  unfold F_AT_clear at h
  refine q_ev_run 9 (S' := (17, [some (.ref 0), some (.int (m 1 1))], [.int (m 1 1)], qMM (q_w m 1 1 0) n lm)) rfl ?_
  cases h
  exact q_ev_ret rfl rfl
noncomputable def F_Mo_clear (m : (Nat → Nat → Int32)) : Option (Int32 × (Nat → Nat → Int32)) :=
  some (m 56 2, (q_w m 56 2 0))
theorem T_Mo_clear {Ln : Nat} {xs : Nat → Int32} {n : (Nat → Nat → Int32)} {lm : Nat → Int64} {d : Nat} (hd : 0 ≤ d) {m : (Nat → Nat → Int32)} {rv : Int32} {m1 : (Nat → Nat → Int32)} (h : F_Mo_clear m = some (rv, m1)) : q_Ev (qXT Ln xs) d 109 (0, [some (.ref 56), none], [], qMM n m lm) (some (.int rv), qMM n m1 lm) := by
  unfold F_Mo_clear at h
  refine q_ev_run 7 (S' := (11, [some (.ref 56), some (.int (m 56 2))], [.int (m 56 2)], qMM n (q_w m 56 2 0) lm)) rfl ?_
  cases h
  exact q_ev_ret rfl rfl
noncomputable def FL_Ar_fill_4_5 : Nat → (Nat → Nat → Int32) → Int32 → Int32 → Int32 → Option ((Nat → Nat → Int32))
  | 0, _, _, _, _ => none
  | fu + 1, m, x1, x2, x3 =>
    if x3 ≤ x2 then
      some (m)
    else
      cond (q_in x2 64) (FL_Ar_fill_4_5 fu (q_w m 4 x2.toNatClampNeg x1) x1 (x2 + 1) x3) none
theorem TL_Ar_fill_4_5 {Ln : Nat} {xs : Nat → Int32} {n : (Nat → Nat → Int32)} {lm : Nat → Int64} {d : Nat} (hd : 0 ≤ d) {r : Option Value × qM} : ∀ (fu : Nat) (m : (Nat → Nat → Int32)) (x1 : Int32) (x2 : Int32) (x3 : Int32)  (m1 : (Nat → Nat → Int32)), FL_Ar_fill_4_5 fu m x1 x2 x3 = some m1 → (∀ (u2 : Option Value), q_Ev (qXT Ln xs) d 169 (20, [some (.ref 4), some (.int x1), u2, some (.int x3)], [], qMM m1 n lm) r) → q_Ev (qXT Ln xs) d 169 (5, [some (.ref 4), some (.int x1), some (.int x2), some (.int x3)], [], qMM m n lm) r := by
  intro fu
  induction fu with
  | zero => intro m x1 x2 x3 m1 h hk; cases h
  | succ fu ih =>
    intro m x1 x2 x3 m1 h hk
    rw [FL_Ar_fill_4_5] at h
    refine q_ev_run 2 (S' := (7, [some (.ref 4), some (.int x1), some (.int x2), some (.int x3)], [.int x3, .int x2], qMM m n lm)) rfl ?_
    by_cases hc1 : x3 ≤ x2
    · rw [if_pos hc1] at h
      refine q_ev_brT hc1 (a := 20) (b := 10) rfl ?_
      cases h
      exact hk (some (.int x2))
    · rw [if_neg hc1] at h
      refine q_ev_brF hc1 (a := 20) (b := 10) rfl ?_
      refine q_ev_run 3 (S' := (13, [some (.ref 4), some (.int x1), some (.int x2), some (.int x3)], [.int x1, .int x2, .ref 4], qMM m n lm)) rfl ?_
      obtain ⟨hb2, h⟩ := q_cd h
      refine q_ev_chk (b := q_in x2 64) hb2 (S' := (14, [some (.ref 4), some (.int x1), some (.int x2), some (.int x3)], [], qMM (q_w m 4 x2.toNatClampNeg x1) n lm)) rfl ?_
      refine q_ev_run 2 (S' := (5, [some (.ref 4), some (.int x1), some (.int (x2 + 1)), some (.int x3)], [], qMM (q_w m 4 x2.toNatClampNeg x1) n lm)) rfl ?_
      exact ih (q_w m 4 x2.toNatClampNeg x1) x1 (x2 + 1) x3 _ h hk
noncomputable def F_Ar_fill_4 (m : (Nat → Nat → Int32)) (a1 : Int32) : Option ((Nat → Nat → Int32)) :=
  Option.bind (FL_Ar_fill_4_5 qFU m a1 0 64) (fun m2 =>
    some (m2))
theorem T_Ar_fill_4 {Ln : Nat} {xs : Nat → Int32} {n : (Nat → Nat → Int32)} {lm : Nat → Int64} {d : Nat} (hd : 0 ≤ d) {m : (Nat → Nat → Int32)} {a1 : Int32} {m1 : (Nat → Nat → Int32)} (h : F_Ar_fill_4 m a1 = some m1) : q_Ev (qXT Ln xs) d 169 (0, [some (.ref 4), some (.int a1), none, none], [], qMM m n lm) (none, qMM m1 n lm) := by
  unfold F_Ar_fill_4 at h
  refine q_ev_run 5 (S' := (5, [some (.ref 4), some (.int a1), some (.int 0), some (.int 64)], [], qMM m n lm)) rfl ?_
  obtain ⟨m2, hl3, h⟩ := Option.bind_eq_some_iff.mp h
  try dsimp only at h
  refine TL_Ar_fill_4_5 (by first | omega | decide) _ m a1 0 64 _ hl3 (fun w1 => ?_)
  cases h
  exact q_ev_ret rfl rfl
noncomputable def FL_Ar_fill_6_5 : Nat → (Nat → Nat → Int32) → Int32 → Int32 → Int32 → Option ((Nat → Nat → Int32))
  | 0, _, _, _, _ => none
  | fu + 1, m, x1, x2, x3 =>
    if x3 ≤ x2 then
      some (m)
    else
      cond (q_in x2 8) (FL_Ar_fill_6_5 fu (q_w m 6 x2.toNatClampNeg x1) x1 (x2 + 1) x3) none
theorem TL_Ar_fill_6_5 {Ln : Nat} {xs : Nat → Int32} {n : (Nat → Nat → Int32)} {lm : Nat → Int64} {d : Nat} (hd : 0 ≤ d) {r : Option Value × qM} : ∀ (fu : Nat) (m : (Nat → Nat → Int32)) (x1 : Int32) (x2 : Int32) (x3 : Int32)  (m1 : (Nat → Nat → Int32)), FL_Ar_fill_6_5 fu m x1 x2 x3 = some m1 → (∀ (u2 : Option Value), q_Ev (qXT Ln xs) d 169 (20, [some (.ref 6), some (.int x1), u2, some (.int x3)], [], qMM m1 n lm) r) → q_Ev (qXT Ln xs) d 169 (5, [some (.ref 6), some (.int x1), some (.int x2), some (.int x3)], [], qMM m n lm) r := by
  intro fu
  induction fu with
  | zero => intro m x1 x2 x3 m1 h hk; cases h
  | succ fu ih =>
    intro m x1 x2 x3 m1 h hk
    rw [FL_Ar_fill_6_5] at h
    refine q_ev_run 2 (S' := (7, [some (.ref 6), some (.int x1), some (.int x2), some (.int x3)], [.int x3, .int x2], qMM m n lm)) rfl ?_
    by_cases hc1 : x3 ≤ x2
    · rw [if_pos hc1] at h
      refine q_ev_brT hc1 (a := 20) (b := 10) rfl ?_
      cases h
      exact hk (some (.int x2))
    · rw [if_neg hc1] at h
      refine q_ev_brF hc1 (a := 20) (b := 10) rfl ?_
      refine q_ev_run 3 (S' := (13, [some (.ref 6), some (.int x1), some (.int x2), some (.int x3)], [.int x1, .int x2, .ref 6], qMM m n lm)) rfl ?_
      obtain ⟨hb2, h⟩ := q_cd h
      refine q_ev_chk (b := q_in x2 8) hb2 (S' := (14, [some (.ref 6), some (.int x1), some (.int x2), some (.int x3)], [], qMM (q_w m 6 x2.toNatClampNeg x1) n lm)) rfl ?_
      refine q_ev_run 2 (S' := (5, [some (.ref 6), some (.int x1), some (.int (x2 + 1)), some (.int x3)], [], qMM (q_w m 6 x2.toNatClampNeg x1) n lm)) rfl ?_
      exact ih (q_w m 6 x2.toNatClampNeg x1) x1 (x2 + 1) x3 _ h hk
noncomputable def F_Ar_fill_6 (m : (Nat → Nat → Int32)) (a1 : Int32) : Option ((Nat → Nat → Int32)) :=
  Option.bind (FL_Ar_fill_6_5 qFU m a1 0 8) (fun m2 =>
    some (m2))
theorem T_Ar_fill_6 {Ln : Nat} {xs : Nat → Int32} {n : (Nat → Nat → Int32)} {lm : Nat → Int64} {d : Nat} (hd : 0 ≤ d) {m : (Nat → Nat → Int32)} {a1 : Int32} {m1 : (Nat → Nat → Int32)} (h : F_Ar_fill_6 m a1 = some m1) : q_Ev (qXT Ln xs) d 169 (0, [some (.ref 6), some (.int a1), none, none], [], qMM m n lm) (none, qMM m1 n lm) := by
  unfold F_Ar_fill_6 at h
  refine q_ev_run 5 (S' := (5, [some (.ref 6), some (.int a1), some (.int 0), some (.int 8)], [], qMM m n lm)) rfl ?_
  obtain ⟨m2, hl3, h⟩ := Option.bind_eq_some_iff.mp h
  try dsimp only at h
  refine TL_Ar_fill_6_5 (by first | omega | decide) _ m a1 0 8 _ hl3 (fun w1 => ?_)
  cases h
  exact q_ev_ret rfl rfl
noncomputable def F_La_wipe_3 (m : (Nat → Nat → Int32)) : Option ((Nat → Nat → Int32)) :=
  Option.bind (F_Ar_fill_4 (q_w (q_w (q_w (q_w (q_w (q_w m 3 0 4) 3 1 0) 3 2 0) 3 3 3) 3 4 0) 3 5 0) 0) (fun m1 =>
    Option.bind (F_Ar_fill_6 m1 0) (fun m3 =>
      some (m3)))
theorem T_La_wipe_3 {Ln : Nat} {xs : Nat → Int32} {n : (Nat → Nat → Int32)} {lm : Nat → Int64} {d : Nat} (hd : 1 ≤ d) {m : (Nat → Nat → Int32)} {m1 : (Nat → Nat → Int32)} (h : F_La_wipe_3 m = some m1) : q_Ev (qXT Ln xs) d 13 (0, [some (.ref 3)], [], qMM m n lm) (none, qMM m1 n lm) := by
  unfold F_La_wipe_3 at h
  refine q_ev_run 21 (S' := (35, [some (.ref 3)], [.int 0, .ref 4], qMM (q_w (q_w (q_w (q_w (q_w (q_w m 3 0 4) 3 1 0) 3 2 0) 3 3 3) 3 4 0) 3 5 0) n lm)) rfl ?_
  obtain ⟨m1, hf2, h⟩ := Option.bind_eq_some_iff.mp h
  try dsimp only at h
  refine q_ev_call (S' := (38, [some (.ref 3)], [], qMM (q_w (q_w (q_w (q_w (q_w (q_w m 3 0 4) 3 1 0) 3 2 0) 3 3 3) 3 4 0) 3 5 0) n lm)) rfl (by omega) (T_Ar_fill_4 (by first | omega | decide) hf2) ?_
  refine q_ev_eq (S' := (38, [some (.ref 3)], [], qMM m1 n lm)) rfl ?_
  refine q_ev_run 3 (S' := (43, [some (.ref 3)], [.int 0, .ref 6], qMM m1 n lm)) rfl ?_
  obtain ⟨m3, hf4, h⟩ := Option.bind_eq_some_iff.mp h
  try dsimp only at h
  refine q_ev_call (S' := (46, [some (.ref 3)], [], qMM m1 n lm)) rfl (by omega) (T_Ar_fill_6 (by first | omega | decide) hf4) ?_
  refine q_ev_eq (S' := (46, [some (.ref 3)], [], qMM m3 n lm)) rfl ?_
  cases h
  exact q_ev_ret rfl rfl
noncomputable def FL_Re_goOn_1_8 : Nat → (Nat → Nat → Int32) → Option ((Nat → Nat → Int32))
  | 0, _ => none
  | fu + 1, m =>
    if m 1 1 ≤ m 1 5 then
      some (m)
    else
      cond (q_in (m 1 5) 200) (
        if m 2 (m 1 5).toNatClampNeg = 32 then
          FL_Re_goOn_1_8 fu (q_w m 1 5 (m 1 5 + 1))
        else
          some (m)
       ) none
theorem TL_Re_goOn_1_8 {Ln : Nat} {xs : Nat → Int32} {n : (Nat → Nat → Int32)} {lm : Nat → Int64} {d : Nat} (hd : 0 ≤ d) {r : Option Value × qM} : ∀ (fu : Nat) (m : (Nat → Nat → Int32))  (m1 : (Nat → Nat → Int32)), FL_Re_goOn_1_8 fu m = some m1 → (q_Ev (qXT Ln xs) d 49 (46, [some (.ref 1)], [], qMM m1 n lm) r) → q_Ev (qXT Ln xs) d 49 (8, [some (.ref 1)], [], qMM m n lm) r := by
  intro fu
  induction fu with
  | zero => intro m m1 h hk; cases h
  | succ fu ih =>
    intro m m1 h hk
    rw [FL_Re_goOn_1_8] at h
    refine q_ev_run 4 (S' := (16, [some (.ref 1)], [.int (m 1 1), .int (m 1 5)], qMM m n lm)) rfl ?_
    by_cases hc1 : m 1 1 ≤ m 1 5
    · rw [if_pos hc1] at h
      refine q_ev_brT hc1 (a := 46) (b := 19) rfl ?_
      cases h
      exact hk 
    · rw [if_neg hc1] at h
      refine q_ev_brF hc1 (a := 46) (b := 19) rfl ?_
      refine q_ev_run 4 (S' := (27, [some (.ref 1)], [.int (m 1 5), .ref 2], qMM m n lm)) rfl ?_
      obtain ⟨hb2, h⟩ := q_cd h
      refine q_ev_chk (b := q_in (m 1 5) 200) hb2 (S' := (28, [some (.ref 1)], [.int (m 2 (m 1 5).toNatClampNeg)], qMM m n lm)) rfl ?_
      refine q_ev_run 1 (S' := (30, [some (.ref 1)], [.int 32, .int (m 2 (m 1 5).toNatClampNeg)], qMM m n lm)) rfl ?_
      by_cases hc3 : m 2 (m 1 5).toNatClampNeg = 32
      · rw [if_pos hc3] at h
        refine q_ev_brT hc3 (a := 33) (b := 46) rfl ?_
        refine q_ev_run 7 (S' := (8, [some (.ref 1)], [], qMM (q_w m 1 5 (m 1 5 + 1)) n lm)) rfl ?_
        exact ih (q_w m 1 5 (m 1 5 + 1)) _ h hk
      · rw [if_neg hc3] at h
        refine q_ev_brF hc3 (a := 33) (b := 46) rfl ?_
        cases h
        exact hk 
noncomputable def F_Re_isDigit_1 (m : (Nat → Nat → Int32)) (a1 : Int32) : Option (Int32) :=
  cond (q_in a1 200) (
    if m 2 a1.toNatClampNeg < 48 then
      some (0)
    else
      cond (q_in a1 200) (
        if 57 < m 2 a1.toNatClampNeg then
          some (0)
        else
          some (1)
       ) none
   ) none
theorem T_Re_isDigit_1 {Ln : Nat} {xs : Nat → Int32} {n : (Nat → Nat → Int32)} {lm : Nat → Int64} {d : Nat} (hd : 0 ≤ d) {m : (Nat → Nat → Int32)} {a1 : Int32} {rv : Int32} (h : F_Re_isDigit_1 m a1 = some rv) : q_Ev (qXT Ln xs) d 51 (0, [some (.ref 1), some (.int a1)], [], qMM m n lm) (some (.int rv), qMM m n lm) := by
  unfold F_Re_isDigit_1 at h
  refine q_ev_run 3 (S' := (5, [some (.ref 1), some (.int a1)], [.int a1, .ref 2], qMM m n lm)) rfl ?_
  obtain ⟨hb1, h⟩ := q_cd h
  refine q_ev_chk (b := q_in a1 200) hb1 (S' := (6, [some (.ref 1), some (.int a1)], [.int (m 2 a1.toNatClampNeg)], qMM m n lm)) rfl ?_
  refine q_ev_run 1 (S' := (8, [some (.ref 1), some (.int a1)], [.int 48, .int (m 2 a1.toNatClampNeg)], qMM m n lm)) rfl ?_
  by_cases hc2 : m 2 a1.toNatClampNeg < 48
  · rw [if_pos hc2] at h
    refine q_ev_brT hc2 (a := 26) (b := 11) rfl ?_
    refine q_ev_run 1 (S' := (27, [some (.ref 1), some (.int a1)], [.int 0], qMM m n lm)) rfl ?_
    cases h
    exact q_ev_ret rfl rfl
  · rw [if_neg hc2] at h
    refine q_ev_brF hc2 (a := 26) (b := 11) rfl ?_
    refine q_ev_run 3 (S' := (16, [some (.ref 1), some (.int a1)], [.int a1, .ref 2], qMM m n lm)) rfl ?_
    obtain ⟨hb3, h⟩ := q_cd h
    refine q_ev_chk (b := q_in a1 200) hb3 (S' := (17, [some (.ref 1), some (.int a1)], [.int (m 2 a1.toNatClampNeg)], qMM m n lm)) rfl ?_
    refine q_ev_run 1 (S' := (19, [some (.ref 1), some (.int a1)], [.int 57, .int (m 2 a1.toNatClampNeg)], qMM m n lm)) rfl ?_
    by_cases hc4 : 57 < m 2 a1.toNatClampNeg
    · rw [if_pos hc4] at h
      refine q_ev_brT hc4 (a := 26) (b := 22) rfl ?_
      refine q_ev_run 1 (S' := (27, [some (.ref 1), some (.int a1)], [.int 0], qMM m n lm)) rfl ?_
      cases h
      exact q_ev_ret rfl rfl
    · rw [if_neg hc4] at h
      refine q_ev_brF hc4 (a := 26) (b := 22) rfl ?_
      refine q_ev_run 2 (S' := (27, [some (.ref 1), some (.int a1)], [.int 1], qMM m n lm)) rfl ?_
      cases h
      exact q_ev_ret rfl rfl
noncomputable def FL_Re_readDigits_1_5 : Nat → (Nat → Nat → Int32) → Option ((Nat → Nat → Int32))
  | 0, _ => none
  | fu + 1, m =>
    if m 1 1 ≤ m 1 6 then
      some (m)
    else
      Option.bind (F_Re_isDigit_1 m (m 1 6)) (fun r2 =>
        if r2 = 0 then
          some (m)
        else
          if 2 ≤ (m 1 6 - m 1 5) then
            FL_Re_readDigits_1_5 fu (q_w m 1 6 (m 1 6 + 1))
          else
            cond (q_in (m 1 6) 200) (FL_Re_readDigits_1_5 fu (q_w (q_w m 1 4 (((m 1 4 * 10) + m 2 (m 1 6).toNatClampNeg) - 48)) 1 6 (m 1 6 + 1))) none)
theorem TL_Re_readDigits_1_5 {Ln : Nat} {xs : Nat → Int32} {n : (Nat → Nat → Int32)} {lm : Nat → Int64} {d : Nat} (hd : 1 ≤ d) {r : Option Value × qM} : ∀ (fu : Nat) (m : (Nat → Nat → Int32)) (w1 : Option Value) (w2 : Option Value) (m1 : (Nat → Nat → Int32)), FL_Re_readDigits_1_5 fu m = some m1 → (∀ (u1 u2 : Option Value), q_Ev (qXT Ln xs) d 50 (77, [some (.ref 1), u1, u2], [], qMM m1 n lm) r) → q_Ev (qXT Ln xs) d 50 (5, [some (.ref 1), w1, w2], [], qMM m n lm) r := by
  intro fu
  induction fu with
  | zero => intro m w1 w2 m1 h hk; cases h
  | succ fu ih =>
    intro m w1 w2 m1 h hk
    rw [FL_Re_readDigits_1_5] at h
    refine q_ev_run 4 (S' := (13, [some (.ref 1), w1, w2], [.int (m 1 1), .int (m 1 6)], qMM m n lm)) rfl ?_
    by_cases hc1 : m 1 1 ≤ m 1 6
    · rw [if_pos hc1] at h
      refine q_ev_brT hc1 (a := 77) (b := 16) rfl ?_
      cases h
      exact hk (w1) (w2)
    · rw [if_neg hc1] at h
      refine q_ev_brF hc1 (a := 77) (b := 16) rfl ?_
      refine q_ev_run 3 (S' := (21, [some (.ref 1), w1, w2], [.int (m 1 6), .ref 1], qMM m n lm)) rfl ?_
      obtain ⟨r2, hf3, h⟩ := Option.bind_eq_some_iff.mp h
      try dsimp only at h
      refine q_ev_call (S' := (24, [some (.ref 1), w1, w2], [], qMM m n lm)) rfl (by omega) (T_Re_isDigit_1 (by first | omega | decide) hf3) ?_
      refine q_ev_eq (S' := (24, [some (.ref 1), w1, w2], [.int r2], qMM m n lm)) rfl ?_
      by_cases hc4 : r2 = 0
      · rw [if_pos hc4] at h
        refine q_ev_brT hc4 (a := 77) (b := 27) rfl ?_
        cases h
        exact hk (w1) (w2)
      · rw [if_neg hc4] at h
        refine q_ev_brF hc4 (a := 77) (b := 27) rfl ?_
        refine q_ev_run 6 (S' := (37, [some (.ref 1), w1, w2], [.int 2, .int (m 1 6 - m 1 5)], qMM m n lm)) rfl ?_
        by_cases hc5 : 2 ≤ (m 1 6 - m 1 5)
        · rw [if_pos hc5] at h
          refine q_ev_brT hc5 (a := 64) (b := 40) rfl ?_
          refine q_ev_run 7 (S' := (5, [some (.ref 1), w1, w2], [], qMM (q_w m 1 6 (m 1 6 + 1)) n lm)) rfl ?_
          exact ih (q_w m 1 6 (m 1 6 + 1)) (w1) (w2) _ h hk
        · rw [if_neg hc5] at h
          refine q_ev_brF hc5 (a := 64) (b := 40) rfl ?_
          refine q_ev_run 9 (S' := (56, [some (.ref 1), w1, w2], [.int (m 1 6), .ref 2, .int (m 1 4 * 10), .ref 1], qMM m n lm)) rfl ?_
          obtain ⟨hb6, h⟩ := q_cd h
          refine q_ev_chk (b := q_in (m 1 6) 200) hb6 (S' := (57, [some (.ref 1), w1, w2], [.int (m 2 (m 1 6).toNatClampNeg), .int (m 1 4 * 10), .ref 1], qMM m n lm)) rfl ?_
          refine q_ev_run 11 (S' := (5, [some (.ref 1), w1, w2], [], qMM (q_w (q_w m 1 4 (((m 1 4 * 10) + m 2 (m 1 6).toNatClampNeg) - 48)) 1 6 (m 1 6 + 1)) n lm)) rfl ?_
          exact ih (q_w (q_w m 1 4 (((m 1 4 * 10) + m 2 (m 1 6).toNatClampNeg) - 48)) 1 6 (m 1 6 + 1)) (w1) (w2) _ h hk
noncomputable def F_Re_readDigits_1 (m : (Nat → Nat → Int32)) : Option ((Nat → Nat → Int32)) :=
  Option.bind (FL_Re_readDigits_1_5 qFU (q_w m 1 4 0)) (fun m3 =>
    if (m3 1 6 - m3 1 5) ≤ 1 then
      if 2 < (m3 1 6 - m3 1 5) then
        some ((q_w m3 1 3 258))
      else
        some ((q_w m3 1 3 256))
    else
      cond (q_in (m3 1 5) 200) (
        if m3 2 (m3 1 5).toNatClampNeg = 48 then
          if 2 < (m3 1 6 - m3 1 5) then
            some ((q_w m3 1 3 258))
          else
            some ((q_w m3 1 3 258))
        else
          if 2 < (m3 1 6 - m3 1 5) then
            some ((q_w m3 1 3 258))
          else
            some ((q_w m3 1 3 256))
       ) none)
theorem T_Re_readDigits_1 {Ln : Nat} {xs : Nat → Int32} {n : (Nat → Nat → Int32)} {lm : Nat → Int64} {d : Nat} (hd : 1 ≤ d) {m : (Nat → Nat → Int32)} {m1 : (Nat → Nat → Int32)} (h : F_Re_readDigits_1 m = some m1) : q_Ev (qXT Ln xs) d 50 (0, [some (.ref 1), none, none], [], qMM m n lm) (none, qMM m1 n lm) := by
  unfold F_Re_readDigits_1 at h
  refine q_ev_run 3 (S' := (5, [some (.ref 1), none, none], [], qMM (q_w m 1 4 0) n lm)) rfl ?_
  obtain ⟨m3, hl4, h⟩ := Option.bind_eq_some_iff.mp h
  try dsimp only at h
  refine TL_Re_readDigits_1_5 (by first | omega | decide) _ (q_w m 1 4 0) (none) (none) _ hl4 (fun w1 w2 => ?_)
  refine q_ev_run 8 (S' := (89, [some (.ref 1), some (.int (m3 1 6 - m3 1 5)), w2], [.int 1, .int (m3 1 6 - m3 1 5)], qMM m3 n lm)) rfl ?_
  by_cases hc5 : (m3 1 6 - m3 1 5) ≤ 1
  · rw [if_pos hc5] at h
    refine q_ev_brT hc5 (a := 110) (b := 92) rfl ?_
    refine q_ev_run 5 (S' := (115, [some (.ref 1), some (.int (m3 1 6 - m3 1 5)), some (.int 0)], [.int 2, .int (m3 1 6 - m3 1 5), .ref 1], qMM m3 n lm)) rfl ?_
    by_cases hc6 : 2 < (m3 1 6 - m3 1 5)
    · rw [if_pos hc6] at h
      refine q_ev_brT hc6 (a := 122) (b := 118) rfl ?_
      refine q_ev_run 3 (S' := (134, [some (.ref 1), some (.int (m3 1 6 - m3 1 5)), some (.int 0)], [], qMM (q_w m3 1 3 258) n lm)) rfl ?_
      cases h
      exact q_ev_ret rfl rfl
    · rw [if_neg hc6] at h
      refine q_ev_brF hc6 (a := 122) (b := 118) rfl ?_
      refine q_ev_run 4 (S' := (134, [some (.ref 1), some (.int (m3 1 6 - m3 1 5)), some (.int 0)], [], qMM (q_w m3 1 3 256) n lm)) rfl ?_
      cases h
      exact q_ev_ret rfl rfl
  · rw [if_neg hc5] at h
    refine q_ev_brF hc5 (a := 110) (b := 92) rfl ?_
    refine q_ev_run 4 (S' := (100, [some (.ref 1), some (.int (m3 1 6 - m3 1 5)), w2], [.int (m3 1 5), .ref 2], qMM m3 n lm)) rfl ?_
    obtain ⟨hb7, h⟩ := q_cd h
    refine q_ev_chk (b := q_in (m3 1 5) 200) hb7 (S' := (101, [some (.ref 1), some (.int (m3 1 6 - m3 1 5)), w2], [.int (m3 2 (m3 1 5).toNatClampNeg)], qMM m3 n lm)) rfl ?_
    refine q_ev_run 1 (S' := (103, [some (.ref 1), some (.int (m3 1 6 - m3 1 5)), w2], [.int 48, .int (m3 2 (m3 1 5).toNatClampNeg)], qMM m3 n lm)) rfl ?_
    by_cases hc8 : m3 2 (m3 1 5).toNatClampNeg = 48
    · rw [if_pos hc8] at h
      refine q_ev_brT hc8 (a := 106) (b := 110) rfl ?_
      refine q_ev_run 6 (S' := (115, [some (.ref 1), some (.int (m3 1 6 - m3 1 5)), some (.int 1)], [.int 2, .int (m3 1 6 - m3 1 5), .ref 1], qMM m3 n lm)) rfl ?_
      by_cases hc9 : 2 < (m3 1 6 - m3 1 5)
      · rw [if_pos hc9] at h
        refine q_ev_brT hc9 (a := 122) (b := 118) rfl ?_
        refine q_ev_run 3 (S' := (134, [some (.ref 1), some (.int (m3 1 6 - m3 1 5)), some (.int 1)], [], qMM (q_w m3 1 3 258) n lm)) rfl ?_
        cases h
        exact q_ev_ret rfl rfl
      · rw [if_neg hc9] at h
        refine q_ev_brF hc9 (a := 122) (b := 118) rfl ?_
        refine q_ev_run 5 (S' := (134, [some (.ref 1), some (.int (m3 1 6 - m3 1 5)), some (.int 1)], [], qMM (q_w m3 1 3 258) n lm)) rfl ?_
        cases h
        exact q_ev_ret rfl rfl
    · rw [if_neg hc8] at h
      refine q_ev_brF hc8 (a := 106) (b := 110) rfl ?_
      refine q_ev_run 5 (S' := (115, [some (.ref 1), some (.int (m3 1 6 - m3 1 5)), some (.int 0)], [.int 2, .int (m3 1 6 - m3 1 5), .ref 1], qMM m3 n lm)) rfl ?_
      by_cases hc10 : 2 < (m3 1 6 - m3 1 5)
      · rw [if_pos hc10] at h
        refine q_ev_brT hc10 (a := 122) (b := 118) rfl ?_
        refine q_ev_run 3 (S' := (134, [some (.ref 1), some (.int (m3 1 6 - m3 1 5)), some (.int 0)], [], qMM (q_w m3 1 3 258) n lm)) rfl ?_
        cases h
        exact q_ev_ret rfl rfl
      · rw [if_neg hc10] at h
        refine q_ev_brF hc10 (a := 122) (b := 118) rfl ?_
        refine q_ev_run 4 (S' := (134, [some (.ref 1), some (.int (m3 1 6 - m3 1 5)), some (.int 0)], [], qMM (q_w m3 1 3 256) n lm)) rfl ?_
        cases h
        exact q_ev_ret rfl rfl
noncomputable def F_Re_goOn_1 (m : (Nat → Nat → Int32)) : Option ((Nat → Nat → Int32)) :=
  Option.bind (FL_Re_goOn_1_8 qFU (q_w m 1 5 m 1 6)) (fun m1 =>
    if m1 1 5 < m1 1 1 then
      Option.bind (F_Re_isDigit_1 (q_w m1 1 6 m1 1 5) (m1 1 5)) (fun r4 =>
        if r4 = 0 then
          cond (q_in (m1 1 5) 200) (some ((q_w (q_w (q_w m1 1 6 m1 1 5) 1 3 m1 2 (m1 1 5).toNatClampNeg) 1 6 (m1 1 5 + 1)))) none
        else
          Option.bind (F_Re_readDigits_1 (q_w m1 1 6 m1 1 5)) (fun m8 =>
            some (m8)))
    else
      some ((q_w (q_w m1 1 6 m1 1 5) 1 3 257)))
theorem T_Re_goOn_1 {Ln : Nat} {xs : Nat → Int32} {n : (Nat → Nat → Int32)} {lm : Nat → Int64} {d : Nat} (hd : 2 ≤ d) {m : (Nat → Nat → Int32)} {m1 : (Nat → Nat → Int32)} (h : F_Re_goOn_1 m = some m1) : q_Ev (qXT Ln xs) d 49 (0, [some (.ref 1)], [], qMM m n lm) (none, qMM m1 n lm) := by
  unfold F_Re_goOn_1 at h
  refine q_ev_run 4 (S' := (8, [some (.ref 1)], [], qMM (q_w m 1 5 m 1 6) n lm)) rfl ?_
  obtain ⟨m1, hl2, h⟩ := Option.bind_eq_some_iff.mp h
  try dsimp only at h
  refine TL_Re_goOn_1_8 (by first | omega | decide) _ (q_w m 1 5 m 1 6) _ hl2 ?_
  refine q_ev_run 8 (S' := (62, [some (.ref 1)], [.int (m1 1 1), .int (m1 1 5)], qMM (q_w m1 1 6 m1 1 5) n lm)) rfl ?_
  by_cases hc3 : m1 1 5 < m1 1 1
  · rw [if_pos hc3] at h
    refine q_ev_brT hc3 (a := 75) (b := 65) rfl ?_
    refine q_ev_run 3 (S' := (80, [some (.ref 1)], [.int (m1 1 5), .ref 1], qMM (q_w m1 1 6 m1 1 5) n lm)) rfl ?_
    obtain ⟨r4, hf5, h⟩ := Option.bind_eq_some_iff.mp h
    try dsimp only at h
    refine q_ev_call (S' := (83, [some (.ref 1)], [], qMM (q_w m1 1 6 m1 1 5) n lm)) rfl (by omega) (T_Re_isDigit_1 (by first | omega | decide) hf5) ?_
    refine q_ev_eq (S' := (83, [some (.ref 1)], [.int r4], qMM (q_w m1 1 6 m1 1 5) n lm)) rfl ?_
    by_cases hc6 : r4 = 0
    · rw [if_pos hc6] at h
      refine q_ev_brT hc6 (a := 93) (b := 86) rfl ?_
      refine q_ev_run 5 (S' := (102, [some (.ref 1)], [.int (m1 1 5), .ref 2, .ref 1], qMM (q_w m1 1 6 m1 1 5) n lm)) rfl ?_
      obtain ⟨hb7, h⟩ := q_cd h
      refine q_ev_chk (b := q_in (m1 1 5) 200) hb7 (S' := (103, [some (.ref 1)], [.int (m1 2 (m1 1 5).toNatClampNeg), .ref 1], qMM (q_w m1 1 6 m1 1 5) n lm)) rfl ?_
      refine q_ev_run 7 (S' := (116, [some (.ref 1)], [], qMM (q_w (q_w (q_w m1 1 6 m1 1 5) 1 3 m1 2 (m1 1 5).toNatClampNeg) 1 6 (m1 1 5 + 1)) n lm)) rfl ?_
      cases h
      exact q_ev_ret rfl rfl
    · rw [if_neg hc6] at h
      refine q_ev_brF hc6 (a := 93) (b := 86) rfl ?_
      refine q_ev_run 1 (S' := (87, [some (.ref 1)], [.ref 1], qMM (q_w m1 1 6 m1 1 5) n lm)) rfl ?_
      obtain ⟨m8, hf9, h⟩ := Option.bind_eq_some_iff.mp h
      try dsimp only at h
      refine q_ev_call (S' := (90, [some (.ref 1)], [], qMM (q_w m1 1 6 m1 1 5) n lm)) rfl (by omega) (T_Re_readDigits_1 (by first | omega | decide) hf9) ?_
      refine q_ev_eq (S' := (90, [some (.ref 1)], [], qMM m8 n lm)) rfl ?_
      refine q_ev_run 1 (S' := (116, [some (.ref 1)], [], qMM m8 n lm)) rfl ?_
      cases h
      exact q_ev_ret rfl rfl
  · rw [if_neg hc3] at h
    refine q_ev_brF hc3 (a := 75) (b := 65) rfl ?_
    refine q_ev_run 4 (S' := (116, [some (.ref 1)], [], qMM (q_w (q_w m1 1 6 m1 1 5) 1 3 257) n lm)) rfl ?_
    cases h
    exact q_ev_ret rfl rfl
noncomputable def F_Re_bitOf (a0 : Int32) : Option (Int32) :=
  some (((1 : Int32) <<< ((a0 - 97) &&& 31)))
theorem T_Re_bitOf {Ln : Nat} {xs : Nat → Int32} {n : (Nat → Nat → Int32)} {m : (Nat → Nat → Int32)} {lm : Nat → Int64} {d : Nat} (hd : 0 ≤ d) {a0 : Int32} {rv : Int32} (h : F_Re_bitOf a0 = some rv) : q_Ev (qXT Ln xs) d 39 (0, [some (.int a0)], [], qMM m n lm) (some (.int rv), qMM m n lm) := by
  unfold F_Re_bitOf at h
  refine q_ev_run 5 (S' := (6, [some (.int a0)], [.int ((1 : Int32) <<< ((a0 - 97) &&& 31))], qMM m n lm)) rfl ?_
  cases h
  exact q_ev_ret rfl rfl
noncomputable def F_Re_canBegin_1 (m : (Nat → Nat → Int32)) (a1 : Int32) (a2 : Int32) : Option (Int32) :=
  if a1 = 99 then
    Option.bind (F_Re_bitOf a1) (fun r1 =>
      if (m 1 7 &&& r1) = 0 then
        some (1)
      else
        some (0))
  else
  if a1 = 102 then
    some (1)
  else
  if a1 = 104 then
    if 5 ≤ m 3 1 then
      some (0)
    else
      some (1)
  else
  if a1 = 110 then
    cond (q_bl a2) (some (a2)) none
  else
  if a1 = 114 then
    Option.bind (F_Re_bitOf a1) (fun r10 =>
      if (m 1 7 &&& r10) = 0 then
        some (1)
      else
        some (0))
  else
  if a1 = 115 then
    Option.bind (F_Re_bitOf a1) (fun r14 =>
      if (m 1 7 &&& r14) = 0 then
        some (1)
      else
        some (0))
  else
  if a1 = 116 then
    Option.bind (F_Re_bitOf a1) (fun r18 =>
      if (m 1 7 &&& r18) = 0 then
        some (1)
      else
        some (0))
  else
  if a1 = 118 then
    some (1)
  else
    some (0)
theorem T_Re_canBegin_1 {Ln : Nat} {xs : Nat → Int32} {n : (Nat → Nat → Int32)} {lm : Nat → Int64} {d : Nat} (hd : 1 ≤ d) {m : (Nat → Nat → Int32)} {a1 : Int32} {a2 : Int32} {rv : Int32} (h : F_Re_canBegin_1 m a1 a2 = some rv) : q_Ev (qXT Ln xs) d 38 (0, [some (.ref 1), some (.int a1), some (.int a2)], [], qMM m n lm) (some (.int rv), qMM m n lm) := by
  unfold F_Re_canBegin_1 at h
  refine q_ev_run 1 (S' := (1, [some (.ref 1), some (.int a1), some (.int a2)], [.int a1], qMM m n lm)) rfl ?_
  by_cases hc4 : a1 = 99
  · rw [if_pos hc4] at h
    refine q_ev_sw (v := 117) (a := 117) (show q_sw a1 135 99 [117, 135, 135, 98, 135, 100, 135, 135, 135, 135, 135, 96, 135, 135, 135, 117, 117, 117, 135, 98] = 117 by rw [hc4]; rfl) rfl rfl ?_
    refine q_ev_run 3 (S' := (122, [some (.ref 1), some (.int a1), some (.int a2)], [.int a1, .int (m 1 7)], qMM m n lm)) rfl ?_
    obtain ⟨r1, hf2, h⟩ := Option.bind_eq_some_iff.mp h
    try dsimp only at h
    refine q_ev_call (S' := (125, [some (.ref 1), some (.int a1), some (.int a2)], [.int (m 1 7)], qMM m n lm)) rfl (by omega) (T_Re_bitOf (by first | omega | decide) hf2) ?_
    refine q_ev_eq (S' := (125, [some (.ref 1), some (.int a1), some (.int a2)], [.int r1, .int (m 1 7)], qMM m n lm)) rfl ?_
    refine q_ev_run 1 (S' := (126, [some (.ref 1), some (.int a1), some (.int a2)], [.int (m 1 7 &&& r1)], qMM m n lm)) rfl ?_
    by_cases hc3 : (m 1 7 &&& r1) = 0
    · rw [if_pos hc3] at h
      refine q_ev_brT hc3 (a := 129) (b := 133) rfl ?_
      refine q_ev_run 2 (S' := (134, [some (.ref 1), some (.int a1), some (.int a2)], [.int 1], qMM m n lm)) rfl ?_
      cases h
      exact q_ev_ret rfl rfl
    · rw [if_neg hc3] at h
      refine q_ev_brF hc3 (a := 129) (b := 133) rfl ?_
      refine q_ev_run 1 (S' := (134, [some (.ref 1), some (.int a1), some (.int a2)], [.int 0], qMM m n lm)) rfl ?_
      cases h
      exact q_ev_ret rfl rfl
  rw [if_neg hc4] at h
  by_cases hc5 : a1 = 102
  · rw [if_pos hc5] at h
    refine q_ev_sw (v := 98) (a := 98) (show q_sw a1 135 99 [117, 135, 135, 98, 135, 100, 135, 135, 135, 135, 135, 96, 135, 135, 135, 117, 117, 117, 135, 98] = 98 by rw [hc5]; rfl) rfl rfl ?_
    refine q_ev_run 1 (S' := (99, [some (.ref 1), some (.int a1), some (.int a2)], [.int 1], qMM m n lm)) rfl ?_
    cases h
    exact q_ev_ret rfl rfl
  rw [if_neg hc5] at h
  by_cases hc7 : a1 = 104
  · rw [if_pos hc7] at h
    refine q_ev_sw (v := 100) (a := 100) (show q_sw a1 135 99 [117, 135, 135, 98, 135, 100, 135, 135, 135, 135, 135, 96, 135, 135, 135, 117, 117, 117, 135, 98] = 100 by rw [hc7]; rfl) rfl rfl ?_
    refine q_ev_run 4 (S' := (108, [some (.ref 1), some (.int a1), some (.int a2)], [.int 5, .int (m 3 1)], qMM m n lm)) rfl ?_
    by_cases hc6 : 5 ≤ m 3 1
    · rw [if_pos hc6] at h
      refine q_ev_brT hc6 (a := 115) (b := 111) rfl ?_
      refine q_ev_run 1 (S' := (116, [some (.ref 1), some (.int a1), some (.int a2)], [.int 0], qMM m n lm)) rfl ?_
      cases h
      exact q_ev_ret rfl rfl
    · rw [if_neg hc6] at h
      refine q_ev_brF hc6 (a := 115) (b := 111) rfl ?_
      refine q_ev_run 2 (S' := (116, [some (.ref 1), some (.int a1), some (.int a2)], [.int 1], qMM m n lm)) rfl ?_
      cases h
      exact q_ev_ret rfl rfl
  rw [if_neg hc7] at h
  by_cases hc9 : a1 = 110
  · rw [if_pos hc9] at h
    refine q_ev_sw (v := 96) (a := 96) (show q_sw a1 135 99 [117, 135, 135, 98, 135, 100, 135, 135, 135, 135, 135, 96, 135, 135, 135, 117, 117, 117, 135, 98] = 96 by rw [hc9]; rfl) rfl rfl ?_
    refine q_ev_run 1 (S' := (97, [some (.ref 1), some (.int a1), some (.int a2)], [.int a2], qMM m n lm)) rfl ?_
    obtain ⟨hb8, h⟩ := q_cd h
    cases h
    exact q_ev_retb (b := q_bl a2) hb8 rfl rfl
  rw [if_neg hc9] at h
  by_cases hc13 : a1 = 114
  · rw [if_pos hc13] at h
    refine q_ev_sw (v := 117) (a := 117) (show q_sw a1 135 99 [117, 135, 135, 98, 135, 100, 135, 135, 135, 135, 135, 96, 135, 135, 135, 117, 117, 117, 135, 98] = 117 by rw [hc13]; rfl) rfl rfl ?_
    refine q_ev_run 3 (S' := (122, [some (.ref 1), some (.int a1), some (.int a2)], [.int a1, .int (m 1 7)], qMM m n lm)) rfl ?_
    obtain ⟨r10, hf11, h⟩ := Option.bind_eq_some_iff.mp h
    try dsimp only at h
    refine q_ev_call (S' := (125, [some (.ref 1), some (.int a1), some (.int a2)], [.int (m 1 7)], qMM m n lm)) rfl (by omega) (T_Re_bitOf (by first | omega | decide) hf11) ?_
    refine q_ev_eq (S' := (125, [some (.ref 1), some (.int a1), some (.int a2)], [.int r10, .int (m 1 7)], qMM m n lm)) rfl ?_
    refine q_ev_run 1 (S' := (126, [some (.ref 1), some (.int a1), some (.int a2)], [.int (m 1 7 &&& r10)], qMM m n lm)) rfl ?_
    by_cases hc12 : (m 1 7 &&& r10) = 0
    · rw [if_pos hc12] at h
      refine q_ev_brT hc12 (a := 129) (b := 133) rfl ?_
      refine q_ev_run 2 (S' := (134, [some (.ref 1), some (.int a1), some (.int a2)], [.int 1], qMM m n lm)) rfl ?_
      cases h
      exact q_ev_ret rfl rfl
    · rw [if_neg hc12] at h
      refine q_ev_brF hc12 (a := 129) (b := 133) rfl ?_
      refine q_ev_run 1 (S' := (134, [some (.ref 1), some (.int a1), some (.int a2)], [.int 0], qMM m n lm)) rfl ?_
      cases h
      exact q_ev_ret rfl rfl
  rw [if_neg hc13] at h
  by_cases hc17 : a1 = 115
  · rw [if_pos hc17] at h
    refine q_ev_sw (v := 117) (a := 117) (show q_sw a1 135 99 [117, 135, 135, 98, 135, 100, 135, 135, 135, 135, 135, 96, 135, 135, 135, 117, 117, 117, 135, 98] = 117 by rw [hc17]; rfl) rfl rfl ?_
    refine q_ev_run 3 (S' := (122, [some (.ref 1), some (.int a1), some (.int a2)], [.int a1, .int (m 1 7)], qMM m n lm)) rfl ?_
    obtain ⟨r14, hf15, h⟩ := Option.bind_eq_some_iff.mp h
    try dsimp only at h
    refine q_ev_call (S' := (125, [some (.ref 1), some (.int a1), some (.int a2)], [.int (m 1 7)], qMM m n lm)) rfl (by omega) (T_Re_bitOf (by first | omega | decide) hf15) ?_
    refine q_ev_eq (S' := (125, [some (.ref 1), some (.int a1), some (.int a2)], [.int r14, .int (m 1 7)], qMM m n lm)) rfl ?_
    refine q_ev_run 1 (S' := (126, [some (.ref 1), some (.int a1), some (.int a2)], [.int (m 1 7 &&& r14)], qMM m n lm)) rfl ?_
    by_cases hc16 : (m 1 7 &&& r14) = 0
    · rw [if_pos hc16] at h
      refine q_ev_brT hc16 (a := 129) (b := 133) rfl ?_
      refine q_ev_run 2 (S' := (134, [some (.ref 1), some (.int a1), some (.int a2)], [.int 1], qMM m n lm)) rfl ?_
      cases h
      exact q_ev_ret rfl rfl
    · rw [if_neg hc16] at h
      refine q_ev_brF hc16 (a := 129) (b := 133) rfl ?_
      refine q_ev_run 1 (S' := (134, [some (.ref 1), some (.int a1), some (.int a2)], [.int 0], qMM m n lm)) rfl ?_
      cases h
      exact q_ev_ret rfl rfl
  rw [if_neg hc17] at h
  by_cases hc21 : a1 = 116
  · rw [if_pos hc21] at h
    refine q_ev_sw (v := 117) (a := 117) (show q_sw a1 135 99 [117, 135, 135, 98, 135, 100, 135, 135, 135, 135, 135, 96, 135, 135, 135, 117, 117, 117, 135, 98] = 117 by rw [hc21]; rfl) rfl rfl ?_
    refine q_ev_run 3 (S' := (122, [some (.ref 1), some (.int a1), some (.int a2)], [.int a1, .int (m 1 7)], qMM m n lm)) rfl ?_
    obtain ⟨r18, hf19, h⟩ := Option.bind_eq_some_iff.mp h
    try dsimp only at h
    refine q_ev_call (S' := (125, [some (.ref 1), some (.int a1), some (.int a2)], [.int (m 1 7)], qMM m n lm)) rfl (by omega) (T_Re_bitOf (by first | omega | decide) hf19) ?_
    refine q_ev_eq (S' := (125, [some (.ref 1), some (.int a1), some (.int a2)], [.int r18, .int (m 1 7)], qMM m n lm)) rfl ?_
    refine q_ev_run 1 (S' := (126, [some (.ref 1), some (.int a1), some (.int a2)], [.int (m 1 7 &&& r18)], qMM m n lm)) rfl ?_
    by_cases hc20 : (m 1 7 &&& r18) = 0
    · rw [if_pos hc20] at h
      refine q_ev_brT hc20 (a := 129) (b := 133) rfl ?_
      refine q_ev_run 2 (S' := (134, [some (.ref 1), some (.int a1), some (.int a2)], [.int 1], qMM m n lm)) rfl ?_
      cases h
      exact q_ev_ret rfl rfl
    · rw [if_neg hc20] at h
      refine q_ev_brF hc20 (a := 129) (b := 133) rfl ?_
      refine q_ev_run 1 (S' := (134, [some (.ref 1), some (.int a1), some (.int a2)], [.int 0], qMM m n lm)) rfl ?_
      cases h
      exact q_ev_ret rfl rfl
  rw [if_neg hc21] at h
  by_cases hc22 : a1 = 118
  · rw [if_pos hc22] at h
    refine q_ev_sw (v := 98) (a := 98) (show q_sw a1 135 99 [117, 135, 135, 98, 135, 100, 135, 135, 135, 135, 135, 96, 135, 135, 135, 117, 117, 117, 135, 98] = 98 by rw [hc22]; rfl) rfl rfl ?_
    refine q_ev_run 1 (S' := (99, [some (.ref 1), some (.int a1), some (.int a2)], [.int 1], qMM m n lm)) rfl ?_
    cases h
    exact q_ev_ret rfl rfl
  rw [if_neg hc22] at h
  refine q_ev_sw (v := 135) (a := 135) (show q_sw a1 135 99 [117, 135, 135, 98, 135, 100, 135, 135, 135, 135, 135, 96, 135, 135, 135, 117, 117, 117, 135, 98] = 135 from q_sw_nd (by show a1 ∉ ([99, 102, 104, 110, 114, 115, 116, 118] : List Int32); simp [hc4, hc5, hc7, hc9, hc13, hc17, hc21, hc22])) rfl rfl ?_
  refine q_ev_run 1 (S' := (136, [some (.ref 1), some (.int a1), some (.int a2)], [.int 0], qMM m n lm)) rfl ?_
  cases h
  exact q_ev_ret rfl rfl
noncomputable def F_Re_takeNumber_1 (m : (Nat → Nat → Int32)) (a1 : Int32) (a2 : Int32) : Option (Int32 × (Nat → Nat → Int32)) :=
  if m 1 3 = 256 then
    if m 1 4 < a1 then
      some ((-9), m)
    else
      if m 1 4 ≤ a2 then
        Option.bind (F_Re_goOn_1 m) (fun m4 =>
          some (m 1 4, m4))
      else
        some ((-9), m)
  else
    some ((-9), m)
theorem T_Re_takeNumber_1 {Ln : Nat} {xs : Nat → Int32} {n : (Nat → Nat → Int32)} {lm : Nat → Int64} {d : Nat} (hd : 3 ≤ d) {m : (Nat → Nat → Int32)} {a1 : Int32} {a2 : Int32} {rv : Int32} {m1 : (Nat → Nat → Int32)} (h : F_Re_takeNumber_1 m a1 a2 = some (rv, m1)) : q_Ev (qXT Ln xs) d 48 (0, [some (.ref 1), some (.int a1), some (.int a2), none], [], qMM m n lm) (some (.int rv), qMM m1 n lm) := by
  unfold F_Re_takeNumber_1 at h
  refine q_ev_run 3 (S' := (7, [some (.ref 1), some (.int a1), some (.int a2), none], [.int 256, .int (m 1 3)], qMM m n lm)) rfl ?_
  by_cases hc1 : m 1 3 = 256
  · rw [if_pos hc1] at h
    refine q_ev_brT hc1 (a := 10) (b := 26) rfl ?_
    refine q_ev_run 3 (S' := (15, [some (.ref 1), some (.int a1), some (.int a2), none], [.int a1, .int (m 1 4)], qMM m n lm)) rfl ?_
    by_cases hc2 : m 1 4 < a1
    · rw [if_pos hc2] at h
      refine q_ev_brT hc2 (a := 26) (b := 18) rfl ?_
      refine q_ev_run 1 (S' := (28, [some (.ref 1), some (.int a1), some (.int a2), none], [.int (-9)], qMM m n lm)) rfl ?_
      cases h
      exact q_ev_ret rfl rfl
    · rw [if_neg hc2] at h
      refine q_ev_brF hc2 (a := 26) (b := 18) rfl ?_
      refine q_ev_run 3 (S' := (23, [some (.ref 1), some (.int a1), some (.int a2), none], [.int a2, .int (m 1 4)], qMM m n lm)) rfl ?_
      by_cases hc3 : m 1 4 ≤ a2
      · rw [if_pos hc3] at h
        refine q_ev_brT hc3 (a := 29) (b := 26) rfl ?_
        refine q_ev_run 4 (S' := (35, [some (.ref 1), some (.int a1), some (.int a2), some (.int (m 1 4))], [.ref 1], qMM m n lm)) rfl ?_
        obtain ⟨m4, hf5, h⟩ := Option.bind_eq_some_iff.mp h
        try dsimp only at h
        refine q_ev_call (S' := (38, [some (.ref 1), some (.int a1), some (.int a2), some (.int (m 1 4))], [], qMM m n lm)) rfl (by omega) (T_Re_goOn_1 (by first | omega | decide) hf5) ?_
        refine q_ev_eq (S' := (38, [some (.ref 1), some (.int a1), some (.int a2), some (.int (m 1 4))], [], qMM m4 n lm)) rfl ?_
        refine q_ev_run 1 (S' := (39, [some (.ref 1), some (.int a1), some (.int a2), some (.int (m 1 4))], [.int (m 1 4)], qMM m4 n lm)) rfl ?_
        cases h
        exact q_ev_ret rfl rfl
      · rw [if_neg hc3] at h
        refine q_ev_brF hc3 (a := 29) (b := 26) rfl ?_
        refine q_ev_run 1 (S' := (28, [some (.ref 1), some (.int a1), some (.int a2), none], [.int (-9)], qMM m n lm)) rfl ?_
        cases h
        exact q_ev_ret rfl rfl
  · rw [if_neg hc1] at h
    refine q_ev_brF hc1 (a := 10) (b := 26) rfl ?_
    refine q_ev_run 1 (S' := (28, [some (.ref 1), some (.int a1), some (.int a2), none], [.int (-9)], qMM m n lm)) rfl ?_
    cases h
    exact q_ev_ret rfl rfl
noncomputable def F_Re_takePlace_1 (m : (Nat → Nat → Int32)) : Option (Int32 × (Nat → Nat → Int32)) :=
  Option.bind (F_Re_takeNumber_1 m 0 (m 3 0 - 1)) (fun (r1, m2) =>
    some (r1, m2))
theorem T_Re_takePlace_1 {Ln : Nat} {xs : Nat → Int32} {n : (Nat → Nat → Int32)} {lm : Nat → Int64} {d : Nat} (hd : 4 ≤ d) {m : (Nat → Nat → Int32)} {rv : Int32} {m1 : (Nat → Nat → Int32)} (h : F_Re_takePlace_1 m = some (rv, m1)) : q_Ev (qXT Ln xs) d 45 (0, [some (.ref 1)], [], qMM m n lm) (some (.int rv), qMM m1 n lm) := by
  unfold F_Re_takePlace_1 at h
  refine q_ev_run 7 (S' := (11, [some (.ref 1)], [.int (m 3 0 - 1), .int 0, .ref 1], qMM m n lm)) rfl ?_
  obtain ⟨⟨r1, m2⟩, hf3, h⟩ := Option.bind_eq_some_iff.mp h
  try dsimp only at h
  refine q_ev_call (S' := (14, [some (.ref 1)], [], qMM m n lm)) rfl (by omega) (T_Re_takeNumber_1 (by first | omega | decide) hf3) ?_
  refine q_ev_eq (S' := (14, [some (.ref 1)], [.int r1], qMM m2 n lm)) rfl ?_
  cases h
  exact q_ev_ret rfl rfl
noncomputable def F_Re_takePlaceUnlike_1 (m : (Nat → Nat → Int32)) (a1 : Int32) : Option (Int32 × (Nat → Nat → Int32)) :=
  if m 1 3 = 256 then
    if m 1 4 = a1 then
      some ((-9), m)
    else
      Option.bind (F_Re_takePlace_1 m) (fun (r3, m4) =>
        some (r3, m4))
  else
    Option.bind (F_Re_takePlace_1 m) (fun (r6, m7) =>
      some (r6, m7))
theorem T_Re_takePlaceUnlike_1 {Ln : Nat} {xs : Nat → Int32} {n : (Nat → Nat → Int32)} {lm : Nat → Int64} {d : Nat} (hd : 5 ≤ d) {m : (Nat → Nat → Int32)} {a1 : Int32} {rv : Int32} {m1 : (Nat → Nat → Int32)} (h : F_Re_takePlaceUnlike_1 m a1 = some (rv, m1)) : q_Ev (qXT Ln xs) d 46 (0, [some (.ref 1), some (.int a1)], [], qMM m n lm) (some (.int rv), qMM m1 n lm) := by
  unfold F_Re_takePlaceUnlike_1 at h
  refine q_ev_run 3 (S' := (7, [some (.ref 1), some (.int a1)], [.int 256, .int (m 1 3)], qMM m n lm)) rfl ?_
  by_cases hc1 : m 1 3 = 256
  · rw [if_pos hc1] at h
    refine q_ev_brT hc1 (a := 10) (b := 23) rfl ?_
    refine q_ev_run 3 (S' := (15, [some (.ref 1), some (.int a1)], [.int a1, .int (m 1 4)], qMM m n lm)) rfl ?_
    by_cases hc2 : m 1 4 = a1
    · rw [if_pos hc2] at h
      refine q_ev_brT hc2 (a := 18) (b := 23) rfl ?_
      refine q_ev_run 2 (S' := (27, [some (.ref 1), some (.int a1)], [.int (-9)], qMM m n lm)) rfl ?_
      cases h
      exact q_ev_ret rfl rfl
    · rw [if_neg hc2] at h
      refine q_ev_brF hc2 (a := 18) (b := 23) rfl ?_
      refine q_ev_run 1 (S' := (24, [some (.ref 1), some (.int a1)], [.ref 1], qMM m n lm)) rfl ?_
      obtain ⟨⟨r3, m4⟩, hf5, h⟩ := Option.bind_eq_some_iff.mp h
      try dsimp only at h
      refine q_ev_call (S' := (27, [some (.ref 1), some (.int a1)], [], qMM m n lm)) rfl (by omega) (T_Re_takePlace_1 (by first | omega | decide) hf5) ?_
      refine q_ev_eq (S' := (27, [some (.ref 1), some (.int a1)], [.int r3], qMM m4 n lm)) rfl ?_
      cases h
      exact q_ev_ret rfl rfl
  · rw [if_neg hc1] at h
    refine q_ev_brF hc1 (a := 10) (b := 23) rfl ?_
    refine q_ev_run 1 (S' := (24, [some (.ref 1), some (.int a1)], [.ref 1], qMM m n lm)) rfl ?_
    obtain ⟨⟨r6, m7⟩, hf8, h⟩ := Option.bind_eq_some_iff.mp h
    try dsimp only at h
    refine q_ev_call (S' := (27, [some (.ref 1), some (.int a1)], [], qMM m n lm)) rfl (by omega) (T_Re_takePlace_1 (by first | omega | decide) hf8) ?_
    refine q_ev_eq (S' := (27, [some (.ref 1), some (.int a1)], [.int r6], qMM m7 n lm)) rfl ?_
    cases h
    exact q_ev_ret rfl rfl
noncomputable def F_La_pair (a0 : Int32) (a1 : Int32) : Option (Int32) :=
  some (((a0 * 8) + a1))
theorem T_La_pair {Ln : Nat} {xs : Nat → Int32} {n : (Nat → Nat → Int32)} {m : (Nat → Nat → Int32)} {lm : Nat → Int64} {d : Nat} (hd : 0 ≤ d) {a0 : Int32} {a1 : Int32} {rv : Int32} (h : F_La_pair a0 a1 = some rv) : q_Ev (qXT Ln xs) d 17 (0, [some (.int a0), some (.int a1)], [], qMM m n lm) (some (.int rv), qMM m n lm) := by
  unfold F_La_pair at h
  refine q_ev_run 5 (S' := (6, [some (.int a0), some (.int a1)], [.int ((a0 * 8) + a1)], qMM m n lm)) rfl ?_
  cases h
  exact q_ev_ret rfl rfl
noncomputable def F_La_putFurrow_3 (m : (Nat → Nat → Int32)) (a1 : Int32) (a2 : Int32) (a3 : Int32) : Option ((Nat → Nat → Int32)) :=
  Option.bind (F_La_pair a1 a2) (fun r1 =>
    cond (q_in r1 64) (
      Option.bind (F_La_pair a2 a1) (fun r4 =>
        cond (q_in r4 64) (some ((q_w (q_w m 4 r1.toNatClampNeg a3) 4 r4.toNatClampNeg a3))) none)
     ) none)
theorem T_La_putFurrow_3 {Ln : Nat} {xs : Nat → Int32} {n : (Nat → Nat → Int32)} {lm : Nat → Int64} {d : Nat} (hd : 1 ≤ d) {m : (Nat → Nat → Int32)} {a1 : Int32} {a2 : Int32} {a3 : Int32} {m1 : (Nat → Nat → Int32)} (h : F_La_putFurrow_3 m a1 a2 a3 = some m1) : q_Ev (qXT Ln xs) d 19 (0, [some (.ref 3), some (.int a1), some (.int a2), some (.int a3)], [], qMM m n lm) (none, qMM m1 n lm) := by
  unfold F_La_putFurrow_3 at h
  refine q_ev_run 4 (S' := (6, [some (.ref 3), some (.int a1), some (.int a2), some (.int a3)], [.int a2, .int a1, .ref 4], qMM m n lm)) rfl ?_
  obtain ⟨r1, hf2, h⟩ := Option.bind_eq_some_iff.mp h
  try dsimp only at h
  refine q_ev_call (S' := (9, [some (.ref 3), some (.int a1), some (.int a2), some (.int a3)], [.ref 4], qMM m n lm)) rfl (by omega) (T_La_pair (by first | omega | decide) hf2) ?_
  refine q_ev_eq (S' := (9, [some (.ref 3), some (.int a1), some (.int a2), some (.int a3)], [.int r1, .ref 4], qMM m n lm)) rfl ?_
  refine q_ev_run 1 (S' := (10, [some (.ref 3), some (.int a1), some (.int a2), some (.int a3)], [.int a3, .int r1, .ref 4], qMM m n lm)) rfl ?_
  obtain ⟨hb3, h⟩ := q_cd h
  refine q_ev_chk (b := q_in r1 64) hb3 (S' := (11, [some (.ref 3), some (.int a1), some (.int a2), some (.int a3)], [], qMM (q_w m 4 r1.toNatClampNeg a3) n lm)) rfl ?_
  refine q_ev_run 4 (S' := (17, [some (.ref 3), some (.int a1), some (.int a2), some (.int a3)], [.int a1, .int a2, .ref 4], qMM (q_w m 4 r1.toNatClampNeg a3) n lm)) rfl ?_
  obtain ⟨r4, hf5, h⟩ := Option.bind_eq_some_iff.mp h
  try dsimp only at h
  refine q_ev_call (S' := (20, [some (.ref 3), some (.int a1), some (.int a2), some (.int a3)], [.ref 4], qMM (q_w m 4 r1.toNatClampNeg a3) n lm)) rfl (by omega) (T_La_pair (by first | omega | decide) hf5) ?_
  refine q_ev_eq (S' := (20, [some (.ref 3), some (.int a1), some (.int a2), some (.int a3)], [.int r4, .ref 4], qMM (q_w m 4 r1.toNatClampNeg a3) n lm)) rfl ?_
  refine q_ev_run 1 (S' := (21, [some (.ref 3), some (.int a1), some (.int a2), some (.int a3)], [.int a3, .int r4, .ref 4], qMM (q_w m 4 r1.toNatClampNeg a3) n lm)) rfl ?_
  obtain ⟨hb6, h⟩ := q_cd h
  refine q_ev_chk (b := q_in r4 64) hb6 (S' := (22, [some (.ref 3), some (.int a1), some (.int a2), some (.int a3)], [], qMM (q_w (q_w m 4 r1.toNatClampNeg a3) 4 r4.toNatClampNeg a3) n lm)) rfl ?_
  cases h
  exact q_ev_ret rfl rfl
noncomputable def F_Re_readFurrow_1 (m : (Nat → Nat → Int32)) : Option (Int32 × (Nat → Nat → Int32)) :=
  Option.bind (F_Re_takePlace_1 m) (fun (r1, m2) =>
    if r1 = (-9) then
      some (0, m2)
    else
      Option.bind (F_Re_takePlaceUnlike_1 m2 r1) (fun (r5, m6) =>
        if r5 = (-9) then
          some (0, m6)
        else
          Option.bind (F_Re_takeNumber_1 m6 1 9) (fun (r9, m10) =>
            if r9 = (-9) then
              some (0, m10)
            else
              Option.bind (F_La_putFurrow_3 m10 r1 r5 r9) (fun m13 =>
                some (1, m13)))))
theorem T_Re_readFurrow_1 {Ln : Nat} {xs : Nat → Int32} {n : (Nat → Nat → Int32)} {lm : Nat → Int64} {d : Nat} (hd : 6 ≤ d) {m : (Nat → Nat → Int32)} {rv : Int32} {m1 : (Nat → Nat → Int32)} (h : F_Re_readFurrow_1 m = some (rv, m1)) : q_Ev (qXT Ln xs) d 41 (0, [some (.ref 1), none, none, none], [], qMM m n lm) (some (.int rv), qMM m1 n lm) := by
  unfold F_Re_readFurrow_1 at h
  refine q_ev_run 1 (S' := (1, [some (.ref 1), none, none, none], [.ref 1], qMM m n lm)) rfl ?_
  obtain ⟨⟨r1, m2⟩, hf3, h⟩ := Option.bind_eq_some_iff.mp h
  try dsimp only at h
  refine q_ev_call (S' := (4, [some (.ref 1), none, none, none], [], qMM m n lm)) rfl (by omega) (T_Re_takePlace_1 (by first | omega | decide) hf3) ?_
  refine q_ev_eq (S' := (4, [some (.ref 1), none, none, none], [.int r1], qMM m2 n lm)) rfl ?_
  refine q_ev_run 3 (S' := (8, [some (.ref 1), some (.int r1), none, none], [.int (-9), .int r1], qMM m2 n lm)) rfl ?_
  by_cases hc4 : r1 = (-9)
  · rw [if_pos hc4] at h
    refine q_ev_brT hc4 (a := 11) (b := 16) rfl ?_
    refine q_ev_run 13 (S' := (48, [some (.ref 1), some (.int r1), some (.int (-9)), some (.int (-9))], [.int 0], qMM m2 n lm)) rfl ?_
    cases h
    exact q_ev_ret rfl rfl
  · rw [if_neg hc4] at h
    refine q_ev_brF hc4 (a := 11) (b := 16) rfl ?_
    refine q_ev_run 2 (S' := (18, [some (.ref 1), some (.int r1), none, none], [.int r1, .ref 1], qMM m2 n lm)) rfl ?_
    obtain ⟨⟨r5, m6⟩, hf7, h⟩ := Option.bind_eq_some_iff.mp h
    try dsimp only at h
    refine q_ev_call (S' := (21, [some (.ref 1), some (.int r1), none, none], [], qMM m2 n lm)) rfl (by omega) (T_Re_takePlaceUnlike_1 (by first | omega | decide) hf7) ?_
    refine q_ev_eq (S' := (21, [some (.ref 1), some (.int r1), none, none], [.int r5], qMM m6 n lm)) rfl ?_
    refine q_ev_run 3 (S' := (25, [some (.ref 1), some (.int r1), some (.int r5), none], [.int (-9), .int r5], qMM m6 n lm)) rfl ?_
    by_cases hc8 : r5 = (-9)
    · rw [if_pos hc8] at h
      refine q_ev_brT hc8 (a := 28) (b := 33) rfl ?_
      refine q_ev_run 7 (S' := (48, [some (.ref 1), some (.int r1), some (.int r5), some (.int (-9))], [.int 0], qMM m6 n lm)) rfl ?_
      cases h
      exact q_ev_ret rfl rfl
    · rw [if_neg hc8] at h
      refine q_ev_brF hc8 (a := 28) (b := 33) rfl ?_
      refine q_ev_run 3 (S' := (37, [some (.ref 1), some (.int r1), some (.int r5), none], [.int 9, .int 1, .ref 1], qMM m6 n lm)) rfl ?_
      obtain ⟨⟨r9, m10⟩, hf11, h⟩ := Option.bind_eq_some_iff.mp h
      try dsimp only at h
      refine q_ev_call (S' := (40, [some (.ref 1), some (.int r1), some (.int r5), none], [], qMM m6 n lm)) rfl (by omega) (T_Re_takeNumber_1 (by first | omega | decide) hf11) ?_
      refine q_ev_eq (S' := (40, [some (.ref 1), some (.int r1), some (.int r5), none], [.int r9], qMM m10 n lm)) rfl ?_
      refine q_ev_run 3 (S' := (44, [some (.ref 1), some (.int r1), some (.int r5), some (.int r9)], [.int (-9), .int r9], qMM m10 n lm)) rfl ?_
      by_cases hc12 : r9 = (-9)
      · rw [if_pos hc12] at h
        refine q_ev_brT hc12 (a := 47) (b := 49) rfl ?_
        refine q_ev_run 1 (S' := (48, [some (.ref 1), some (.int r1), some (.int r5), some (.int r9)], [.int 0], qMM m10 n lm)) rfl ?_
        cases h
        exact q_ev_ret rfl rfl
      · rw [if_neg hc12] at h
        refine q_ev_brF hc12 (a := 47) (b := 49) rfl ?_
        refine q_ev_run 5 (S' := (56, [some (.ref 1), some (.int r1), some (.int r5), some (.int r9)], [.int r9, .int r5, .int r1, .ref 3], qMM m10 n lm)) rfl ?_
        obtain ⟨m13, hf14, h⟩ := Option.bind_eq_some_iff.mp h
        try dsimp only at h
        refine q_ev_call (S' := (59, [some (.ref 1), some (.int r1), some (.int r5), some (.int r9)], [], qMM m10 n lm)) rfl (by omega) (T_La_putFurrow_3 (by first | omega | decide) hf14) ?_
        refine q_ev_eq (S' := (59, [some (.ref 1), some (.int r1), some (.int r5), some (.int r9)], [], qMM m13 n lm)) rfl ?_
        refine q_ev_run 1 (S' := (60, [some (.ref 1), some (.int r1), some (.int r5), some (.int r9)], [.int 1], qMM m13 n lm)) rfl ?_
        cases h
        exact q_ev_ret rfl rfl
noncomputable def F_Re_readHedgehog_1 (m : (Nat → Nat → Int32)) : Option (Int32 × (Nat → Nat → Int32)) :=
  Option.bind (F_Re_takeNumber_1 m 0 15) (fun (r1, m2) =>
    if r1 = (-9) then
      some (0, m2)
    else
      if m2 3 1 < 5 then
        cond (q_in (m2 3 1) 5) (some (1, (q_w (q_w m2 7 (m2 3 1).toNatClampNeg r1) 3 1 (m2 3 1 + 1)))) none
      else
        some (0, m2))
theorem T_Re_readHedgehog_1 {Ln : Nat} {xs : Nat → Int32} {n : (Nat → Nat → Int32)} {lm : Nat → Int64} {d : Nat} (hd : 4 ≤ d) {m : (Nat → Nat → Int32)} {rv : Int32} {m1 : (Nat → Nat → Int32)} (h : F_Re_readHedgehog_1 m = some (rv, m1)) : q_Ev (qXT Ln xs) d 43 (0, [some (.ref 1), none], [], qMM m n lm) (some (.int rv), qMM m1 n lm) := by
  unfold F_Re_readHedgehog_1 at h
  refine q_ev_run 3 (S' := (4, [some (.ref 1), none], [.int 15, .int 0, .ref 1], qMM m n lm)) rfl ?_
  obtain ⟨⟨r1, m2⟩, hf3, h⟩ := Option.bind_eq_some_iff.mp h
  try dsimp only at h
  refine q_ev_call (S' := (7, [some (.ref 1), none], [], qMM m n lm)) rfl (by omega) (T_Re_takeNumber_1 (by first | omega | decide) hf3) ?_
  refine q_ev_eq (S' := (7, [some (.ref 1), none], [.int r1], qMM m2 n lm)) rfl ?_
  refine q_ev_run 3 (S' := (11, [some (.ref 1), some (.int r1)], [.int (-9), .int r1], qMM m2 n lm)) rfl ?_
  by_cases hc4 : r1 = (-9)
  · rw [if_pos hc4] at h
    refine q_ev_brT hc4 (a := 25) (b := 14) rfl ?_
    refine q_ev_run 1 (S' := (26, [some (.ref 1), some (.int r1)], [.int 0], qMM m2 n lm)) rfl ?_
    cases h
    exact q_ev_ret rfl rfl
  · rw [if_neg hc4] at h
    refine q_ev_brF hc4 (a := 25) (b := 14) rfl ?_
    refine q_ev_run 4 (S' := (22, [some (.ref 1), some (.int r1)], [.int 5, .int (m2 3 1)], qMM m2 n lm)) rfl ?_
    by_cases hc5 : m2 3 1 < 5
    · rw [if_pos hc5] at h
      refine q_ev_brT hc5 (a := 27) (b := 25) rfl ?_
      refine q_ev_run 7 (S' := (42, [some (.ref 1), some (.int r1)], [.int r1, .int (m2 3 1), .ref 7], qMM m2 n lm)) rfl ?_
      obtain ⟨hb6, h⟩ := q_cd h
      refine q_ev_chk (b := q_in (m2 3 1) 5) hb6 (S' := (43, [some (.ref 1), some (.int r1)], [], qMM (q_w m2 7 (m2 3 1).toNatClampNeg r1) n lm)) rfl ?_
      refine q_ev_run 8 (S' := (57, [some (.ref 1), some (.int r1)], [.int 1], qMM (q_w (q_w m2 7 (m2 3 1).toNatClampNeg r1) 3 1 (m2 3 1 + 1)) n lm)) rfl ?_
      cases h
      exact q_ev_ret rfl rfl
    · rw [if_neg hc5] at h
      refine q_ev_brF hc5 (a := 27) (b := 25) rfl ?_
      refine q_ev_run 1 (S' := (26, [some (.ref 1), some (.int r1)], [.int 0], qMM m2 n lm)) rfl ?_
      cases h
      exact q_ev_ret rfl rfl
end
