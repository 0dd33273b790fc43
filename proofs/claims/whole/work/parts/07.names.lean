/-- a private method of a class that the tables say can be made, by its rows of tables_1 -/
def lw_okq (q : MethodName × Nat) : Prop := (q.1.cls ≠ "java/lang/invoke/MethodHandle" ∧ q.1.cls ≠ "java/lang/invoke/VarHandle") ∧ Cond.instantiable q.1.cls q.2 ∈ tables_1 ∧ Cond.privateMethod q.1 ∈ tables_1 ∧ Cond.instanceMethod q.1 ∈ tables_1
theorem lw_p0 : lw_okq (⟨"SplitLeaks$Weights", "withGreatestRest", "()I"⟩, 5) := ⟨⟨by decide +kernel, by decide +kernel⟩, List.mem_of_getElem? (i := 72) (by decide +kernel), List.mem_of_getElem? (i := 257) (by decide +kernel), List.mem_of_getElem? (i := 258) (by decide +kernel)⟩
theorem lw_p1 : lw_okq (⟨"SplitLeaks$Splitter", "planPlain", "()V"⟩, 8) := ⟨⟨by decide +kernel, by decide +kernel⟩, List.mem_of_getElem? (i := 101) (by decide +kernel), List.mem_of_getElem? (i := 276) (by decide +kernel), List.mem_of_getElem? (i := 277) (by decide +kernel)⟩
theorem lw_p2 : lw_okq (⟨"SplitLeaks$Splitter", "gatherAll", "()V"⟩, 8) := ⟨⟨by decide +kernel, by decide +kernel⟩, List.mem_of_getElem? (i := 101) (by decide +kernel), List.mem_of_getElem? (i := 280) (by decide +kernel), List.mem_of_getElem? (i := 281) (by decide +kernel)⟩
theorem lw_p3 : lw_okq (⟨"SplitLeaks$Draws", "draw", "(I)I"⟩, 1) := ⟨⟨by decide +kernel, by decide +kernel⟩, List.mem_of_getElem? (i := 107) (by decide +kernel), List.mem_of_getElem? (i := 288) (by decide +kernel), List.mem_of_getElem? (i := 289) (by decide +kernel)⟩
theorem lw_p4 : lw_okq (⟨"SplitLeaks$Splitter", "fillByQuotas", "()V"⟩, 8) := ⟨⟨by decide +kernel, by decide +kernel⟩, List.mem_of_getElem? (i := 101) (by decide +kernel), List.mem_of_getElem? (i := 294) (by decide +kernel), List.mem_of_getElem? (i := 295) (by decide +kernel)⟩
theorem lw_p5 : lw_okq (⟨"SplitLeaks$Splitter", "planGroups", "()V"⟩, 8) := ⟨⟨by decide +kernel, by decide +kernel⟩, List.mem_of_getElem? (i := 101) (by decide +kernel), List.mem_of_getElem? (i := 299) (by decide +kernel), List.mem_of_getElem? (i := 300) (by decide +kernel)⟩
theorem lw_p6 : lw_okq (⟨"SplitLeaks$Splitter", "gatherGroups", "()V"⟩, 8) := ⟨⟨by decide +kernel, by decide +kernel⟩, List.mem_of_getElem? (i := 101) (by decide +kernel), List.mem_of_getElem? (i := 303) (by decide +kernel), List.mem_of_getElem? (i := 304) (by decide +kernel)⟩
theorem lw_p7 : lw_okq (⟨"SplitLeaks$Splitter", "neediestPart", "()I"⟩, 8) := ⟨⟨by decide +kernel, by decide +kernel⟩, List.mem_of_getElem? (i := 101) (by decide +kernel), List.mem_of_getElem? (i := 311) (by decide +kernel), List.mem_of_getElem? (i := 312) (by decide +kernel)⟩
theorem lw_p8 : lw_okq (⟨"SplitLeaks$Splitter", "need", "(I)I"⟩, 8) := ⟨⟨by decide +kernel, by decide +kernel⟩, List.mem_of_getElem? (i := 101) (by decide +kernel), List.mem_of_getElem? (i := 315) (by decide +kernel), List.mem_of_getElem? (i := 316) (by decide +kernel)⟩
theorem lw_p9 : lw_okq (⟨"SplitLeaks$Splitter", "placeGroup", "(II)V"⟩, 8) := ⟨⟨by decide +kernel, by decide +kernel⟩, List.mem_of_getElem? (i := 101) (by decide +kernel), List.mem_of_getElem? (i := 319) (by decide +kernel), List.mem_of_getElem? (i := 320) (by decide +kernel)⟩
theorem lw_p10 : lw_okq (⟨"SplitLeaks$Splitter", "planTimes", "(I)V"⟩, 8) := ⟨⟨by decide +kernel, by decide +kernel⟩, List.mem_of_getElem? (i := 101) (by decide +kernel), List.mem_of_getElem? (i := 323) (by decide +kernel), List.mem_of_getElem? (i := 324) (by decide +kernel)⟩
theorem lw_p11 : lw_okq (⟨"SplitLeaks$Splitter", "sortByTime", "()V"⟩, 8) := ⟨⟨by decide +kernel, by decide +kernel⟩, List.mem_of_getElem? (i := 101) (by decide +kernel), List.mem_of_getElem? (i := 327) (by decide +kernel), List.mem_of_getElem? (i := 328) (by decide +kernel)⟩
theorem lw_p12 : lw_okq (⟨"SplitLeaks$Splitter", "joinLikeTimes", "()V"⟩, 8) := ⟨⟨by decide +kernel, by decide +kernel⟩, List.mem_of_getElem? (i := 101) (by decide +kernel), List.mem_of_getElem? (i := 331) (by decide +kernel), List.mem_of_getElem? (i := 332) (by decide +kernel)⟩
theorem lw_p13 : lw_okq (⟨"SplitLeaks$Splitter", "findLatest", "()V"⟩, 8) := ⟨⟨by decide +kernel, by decide +kernel⟩, List.mem_of_getElem? (i := 101) (by decide +kernel), List.mem_of_getElem? (i := 335) (by decide +kernel), List.mem_of_getElem? (i := 336) (by decide +kernel)⟩
theorem lw_p14 : lw_okq (⟨"SplitLeaks$Splitter", "isInGap", "(II)Z"⟩, 8) := ⟨⟨by decide +kernel, by decide +kernel⟩, List.mem_of_getElem? (i := 101) (by decide +kernel), List.mem_of_getElem? (i := 340) (by decide +kernel), List.mem_of_getElem? (i := 341) (by decide +kernel)⟩
theorem lw_p15 : lw_okq (⟨"SplitLeaks$Splitter", "planLabels", "()V"⟩, 8) := ⟨⟨by decide +kernel, by decide +kernel⟩, List.mem_of_getElem? (i := 101) (by decide +kernel), List.mem_of_getElem? (i := 344) (by decide +kernel), List.mem_of_getElem? (i := 345) (by decide +kernel)⟩
def lw_privs_1 : List (MethodName × Nat) := [(⟨"SplitLeaks$Weights", "withGreatestRest", "()I"⟩, 5), (⟨"SplitLeaks$Splitter", "planPlain", "()V"⟩, 8), (⟨"SplitLeaks$Splitter", "gatherAll", "()V"⟩, 8), (⟨"SplitLeaks$Draws", "draw", "(I)I"⟩, 1), (⟨"SplitLeaks$Splitter", "fillByQuotas", "()V"⟩, 8), (⟨"SplitLeaks$Splitter", "planGroups", "()V"⟩, 8), (⟨"SplitLeaks$Splitter", "gatherGroups", "()V"⟩, 8), (⟨"SplitLeaks$Splitter", "neediestPart", "()I"⟩, 8), (⟨"SplitLeaks$Splitter", "need", "(I)I"⟩, 8), (⟨"SplitLeaks$Splitter", "placeGroup", "(II)V"⟩, 8), (⟨"SplitLeaks$Splitter", "planTimes", "(I)V"⟩, 8), (⟨"SplitLeaks$Splitter", "sortByTime", "()V"⟩, 8), (⟨"SplitLeaks$Splitter", "joinLikeTimes", "()V"⟩, 8), (⟨"SplitLeaks$Splitter", "findLatest", "()V"⟩, 8), (⟨"SplitLeaks$Splitter", "isInGap", "(II)Z"⟩, 8), (⟨"SplitLeaks$Splitter", "planLabels", "()V"⟩, 8)]
theorem lw_r1 : ∀ q ∈ lw_privs_1, lw_okq q := List.forall_mem_cons.mpr ⟨lw_p0, List.forall_mem_cons.mpr ⟨lw_p1, List.forall_mem_cons.mpr ⟨lw_p2, List.forall_mem_cons.mpr ⟨lw_p3, List.forall_mem_cons.mpr ⟨lw_p4, List.forall_mem_cons.mpr ⟨lw_p5, List.forall_mem_cons.mpr ⟨lw_p6, List.forall_mem_cons.mpr ⟨lw_p7, List.forall_mem_cons.mpr ⟨lw_p8, List.forall_mem_cons.mpr ⟨lw_p9, List.forall_mem_cons.mpr ⟨lw_p10, List.forall_mem_cons.mpr ⟨lw_p11, List.forall_mem_cons.mpr ⟨lw_p12, List.forall_mem_cons.mpr ⟨lw_p13, List.forall_mem_cons.mpr ⟨lw_p14, List.forall_mem_cons.mpr ⟨lw_p15, fun _ h => absurd h List.not_mem_nil⟩⟩⟩⟩⟩⟩⟩⟩⟩⟩⟩⟩⟩⟩⟩⟩
theorem lw_p16 : lw_okq (⟨"SplitLeaks$Splitter", "gatherLabel", "(I)V"⟩, 8) := ⟨⟨by decide +kernel, by decide +kernel⟩, List.mem_of_getElem? (i := 101) (by decide +kernel), List.mem_of_getElem? (i := 348) (by decide +kernel), List.mem_of_getElem? (i := 349) (by decide +kernel)⟩
theorem lw_p17 : lw_okq (⟨"SplitLeaks$Splitter", "dealFrom", "(I)I"⟩, 8) := ⟨⟨by decide +kernel, by decide +kernel⟩, List.mem_of_getElem? (i := 101) (by decide +kernel), List.mem_of_getElem? (i := 380) (by decide +kernel), List.mem_of_getElem? (i := 381) (by decide +kernel)⟩
theorem lw_p18 : lw_okq (⟨"SplitLeaks$Splitter", "gatherLabelInside", "(II)V"⟩, 8) := ⟨⟨by decide +kernel, by decide +kernel⟩, List.mem_of_getElem? (i := 101) (by decide +kernel), List.mem_of_getElem? (i := 405) (by decide +kernel), List.mem_of_getElem? (i := 406) (by decide +kernel)⟩
theorem lw_p19 : lw_okq (⟨"SplitLeaks$Finder", "findPairs", "(II)V"⟩, 6) := ⟨⟨by decide +kernel, by decide +kernel⟩, List.mem_of_getElem? (i := 160) (by decide +kernel), List.mem_of_getElem? (i := 458) (by decide +kernel), List.mem_of_getElem? (i := 459) (by decide +kernel)⟩
theorem lw_p20 : lw_okq (⟨"SplitLeaks$Finder", "areNear", "(III)Z"⟩, 6) := ⟨⟨by decide +kernel, by decide +kernel⟩, List.mem_of_getElem? (i := 160) (by decide +kernel), List.mem_of_getElem? (i := 474) (by decide +kernel), List.mem_of_getElem? (i := 475) (by decide +kernel)⟩
theorem lw_p21 : lw_okq (⟨"SplitLeaks$Finder", "take", "(II)V"⟩, 6) := ⟨⟨by decide +kernel, by decide +kernel⟩, List.mem_of_getElem? (i := 160) (by decide +kernel), List.mem_of_getElem? (i := 479) (by decide +kernel), List.mem_of_getElem? (i := 480) (by decide +kernel)⟩
theorem lw_p22 : lw_okq (⟨"SplitLeaks$Finder", "findGroups", "()V"⟩, 6) := ⟨⟨by decide +kernel, by decide +kernel⟩, List.mem_of_getElem? (i := 160) (by decide +kernel), List.mem_of_getElem? (i := 483) (by decide +kernel), List.mem_of_getElem? (i := 484) (by decide +kernel)⟩
theorem lw_p23 : lw_okq (⟨"SplitLeaks$Rows", "hasGroupIn", "(II)Z"⟩, 8) := ⟨⟨by decide +kernel, by decide +kernel⟩, List.mem_of_getElem? (i := 25) (by decide +kernel), List.mem_of_getElem? (i := 491) (by decide +kernel), List.mem_of_getElem? (i := 492) (by decide +kernel)⟩
theorem lw_p24 : lw_okq (⟨"SplitLeaks$Finder", "findLate", "()V"⟩, 6) := ⟨⟨by decide +kernel, by decide +kernel⟩, List.mem_of_getElem? (i := 160) (by decide +kernel), List.mem_of_getElem? (i := 495) (by decide +kernel), List.mem_of_getElem? (i := 496) (by decide +kernel)⟩
theorem lw_p25 : lw_okq (⟨"SplitLeaks$Finder", "earliestOutsideFirstPart", "()I"⟩, 6) := ⟨⟨by decide +kernel, by decide +kernel⟩, List.mem_of_getElem? (i := 160) (by decide +kernel), List.mem_of_getElem? (i := 499) (by decide +kernel), List.mem_of_getElem? (i := 500) (by decide +kernel)⟩
theorem lw_p26 : lw_okq (⟨"SplitLeaks$Finder", "findTelling", "()V"⟩, 6) := ⟨⟨by decide +kernel, by decide +kernel⟩, List.mem_of_getElem? (i := 160) (by decide +kernel), List.mem_of_getElem? (i := 503) (by decide +kernel), List.mem_of_getElem? (i := 504) (by decide +kernel)⟩
theorem lw_p27 : lw_okq (⟨"SplitLeaks$Finder", "tellsLabel", "(I)Z"⟩, 6) := ⟨⟨by decide +kernel, by decide +kernel⟩, List.mem_of_getElem? (i := 160) (by decide +kernel), List.mem_of_getElem? (i := 507) (by decide +kernel), List.mem_of_getElem? (i := 508) (by decide +kernel)⟩
theorem lw_p28 : lw_okq (⟨"SplitLeaks$Finder", "standsWithOtherLabel", "(II)Z"⟩, 6) := ⟨⟨by decide +kernel, by decide +kernel⟩, List.mem_of_getElem? (i := 160) (by decide +kernel), List.mem_of_getElem? (i := 512) (by decide +kernel), List.mem_of_getElem? (i := 513) (by decide +kernel)⟩
theorem lw_p29 : lw_okq (⟨"SplitLeaks$Finder", "standsAgainBehind", "(II)Z"⟩, 6) := ⟨⟨by decide +kernel, by decide +kernel⟩, List.mem_of_getElem? (i := 160) (by decide +kernel), List.mem_of_getElem? (i := 517) (by decide +kernel), List.mem_of_getElem? (i := 518) (by decide +kernel)⟩
theorem lw_p30 : lw_okq (⟨"SplitLeaks$Finder", "countNumbers", "(I)I"⟩, 6) := ⟨⟨by decide +kernel, by decide +kernel⟩, List.mem_of_getElem? (i := 160) (by decide +kernel), List.mem_of_getElem? (i := 521) (by decide +kernel), List.mem_of_getElem? (i := 522) (by decide +kernel)⟩
theorem lw_p31 : lw_okq (⟨"SplitLeaks$Finder", "findFitted", "()V"⟩, 6) := ⟨⟨by decide +kernel, by decide +kernel⟩, List.mem_of_getElem? (i := 160) (by decide +kernel), List.mem_of_getElem? (i := 525) (by decide +kernel), List.mem_of_getElem? (i := 526) (by decide +kernel)⟩
def lw_privs_2 : List (MethodName × Nat) := [(⟨"SplitLeaks$Splitter", "gatherLabel", "(I)V"⟩, 8), (⟨"SplitLeaks$Splitter", "dealFrom", "(I)I"⟩, 8), (⟨"SplitLeaks$Splitter", "gatherLabelInside", "(II)V"⟩, 8), (⟨"SplitLeaks$Finder", "findPairs", "(II)V"⟩, 6), (⟨"SplitLeaks$Finder", "areNear", "(III)Z"⟩, 6), (⟨"SplitLeaks$Finder", "take", "(II)V"⟩, 6), (⟨"SplitLeaks$Finder", "findGroups", "()V"⟩, 6), (⟨"SplitLeaks$Rows", "hasGroupIn", "(II)Z"⟩, 8), (⟨"SplitLeaks$Finder", "findLate", "()V"⟩, 6), (⟨"SplitLeaks$Finder", "earliestOutsideFirstPart", "()I"⟩, 6), (⟨"SplitLeaks$Finder", "findTelling", "()V"⟩, 6), (⟨"SplitLeaks$Finder", "tellsLabel", "(I)Z"⟩, 6), (⟨"SplitLeaks$Finder", "standsWithOtherLabel", "(II)Z"⟩, 6), (⟨"SplitLeaks$Finder", "standsAgainBehind", "(II)Z"⟩, 6), (⟨"SplitLeaks$Finder", "countNumbers", "(I)I"⟩, 6), (⟨"SplitLeaks$Finder", "findFitted", "()V"⟩, 6)]
theorem lw_r2 : ∀ q ∈ lw_privs_2, lw_okq q := List.forall_mem_cons.mpr ⟨lw_p16, List.forall_mem_cons.mpr ⟨lw_p17, List.forall_mem_cons.mpr ⟨lw_p18, List.forall_mem_cons.mpr ⟨lw_p19, List.forall_mem_cons.mpr ⟨lw_p20, List.forall_mem_cons.mpr ⟨lw_p21, List.forall_mem_cons.mpr ⟨lw_p22, List.forall_mem_cons.mpr ⟨lw_p23, List.forall_mem_cons.mpr ⟨lw_p24, List.forall_mem_cons.mpr ⟨lw_p25, List.forall_mem_cons.mpr ⟨lw_p26, List.forall_mem_cons.mpr ⟨lw_p27, List.forall_mem_cons.mpr ⟨lw_p28, List.forall_mem_cons.mpr ⟨lw_p29, List.forall_mem_cons.mpr ⟨lw_p30, List.forall_mem_cons.mpr ⟨lw_p31, fun _ h => absurd h List.not_mem_nil⟩⟩⟩⟩⟩⟩⟩⟩⟩⟩⟩⟩⟩⟩⟩⟩
theorem lw_p32 : lw_okq (⟨"SplitLeaks$Rows", "digestOf", "(I)I"⟩, 8) := ⟨⟨by decide +kernel, by decide +kernel⟩, List.mem_of_getElem? (i := 25) (by decide +kernel), List.mem_of_getElem? (i := 546) (by decide +kernel), List.mem_of_getElem? (i := 547) (by decide +kernel)⟩
theorem lw_p33 : lw_okq (⟨"SplitLeaks$Rows", "countMeetingsBehind", "(I)I"⟩, 8) := ⟨⟨by decide +kernel, by decide +kernel⟩, List.mem_of_getElem? (i := 25) (by decide +kernel), List.mem_of_getElem? (i := 553) (by decide +kernel), List.mem_of_getElem? (i := 554) (by decide +kernel)⟩
theorem lw_p34 : lw_okq (⟨"java/lang/Throwable", "fillInStackTrace", "(I)Ljava/lang/Throwable;"⟩, 6) := ⟨⟨by decide +kernel, by decide +kernel⟩, List.mem_of_getElem? (i := 618) (by decide +kernel), List.mem_of_getElem? (i := 616) (by decide +kernel), List.mem_of_getElem? (i := 617) (by decide +kernel)⟩
theorem lw_p35 : lw_okq (⟨"SplitLeaksModel", "isRow", "(I)Z"⟩, 24) := ⟨⟨by decide +kernel, by decide +kernel⟩, List.mem_of_getElem? (i := 684) (by decide +kernel), List.mem_of_getElem? (i := 779) (by decide +kernel), List.mem_of_getElem? (i := 780) (by decide +kernel)⟩
theorem lw_p36 : lw_okq (⟨"SplitLeaksModel", "quotasOf", "(I)V"⟩, 24) := ⟨⟨by decide +kernel, by decide +kernel⟩, List.mem_of_getElem? (i := 684) (by decide +kernel), List.mem_of_getElem? (i := 799) (by decide +kernel), List.mem_of_getElem? (i := 800) (by decide +kernel)⟩
theorem lw_p37 : lw_okq (⟨"SplitLeaksModel", "deal", "(IJI)Z"⟩, 24) := ⟨⟨by decide +kernel, by decide +kernel⟩, List.mem_of_getElem? (i := 684) (by decide +kernel), List.mem_of_getElem? (i := 807) (by decide +kernel), List.mem_of_getElem? (i := 808) (by decide +kernel)⟩
theorem lw_p38 : lw_okq (⟨"SplitLeaksModel", "plain", "()V"⟩, 24) := ⟨⟨by decide +kernel, by decide +kernel⟩, List.mem_of_getElem? (i := 684) (by decide +kernel), List.mem_of_getElem? (i := 811) (by decide +kernel), List.mem_of_getElem? (i := 812) (by decide +kernel)⟩
theorem lw_p39 : lw_okq (⟨"SplitLeaksModel", "shuffle", "()V"⟩, 24) := ⟨⟨by decide +kernel, by decide +kernel⟩, List.mem_of_getElem? (i := 684) (by decide +kernel), List.mem_of_getElem? (i := 815) (by decide +kernel), List.mem_of_getElem? (i := 816) (by decide +kernel)⟩
theorem lw_p40 : lw_okq (⟨"SplitLeaksModel", "draw", "(I)I"⟩, 24) := ⟨⟨by decide +kernel, by decide +kernel⟩, List.mem_of_getElem? (i := 684) (by decide +kernel), List.mem_of_getElem? (i := 819) (by decide +kernel), List.mem_of_getElem? (i := 820) (by decide +kernel)⟩
theorem lw_p41 : lw_okq (⟨"SplitLeaksModel", "give", "()V"⟩, 24) := ⟨⟨by decide +kernel, by decide +kernel⟩, List.mem_of_getElem? (i := 684) (by decide +kernel), List.mem_of_getElem? (i := 825) (by decide +kernel), List.mem_of_getElem? (i := 826) (by decide +kernel)⟩
theorem lw_p42 : lw_okq (⟨"SplitLeaksModel", "byGroups", "()V"⟩, 24) := ⟨⟨by decide +kernel, by decide +kernel⟩, List.mem_of_getElem? (i := 684) (by decide +kernel), List.mem_of_getElem? (i := 829) (by decide +kernel), List.mem_of_getElem? (i := 830) (by decide +kernel)⟩
theorem lw_p43 : lw_okq (⟨"SplitLeaksModel", "byTimes", "(I)V"⟩, 24) := ⟨⟨by decide +kernel, by decide +kernel⟩, List.mem_of_getElem? (i := 684) (by decide +kernel), List.mem_of_getElem? (i := 833) (by decide +kernel), List.mem_of_getElem? (i := 834) (by decide +kernel)⟩
theorem lw_p44 : lw_okq (⟨"SplitLeaksModel", "ofLabel", "(IZ)V"⟩, 24) := ⟨⟨by decide +kernel, by decide +kernel⟩, List.mem_of_getElem? (i := 684) (by decide +kernel), List.mem_of_getElem? (i := 837) (by decide +kernel), List.mem_of_getElem? (i := 838) (by decide +kernel)⟩
theorem lw_p45 : lw_okq (⟨"SplitLeaksModel", "take", "()I"⟩, 24) := ⟨⟨by decide +kernel, by decide +kernel⟩, List.mem_of_getElem? (i := 684) (by decide +kernel), List.mem_of_getElem? (i := 841) (by decide +kernel), List.mem_of_getElem? (i := 842) (by decide +kernel)⟩
theorem lw_p46 : lw_okq (⟨"SplitLeaksModel", "round", "(IZ)I"⟩, 24) := ⟨⟨by decide +kernel, by decide +kernel⟩, List.mem_of_getElem? (i := 684) (by decide +kernel), List.mem_of_getElem? (i := 853) (by decide +kernel), List.mem_of_getElem? (i := 854) (by decide +kernel)⟩
theorem lw_p47 : lw_okq (⟨"SplitLeaksModel", "look", "(II)V"⟩, 24) := ⟨⟨by decide +kernel, by decide +kernel⟩, List.mem_of_getElem? (i := 684) (by decide +kernel), List.mem_of_getElem? (i := 894) (by decide +kernel), List.mem_of_getElem? (i := 895) (by decide +kernel)⟩
def lw_privs_3 : List (MethodName × Nat) := [(⟨"SplitLeaks$Rows", "digestOf", "(I)I"⟩, 8), (⟨"SplitLeaks$Rows", "countMeetingsBehind", "(I)I"⟩, 8), (⟨"java/lang/Throwable", "fillInStackTrace", "(I)Ljava/lang/Throwable;"⟩, 6), (⟨"SplitLeaksModel", "isRow", "(I)Z"⟩, 24), (⟨"SplitLeaksModel", "quotasOf", "(I)V"⟩, 24), (⟨"SplitLeaksModel", "deal", "(IJI)Z"⟩, 24), (⟨"SplitLeaksModel", "plain", "()V"⟩, 24), (⟨"SplitLeaksModel", "shuffle", "()V"⟩, 24), (⟨"SplitLeaksModel", "draw", "(I)I"⟩, 24), (⟨"SplitLeaksModel", "give", "()V"⟩, 24), (⟨"SplitLeaksModel", "byGroups", "()V"⟩, 24), (⟨"SplitLeaksModel", "byTimes", "(I)V"⟩, 24), (⟨"SplitLeaksModel", "ofLabel", "(IZ)V"⟩, 24), (⟨"SplitLeaksModel", "take", "()I"⟩, 24), (⟨"SplitLeaksModel", "round", "(IZ)I"⟩, 24), (⟨"SplitLeaksModel", "look", "(II)V"⟩, 24)]
theorem lw_r3 : ∀ q ∈ lw_privs_3, lw_okq q := List.forall_mem_cons.mpr ⟨lw_p32, List.forall_mem_cons.mpr ⟨lw_p33, List.forall_mem_cons.mpr ⟨lw_p34, List.forall_mem_cons.mpr ⟨lw_p35, List.forall_mem_cons.mpr ⟨lw_p36, List.forall_mem_cons.mpr ⟨lw_p37, List.forall_mem_cons.mpr ⟨lw_p38, List.forall_mem_cons.mpr ⟨lw_p39, List.forall_mem_cons.mpr ⟨lw_p40, List.forall_mem_cons.mpr ⟨lw_p41, List.forall_mem_cons.mpr ⟨lw_p42, List.forall_mem_cons.mpr ⟨lw_p43, List.forall_mem_cons.mpr ⟨lw_p44, List.forall_mem_cons.mpr ⟨lw_p45, List.forall_mem_cons.mpr ⟨lw_p46, List.forall_mem_cons.mpr ⟨lw_p47, fun _ h => absurd h List.not_mem_nil⟩⟩⟩⟩⟩⟩⟩⟩⟩⟩⟩⟩⟩⟩⟩⟩
theorem lw_p48 : lw_okq (⟨"SplitLeaksModel", "pairs", "(ZI)V"⟩, 24) := ⟨⟨by decide +kernel, by decide +kernel⟩, List.mem_of_getElem? (i := 684) (by decide +kernel), List.mem_of_getElem? (i := 898) (by decide +kernel), List.mem_of_getElem? (i := 899) (by decide +kernel)⟩
theorem lw_p49 : lw_okq (⟨"SplitLeaksModel", "areApart", "(II)Z"⟩, 24) := ⟨⟨by decide +kernel, by decide +kernel⟩, List.mem_of_getElem? (i := 684) (by decide +kernel), List.mem_of_getElem? (i := 902) (by decide +kernel), List.mem_of_getElem? (i := 903) (by decide +kernel)⟩
theorem lw_p50 : lw_okq (⟨"SplitLeaksModel", "isEqual", "(II)Z"⟩, 24) := ⟨⟨by decide +kernel, by decide +kernel⟩, List.mem_of_getElem? (i := 684) (by decide +kernel), List.mem_of_getElem? (i := 906) (by decide +kernel), List.mem_of_getElem? (i := 907) (by decide +kernel)⟩
theorem lw_p51 : lw_okq (⟨"SplitLeaksModel", "areNear", "(II)Z"⟩, 24) := ⟨⟨by decide +kernel, by decide +kernel⟩, List.mem_of_getElem? (i := 684) (by decide +kernel), List.mem_of_getElem? (i := 910) (by decide +kernel), List.mem_of_getElem? (i := 911) (by decide +kernel)⟩
theorem lw_p52 : lw_okq (⟨"SplitLeaksModel", "tell", "(III)V"⟩, 24) := ⟨⟨by decide +kernel, by decide +kernel⟩, List.mem_of_getElem? (i := 684) (by decide +kernel), List.mem_of_getElem? (i := 914) (by decide +kernel), List.mem_of_getElem? (i := 915) (by decide +kernel)⟩
theorem lw_p53 : lw_okq (⟨"SplitLeaksModel", "groups", "(I)V"⟩, 24) := ⟨⟨by decide +kernel, by decide +kernel⟩, List.mem_of_getElem? (i := 684) (by decide +kernel), List.mem_of_getElem? (i := 918) (by decide +kernel), List.mem_of_getElem? (i := 919) (by decide +kernel)⟩
theorem lw_p54 : lw_okq (⟨"SplitLeaksModel", "late", "(I)V"⟩, 24) := ⟨⟨by decide +kernel, by decide +kernel⟩, List.mem_of_getElem? (i := 684) (by decide +kernel), List.mem_of_getElem? (i := 922) (by decide +kernel), List.mem_of_getElem? (i := 923) (by decide +kernel)⟩
theorem lw_p55 : lw_okq (⟨"SplitLeaksModel", "columns", "(I)V"⟩, 24) := ⟨⟨by decide +kernel, by decide +kernel⟩, List.mem_of_getElem? (i := 684) (by decide +kernel), List.mem_of_getElem? (i := 926) (by decide +kernel), List.mem_of_getElem? (i := 927) (by decide +kernel)⟩
theorem lw_p56 : lw_okq (⟨"SplitLeaksModel", "steps", "(I)V"⟩, 24) := ⟨⟨by decide +kernel, by decide +kernel⟩, List.mem_of_getElem? (i := 684) (by decide +kernel), List.mem_of_getElem? (i := 930) (by decide +kernel), List.mem_of_getElem? (i := 931) (by decide +kernel)⟩
theorem lw_p57 : lw_okq (⟨"SplitLeaksModel", "digest", "(I)I"⟩, 24) := ⟨⟨by decide +kernel, by decide +kernel⟩, List.mem_of_getElem? (i := 684) (by decide +kernel), List.mem_of_getElem? (i := 942) (by decide +kernel), List.mem_of_getElem? (i := 943) (by decide +kernel)⟩
def lw_privs_4 : List (MethodName × Nat) := [(⟨"SplitLeaksModel", "pairs", "(ZI)V"⟩, 24), (⟨"SplitLeaksModel", "areApart", "(II)Z"⟩, 24), (⟨"SplitLeaksModel", "isEqual", "(II)Z"⟩, 24), (⟨"SplitLeaksModel", "areNear", "(II)Z"⟩, 24), (⟨"SplitLeaksModel", "tell", "(III)V"⟩, 24), (⟨"SplitLeaksModel", "groups", "(I)V"⟩, 24), (⟨"SplitLeaksModel", "late", "(I)V"⟩, 24), (⟨"SplitLeaksModel", "columns", "(I)V"⟩, 24), (⟨"SplitLeaksModel", "steps", "(I)V"⟩, 24), (⟨"SplitLeaksModel", "digest", "(I)I"⟩, 24)]
theorem lw_r4 : ∀ q ∈ lw_privs_4, lw_okq q := List.forall_mem_cons.mpr ⟨lw_p48, List.forall_mem_cons.mpr ⟨lw_p49, List.forall_mem_cons.mpr ⟨lw_p50, List.forall_mem_cons.mpr ⟨lw_p51, List.forall_mem_cons.mpr ⟨lw_p52, List.forall_mem_cons.mpr ⟨lw_p53, List.forall_mem_cons.mpr ⟨lw_p54, List.forall_mem_cons.mpr ⟨lw_p55, List.forall_mem_cons.mpr ⟨lw_p56, List.forall_mem_cons.mpr ⟨lw_p57, fun _ h => absurd h List.not_mem_nil⟩⟩⟩⟩⟩⟩⟩⟩⟩⟩
def lw_privs : List (MethodName × Nat) := lw_privs_1 ++ (lw_privs_2 ++ (lw_privs_3 ++ (lw_privs_4)))
def lw_tbl : List Cond := k2_sels lw_privs ++ tables_1
theorem lw_privs_ok : ∀ q ∈ lw_privs, lw_okq q := by
  show ∀ q ∈ lw_privs_1 ++ (lw_privs_2 ++ (lw_privs_3 ++ (lw_privs_4))), lw_okq q
  exact List.forall_mem_append.mpr ⟨lw_r1, List.forall_mem_append.mpr ⟨lw_r2, List.forall_mem_append.mpr ⟨lw_r3, lw_r4⟩⟩⟩
def RX0 : String := "SplitLeaks$Draws"
def TX0 : u_T := fun k => match k with
  | _ => ("SplitLeaks$Draws", "z", "J", false)
def tyX0 : Nat → FieldType := fun k => match k with
  | _ => .long
abbrev wsX00 : List Cond := u_ws RX0 TX0 1
theorem nmX0 : ∀ a, a < 1 → ∀ b, b < 1 → a ≠ b → (TX0 a).2.1 ≠ (TX0 b).2.1 := by decide +kernel
theorem tyX0_ok : ∀ k, k < 1 → parseFieldDescriptor (TX0 k).2.2.1 = some (tyX0 k) := by decide +kernel
abbrev cX0_init : ByteArray := prog_2_method_1_code
def yX0_init : MethodName := ⟨RX0, "<init>", "()V"⟩
abbrev cX0_start : ByteArray := prog_2_method_2_code
def yX0_start : MethodName := ⟨RX0, "start", "(J)V"⟩
abbrev cX0_shuffle : ByteArray := prog_2_method_3_code
def yX0_shuffle : MethodName := ⟨RX0, "shuffle", "([II)V"⟩
abbrev cX0_draw : ByteArray := prog_2_method_4_code
def yX0_draw : MethodName := ⟨RX0, "draw", "(I)I"⟩
def RX1 : String := "SplitLeaks$Finder"
def TX1 : u_T := fun k => match k with
  | 0 => ("SplitLeaks$Finder", "rows", "LSplitLeaks$Rows;", true)
  | 1 => ("SplitLeaks$Finder", "steps", "LSplitLeaks$Steps;", true)
  | 2 => ("SplitLeaks$Finder", "wanted", "I", false)
  | 3 => ("SplitLeaks$Finder", "found", "I", false)
  | 4 => ("SplitLeaks$Finder", "first", "I", false)
  | _ => ("SplitLeaks$Finder", "second", "I", false)
def tyX1 : Nat → FieldType := fun k => match k with
  | 0 => .object "SplitLeaks$Rows"
  | 1 => .object "SplitLeaks$Steps"
  | 2 => .int
  | 3 => .int
  | 4 => .int
  | _ => .int
abbrev wsX10 : List Cond := u_ws RX1 TX1 6
theorem nmX1 : ∀ a, a < 6 → ∀ b, b < 6 → a ≠ b → (TX1 a).2.1 ≠ (TX1 b).2.1 := by decide +kernel
theorem tyX1_ok : ∀ k, k < 6 → parseFieldDescriptor (TX1 k).2.2.1 = some (tyX1 k) := by decide +kernel
abbrev cX1_init : ByteArray := prog_3_method_1_code
def yX1_init : MethodName := ⟨RX1, "<init>", "(LSplitLeaks$Rows;LSplitLeaks$Steps;)V"⟩
abbrev cX1_search : ByteArray := prog_3_method_2_code
def yX1_search : MethodName := ⟨RX1, "search", "(III)I"⟩
abbrev cX1_take : ByteArray := prog_3_method_3_code
def yX1_take : MethodName := ⟨RX1, "take", "(II)V"⟩
abbrev cX1_findPairs : ByteArray := prog_3_method_4_code
def yX1_findPairs : MethodName := ⟨RX1, "findPairs", "(II)V"⟩
abbrev cX1_areNear : ByteArray := prog_3_method_5_code
def yX1_areNear : MethodName := ⟨RX1, "areNear", "(III)Z"⟩
abbrev cX1_findGroups : ByteArray := prog_3_method_6_code
def yX1_findGroups : MethodName := ⟨RX1, "findGroups", "()V"⟩
abbrev cX1_findLate : ByteArray := prog_3_method_7_code
def yX1_findLate : MethodName := ⟨RX1, "findLate", "()V"⟩
abbrev cX1_earliestOutsideFirstPart : ByteArray := prog_3_method_8_code
def yX1_earliestOutsideFirstPart : MethodName := ⟨RX1, "earliestOutsideFirstPart", "()I"⟩
abbrev cX1_findTelling : ByteArray := prog_3_method_9_code
def yX1_findTelling : MethodName := ⟨RX1, "findTelling", "()V"⟩
abbrev cX1_tellsLabel : ByteArray := prog_3_method_10_code
def yX1_tellsLabel : MethodName := ⟨RX1, "tellsLabel", "(I)Z"⟩
abbrev cX1_standsWithOtherLabel : ByteArray := prog_3_method_11_code
def yX1_standsWithOtherLabel : MethodName := ⟨RX1, "standsWithOtherLabel", "(II)Z"⟩
abbrev cX1_standsAgainBehind : ByteArray := prog_3_method_12_code
def yX1_standsAgainBehind : MethodName := ⟨RX1, "standsAgainBehind", "(II)Z"⟩
abbrev cX1_countNumbers : ByteArray := prog_3_method_13_code
def yX1_countNumbers : MethodName := ⟨RX1, "countNumbers", "(I)I"⟩
abbrev cX1_findFitted : ByteArray := prog_3_method_14_code
def yX1_findFitted : MethodName := ⟨RX1, "findFitted", "()V"⟩
def RX2 : String := "SplitLeaks$Rows"
def TX2 : u_T := fun k => match k with
  | 0 => ("SplitLeaks$Rows", "count", "I", false)
  | 1 => ("SplitLeaks$Rows", "group", "[I", true)
  | 2 => ("SplitLeaks$Rows", "label", "[I", true)
  | 3 => ("SplitLeaks$Rows", "time", "[I", true)
  | 4 => ("SplitLeaks$Rows", "part", "[I", true)
  | 5 => ("SplitLeaks$Rows", "number", "[J", true)
  | 6 => ("SplitLeaks$Rows", "words", "[J", true)
  | _ => ("SplitLeaks$Rows", "digests", "[I", true)
def tyX2 : Nat → FieldType := fun k => match k with
  | 0 => .int
  | 1 => .array .int
  | 2 => .array .int
  | 3 => .array .int
  | 4 => .array .int
  | 5 => .array .long
  | 6 => .array .long
  | _ => .array .int
abbrev wsX20 : List Cond := u_ws RX2 TX2 8
theorem nmX2 : ∀ a, a < 8 → ∀ b, b < 8 → a ≠ b → (TX2 a).2.1 ≠ (TX2 b).2.1 := by decide +kernel
theorem tyX2_ok : ∀ k, k < 8 → parseFieldDescriptor (TX2 k).2.2.1 = some (tyX2 k) := by decide +kernel
abbrev cX2_init : ByteArray := prog_4_method_1_code
def yX2_init : MethodName := ⟨RX2, "<init>", "()V"⟩
abbrev cX2_has : ByteArray := prog_4_method_2_code
def yX2_has : MethodName := ⟨RX2, "has", "(I)Z"⟩
abbrev cX2_append : ByteArray := prog_4_method_3_code
def yX2_append : MethodName := ⟨RX2, "append", "(III)I"⟩
abbrev cX2_isPlaced : ByteArray := prog_4_method_4_code
def yX2_isPlaced : MethodName := ⟨RX2, "isPlaced", "(I)Z"⟩
abbrev cX2_areParted : ByteArray := prog_4_method_5_code
def yX2_areParted : MethodName := ⟨RX2, "areParted", "(II)Z"⟩
abbrev cX2_haveSameNumber : ByteArray := prog_4_method_6_code
def yX2_haveSameNumber : MethodName := ⟨RX2, "haveSameNumber", "(III)Z"⟩
abbrev cX2_areAlike : ByteArray := prog_4_method_7_code
def yX2_areAlike : MethodName := ⟨RX2, "areAlike", "(II)Z"⟩
abbrev cX2_countPlaced : ByteArray := prog_4_method_8_code
def yX2_countPlaced : MethodName := ⟨RX2, "countPlaced", "()I"⟩
abbrev cX2_countIn : ByteArray := prog_4_method_9_code
def yX2_countIn : MethodName := ⟨RX2, "countIn", "(II)I"⟩
abbrev cX2_countPlacedOfLabel : ByteArray := prog_4_method_10_code
def yX2_countPlacedOfLabel : MethodName := ⟨RX2, "countPlacedOfLabel", "(I)I"⟩
abbrev cX2_countPlacedLabelsBelow : ByteArray := prog_4_method_11_code
def yX2_countPlacedLabelsBelow : MethodName := ⟨RX2, "countPlacedLabelsBelow", "(I)I"⟩
abbrev cX2_countOfGroup : ByteArray := prog_4_method_12_code
def yX2_countOfGroup : MethodName := ⟨RX2, "countOfGroup", "(I)I"⟩
abbrev cX2_firstOfGroup : ByteArray := prog_4_method_13_code
def yX2_firstOfGroup : MethodName := ⟨RX2, "firstOfGroup", "(I)I"⟩
abbrev cX2_countPartsOfGroup : ByteArray := prog_4_method_14_code
def yX2_countPartsOfGroup : MethodName := ⟨RX2, "countPartsOfGroup", "(I)I"⟩
abbrev cX2_hasGroupIn : ByteArray := prog_4_method_15_code
def yX2_hasGroupIn : MethodName := ⟨RX2, "hasGroupIn", "(II)Z"⟩
abbrev cX2_countMeetings : ByteArray := prog_4_method_16_code
def yX2_countMeetings : MethodName := ⟨RX2, "countMeetings", "()I"⟩
abbrev cX2_countMeetingsBehind : ByteArray := prog_4_method_17_code
def yX2_countMeetingsBehind : MethodName := ⟨RX2, "countMeetingsBehind", "(I)I"⟩
abbrev cX2_digestOf : ByteArray := prog_4_method_18_code
def yX2_digestOf : MethodName := ⟨RX2, "digestOf", "(I)I"⟩
def RX3 : String := "SplitLeaks$Splitter"
def TX3 : u_T := fun k => match k with
  | 0 => ("SplitLeaks$Splitter", "rows", "LSplitLeaks$Rows;", true)
  | 1 => ("SplitLeaks$Splitter", "weights", "LSplitLeaks$Weights;", true)
  | 2 => ("SplitLeaks$Splitter", "draws", "LSplitLeaks$Draws;", true)
  | 3 => ("SplitLeaks$Splitter", "planned", "[I", true)
  | 4 => ("SplitLeaks$Splitter", "order", "[I", true)
  | 5 => ("SplitLeaks$Splitter", "length", "I", false)
  | 6 => ("SplitLeaks$Splitter", "held", "[I", true)
  | _ => ("SplitLeaks$Splitter", "latest", "[I", true)
def tyX3 : Nat → FieldType := fun k => match k with
  | 0 => .object "SplitLeaks$Rows"
  | 1 => .object "SplitLeaks$Weights"
  | 2 => .object "SplitLeaks$Draws"
  | 3 => .array .int
  | 4 => .array .int
  | 5 => .int
  | 6 => .array .int
  | _ => .array .int
abbrev wsX30 : List Cond := u_ws RX3 TX3 8
theorem nmX3 : ∀ a, a < 8 → ∀ b, b < 8 → a ≠ b → (TX3 a).2.1 ≠ (TX3 b).2.1 := by decide +kernel
theorem tyX3_ok : ∀ k, k < 8 → parseFieldDescriptor (TX3 k).2.2.1 = some (tyX3 k) := by decide +kernel
abbrev cX3_init : ByteArray := prog_5_method_1_code
def yX3_init : MethodName := ⟨RX3, "<init>", "(LSplitLeaks$Rows;LSplitLeaks$Weights;)V"⟩
abbrev cX3_settle : ByteArray := prog_5_method_2_code
def yX3_settle : MethodName := ⟨RX3, "settle", "()V"⟩
abbrev cX3_isSettled : ByteArray := prog_5_method_3_code
def yX3_isSettled : MethodName := ⟨RX3, "isSettled", "()Z"⟩
abbrev cX3_plan : ByteArray := prog_5_method_4_code
def yX3_plan : MethodName := ⟨RX3, "plan", "(IJI)V"⟩
abbrev cX3_planFolds : ByteArray := prog_5_method_5_code
def yX3_planFolds : MethodName := ⟨RX3, "planFolds", "(J)V"⟩
abbrev cX3_planNested : ByteArray := prog_5_method_6_code
def yX3_planNested : MethodName := ⟨RX3, "planNested", "(IJ)V"⟩
abbrev cX3_planPlain : ByteArray := prog_5_method_7_code
def yX3_planPlain : MethodName := ⟨RX3, "planPlain", "()V"⟩
abbrev cX3_planLabels : ByteArray := prog_5_method_8_code
def yX3_planLabels : MethodName := ⟨RX3, "planLabels", "()V"⟩
abbrev cX3_planGroups : ByteArray := prog_5_method_9_code
def yX3_planGroups : MethodName := ⟨RX3, "planGroups", "()V"⟩
abbrev cX3_planTimes : ByteArray := prog_5_method_10_code
def yX3_planTimes : MethodName := ⟨RX3, "planTimes", "(I)V"⟩
abbrev cX3_gatherAll : ByteArray := prog_5_method_11_code
def yX3_gatherAll : MethodName := ⟨RX3, "gatherAll", "()V"⟩
abbrev cX3_gatherLabel : ByteArray := prog_5_method_12_code
def yX3_gatherLabel : MethodName := ⟨RX3, "gatherLabel", "(I)V"⟩
abbrev cX3_gatherLabelInside : ByteArray := prog_5_method_13_code
def yX3_gatherLabelInside : MethodName := ⟨RX3, "gatherLabelInside", "(II)V"⟩
abbrev cX3_gatherGroups : ByteArray := prog_5_method_14_code
def yX3_gatherGroups : MethodName := ⟨RX3, "gatherGroups", "()V"⟩
abbrev cX3_fillByQuotas : ByteArray := prog_5_method_15_code
def yX3_fillByQuotas : MethodName := ⟨RX3, "fillByQuotas", "()V"⟩
abbrev cX3_dealFrom : ByteArray := prog_5_method_16_code
def yX3_dealFrom : MethodName := ⟨RX3, "dealFrom", "(I)I"⟩
abbrev cX3_neediestPart : ByteArray := prog_5_method_17_code
def yX3_neediestPart : MethodName := ⟨RX3, "neediestPart", "()I"⟩
abbrev cX3_need : ByteArray := prog_5_method_18_code
def yX3_need : MethodName := ⟨RX3, "need", "(I)I"⟩
abbrev cX3_placeGroup : ByteArray := prog_5_method_19_code
def yX3_placeGroup : MethodName := ⟨RX3, "placeGroup", "(II)V"⟩
abbrev cX3_sortByTime : ByteArray := prog_5_method_20_code
def yX3_sortByTime : MethodName := ⟨RX3, "sortByTime", "()V"⟩
abbrev cX3_joinLikeTimes : ByteArray := prog_5_method_21_code
def yX3_joinLikeTimes : MethodName := ⟨RX3, "joinLikeTimes", "()V"⟩
abbrev cX3_findLatest : ByteArray := prog_5_method_22_code
def yX3_findLatest : MethodName := ⟨RX3, "findLatest", "()V"⟩
abbrev cX3_isInGap : ByteArray := prog_5_method_23_code
def yX3_isInGap : MethodName := ⟨RX3, "isInGap", "(II)Z"⟩
def RX4 : String := "SplitLeaks$Steps"
def TX4 : u_T := fun k => match k with
  | 0 => ("SplitLeaks$Steps", "goesBy", "[I", true)
  | 1 => ("SplitLeaks$Steps", "size", "[I", true)
  | _ => ("SplitLeaks$Steps", "fitted", "[Z", true)
def tyX4 : Nat → FieldType := fun k => match k with
  | 0 => .array .int
  | 1 => .array .int
  | _ => .array .boolean
abbrev wsX40 : List Cond := u_ws RX4 TX4 3
theorem nmX4 : ∀ a, a < 3 → ∀ b, b < 3 → a ≠ b → (TX4 a).2.1 ≠ (TX4 b).2.1 := by decide +kernel
theorem tyX4_ok : ∀ k, k < 3 → parseFieldDescriptor (TX4 k).2.2.1 = some (tyX4 k) := by decide +kernel
abbrev cX4_init : ByteArray := prog_6_method_1_code
def yX4_init : MethodName := ⟨RX4, "<init>", "()V"⟩
abbrev cX4_isFittedItself : ByteArray := prog_6_method_2_code
def yX4_isFittedItself : MethodName := ⟨RX4, "isFittedItself", "(II)Z"⟩
abbrev cX4_addRow : ByteArray := prog_6_method_3_code
def yX4_addRow : MethodName := ⟨RX4, "addRow", "(II)I"⟩
abbrev cX4_isFitted : ByteArray := prog_6_method_4_code
def yX4_isFitted : MethodName := ⟨RX4, "isFitted", "(II)Z"⟩
def RX5 : String := "SplitLeaks$Weights"
def TX5 : u_T := fun k => match k with
  | 0 => ("SplitLeaks$Weights", "count", "I", false)
  | 1 => ("SplitLeaks$Weights", "sum", "I", false)
  | 2 => ("SplitLeaks$Weights", "weight", "[I", true)
  | 3 => ("SplitLeaks$Weights", "quotas", "[I", true)
  | _ => ("SplitLeaks$Weights", "rests", "[I", true)
def tyX5 : Nat → FieldType := fun k => match k with
  | 0 => .int
  | 1 => .int
  | 2 => .array .int
  | 3 => .array .int
  | _ => .array .int
abbrev wsX50 : List Cond := u_ws RX5 TX5 5
theorem nmX5 : ∀ a, a < 5 → ∀ b, b < 5 → a ≠ b → (TX5 a).2.1 ≠ (TX5 b).2.1 := by decide +kernel
theorem tyX5_ok : ∀ k, k < 5 → parseFieldDescriptor (TX5 k).2.2.1 = some (tyX5 k) := by decide +kernel
abbrev cX5_init : ByteArray := prog_7_method_1_code
def yX5_init : MethodName := ⟨RX5, "<init>", "()V"⟩
abbrev cX5_become : ByteArray := prog_7_method_2_code
def yX5_become : MethodName := ⟨RX5, "become", "(IIIII)V"⟩
abbrev cX5_becomeEven : ByteArray := prog_7_method_3_code
def yX5_becomeEven : MethodName := ⟨RX5, "becomeEven", "(I)V"⟩
abbrev cX5_apportion : ByteArray := prog_7_method_4_code
def yX5_apportion : MethodName := ⟨RX5, "apportion", "(I)V"⟩
abbrev cX5_withGreatestRest : ByteArray := prog_7_method_5_code
def yX5_withGreatestRest : MethodName := ⟨RX5, "withGreatestRest", "()I"⟩
def RX6 : String := "SplitLeaks"
def TX6 : u_T := fun k => match k with
  | 0 => ("SplitLeaks", "rows", "LSplitLeaks$Rows;", true)
  | 1 => ("SplitLeaks", "weights", "LSplitLeaks$Weights;", true)
  | 2 => ("SplitLeaks", "splitter", "LSplitLeaks$Splitter;", true)
  | 3 => ("SplitLeaks", "steps", "LSplitLeaks$Steps;", true)
  | 4 => ("SplitLeaks", "finder", "LSplitLeaks$Finder;", true)
  | _ => ("SplitLeaks", "nearness", "I", false)
def tyX6 : Nat → FieldType := fun k => match k with
  | 0 => .object "SplitLeaks$Rows"
  | 1 => .object "SplitLeaks$Weights"
  | 2 => .object "SplitLeaks$Splitter"
  | 3 => .object "SplitLeaks$Steps"
  | 4 => .object "SplitLeaks$Finder"
  | _ => .int
abbrev wsX60 : List Cond := u_ws RX6 TX6 6
theorem nmX6 : ∀ a, a < 6 → ∀ b, b < 6 → a ≠ b → (TX6 a).2.1 ≠ (TX6 b).2.1 := by decide +kernel
theorem tyX6_ok : ∀ k, k < 6 → parseFieldDescriptor (TX6 k).2.2.1 = some (tyX6 k) := by decide +kernel
abbrev cX6_init : ByteArray := prog_1_method_1_code
def yX6_init : MethodName := ⟨RX6, "<init>", "()V"⟩
abbrev cX6_row : ByteArray := prog_1_method_2_code
def yX6_row : MethodName := ⟨RX6, "row", "(III)I"⟩
abbrev cX6_column : ByteArray := prog_1_method_3_code
def yX6_column : MethodName := ⟨RX6, "column", "(IIJ)I"⟩
abbrev cX6_word : ByteArray := prog_1_method_4_code
def yX6_word : MethodName := ⟨RX6, "word", "(IIZ)I"⟩
abbrev cX6_parts : ByteArray := prog_1_method_5_code
def yX6_parts : MethodName := ⟨RX6, "parts", "(IIIII)I"⟩
abbrev cX6_quota : ByteArray := prog_1_method_6_code
def yX6_quota : MethodName := ⟨RX6, "quota", "(II)I"⟩
abbrev cX6_split : ByteArray := prog_1_method_7_code
def yX6_split : MethodName := ⟨RX6, "split", "(IJI)I"⟩
abbrev cX6_folds : ByteArray := prog_1_method_8_code
def yX6_folds : MethodName := ⟨RX6, "folds", "(IJ)I"⟩
abbrev cX6_nested : ByteArray := prog_1_method_9_code
def yX6_nested : MethodName := ⟨RX6, "nested", "(IIJ)I"⟩
abbrev cX6_of : ByteArray := prog_1_method_10_code
def yX6_of : MethodName := ⟨RX6, "of", "(I)I"⟩
abbrev cX6_many : ByteArray := prog_1_method_11_code
def yX6_many : MethodName := ⟨RX6, "many", "(II)I"⟩
abbrev cX6_share : ByteArray := prog_1_method_12_code
def yX6_share : MethodName := ⟨RX6, "share", "(III)I"⟩
abbrev cX6_over : ByteArray := prog_1_method_13_code
def yX6_over : MethodName := ⟨RX6, "over", "(I)I"⟩
abbrev cX6_near : ByteArray := prog_1_method_14_code
def yX6_near : MethodName := ⟨RX6, "near", "(I)I"⟩
abbrev cX6_fit : ByteArray := prog_1_method_15_code
def yX6_fit : MethodName := ⟨RX6, "fit", "(II)I"⟩
abbrev cX6_base : ByteArray := prog_1_method_16_code
def yX6_base : MethodName := ⟨RX6, "base", "(II)I"⟩
abbrev cX6_leaks : ByteArray := prog_1_method_17_code
def yX6_leaks : MethodName := ⟨RX6, "leaks", "(I)I"⟩
abbrev cX6_leak : ByteArray := prog_1_method_18_code
def yX6_leak : MethodName := ⟨RX6, "leak", "(III)I"⟩
abbrev cX6_meets : ByteArray := prog_1_method_19_code
def yX6_meets : MethodName := ⟨RX6, "meets", "()I"⟩
abbrev cX6_same : ByteArray := prog_1_method_20_code
def yX6_same : MethodName := ⟨RX6, "same", "(IJI)Z"⟩
abbrev cX6_told : ByteArray := prog_1_method_21_code
def yX6_told : MethodName := ⟨RX6, "told", "(I)I"⟩
abbrev cX6_isWithin : ByteArray := prog_1_method_22_code
def yX6_isWithin : MethodName := ⟨RX6, "isWithin", "(II)Z"⟩
abbrev cX6_isWeight : ByteArray := prog_1_method_23_code
def yX6_isWeight : MethodName := ⟨RX6, "isWeight", "(I)Z"⟩
abbrev cX6_isSplit : ByteArray := prog_1_method_24_code
def yX6_isSplit : MethodName := ⟨RX6, "isSplit", "(II)Z"⟩
abbrev cX6_isFolds : ByteArray := prog_1_method_25_code
def yX6_isFolds : MethodName := ⟨RX6, "isFolds", "(I)Z"⟩
abbrev cX6_isLeakKind : ByteArray := prog_1_method_26_code
def yX6_isLeakKind : MethodName := ⟨RX6, "isLeakKind", "(I)Z"⟩
abbrev cX6_commonDivisor : ByteArray := prog_1_method_27_code
def yX6_commonDivisor : MethodName := ⟨RX6, "commonDivisor", "(II)I"⟩
def RX7 : String := "SplitLeaksModel"
def TX7 : u_T := fun k => match k with
  | 0 => ("SplitLeaksModel", "rows", "I", false)
  | 1 => ("SplitLeaksModel", "group", "[I", true)
  | 2 => ("SplitLeaksModel", "label", "[I", true)
  | 3 => ("SplitLeaksModel", "time", "[I", true)
  | 4 => ("SplitLeaksModel", "number", "[J", true)
  | 5 => ("SplitLeaksModel", "words", "[J", true)
  | 6 => ("SplitLeaksModel", "part", "[I", true)
  | 7 => ("SplitLeaksModel", "parts", "I", false)
  | 8 => ("SplitLeaksModel", "weights", "I", false)
  | 9 => ("SplitLeaksModel", "weight", "[I", true)
  | 10 => ("SplitLeaksModel", "nearness", "I", false)
  | 11 => ("SplitLeaksModel", "fitted", "[Z", true)
  | 12 => ("SplitLeaksModel", "by", "[I", true)
  | 13 => ("SplitLeaksModel", "thrown", "I", false)
  | 14 => ("SplitLeaksModel", "quotas", "[I", true)
  | 15 => ("SplitLeaksModel", "more", "[Z", true)
  | 16 => ("SplitLeaksModel", "z", "J", false)
  | 17 => ("SplitLeaksModel", "dealt", "[I", true)
  | 18 => ("SplitLeaksModel", "things", "[I", true)
  | 19 => ("SplitLeaksModel", "many", "I", false)
  | 20 => ("SplitLeaksModel", "has", "[I", true)
  | 21 => ("SplitLeaksModel", "ahead", "I", false)
  | 22 => ("SplitLeaksModel", "one", "I", false)
  | _ => ("SplitLeaksModel", "two", "I", false)
def tyX7 : Nat → FieldType := fun k => match k with
  | 0 => .int
  | 1 => .array .int
  | 2 => .array .int
  | 3 => .array .int
  | 4 => .array .long
  | 5 => .array .long
  | 6 => .array .int
  | 7 => .int
  | 8 => .int
  | 9 => .array .int
  | 10 => .int
  | 11 => .array .boolean
  | 12 => .array .int
  | 13 => .int
  | 14 => .array .int
  | 15 => .array .boolean
  | 16 => .long
  | 17 => .array .int
  | 18 => .array .int
  | 19 => .int
  | 20 => .array .int
  | 21 => .int
  | 22 => .int
  | _ => .int
abbrev wsX70 : List Cond := u_ws RX7 TX7 24
theorem nmX7 : ∀ a, a < 24 → ∀ b, b < 24 → a ≠ b → (TX7 a).2.1 ≠ (TX7 b).2.1 := by decide +kernel
theorem tyX7_ok : ∀ k, k < 24 → parseFieldDescriptor (TX7 k).2.2.1 = some (tyX7 k) := by decide +kernel
abbrev cX7_init : ByteArray := prog_9_method_1_code
def yX7_init : MethodName := ⟨RX7, "<init>", "()V"⟩
abbrev cX7_thrown : ByteArray := prog_9_method_2_code
def yX7_thrown : MethodName := ⟨RX7, "thrown", "()I"⟩
abbrev cX7_in : ByteArray := prog_9_method_3_code
def yX7_in : MethodName := ⟨RX7, "in", "(III)Z"⟩
abbrev cX7_isRow : ByteArray := prog_9_method_4_code
def yX7_isRow : MethodName := ⟨RX7, "isRow", "(I)Z"⟩
abbrev cX7_row : ByteArray := prog_9_method_5_code
def yX7_row : MethodName := ⟨RX7, "row", "(III)I"⟩
abbrev cX7_column : ByteArray := prog_9_method_6_code
def yX7_column : MethodName := ⟨RX7, "column", "(IIJ)I"⟩
abbrev cX7_bits : ByteArray := prog_9_method_7_code
def yX7_bits : MethodName := ⟨RX7, "bits", "(J)I"⟩
abbrev cX7_word : ByteArray := prog_9_method_8_code
def yX7_word : MethodName := ⟨RX7, "word", "(IIZ)I"⟩
abbrev cX7_parts : ByteArray := prog_9_method_9_code
def yX7_parts : MethodName := ⟨RX7, "parts", "(IIIII)I"⟩
abbrev cX7_quotasOf : ByteArray := prog_9_method_10_code
def yX7_quotasOf : MethodName := ⟨RX7, "quotasOf", "(I)V"⟩
abbrev cX7_quota : ByteArray := prog_9_method_11_code
def yX7_quota : MethodName := ⟨RX7, "quota", "(II)I"⟩
abbrev cX7_draw : ByteArray := prog_9_method_12_code
def yX7_draw : MethodName := ⟨RX7, "draw", "(I)I"⟩
abbrev cX7_shuffle : ByteArray := prog_9_method_13_code
def yX7_shuffle : MethodName := ⟨RX7, "shuffle", "()V"⟩
abbrev cX7_give : ByteArray := prog_9_method_14_code
def yX7_give : MethodName := ⟨RX7, "give", "()V"⟩
abbrev cX7_plain : ByteArray := prog_9_method_15_code
def yX7_plain : MethodName := ⟨RX7, "plain", "()V"⟩
abbrev cX7_byGroups : ByteArray := prog_9_method_16_code
def yX7_byGroups : MethodName := ⟨RX7, "byGroups", "()V"⟩
abbrev cX7_byTimes : ByteArray := prog_9_method_17_code
def yX7_byTimes : MethodName := ⟨RX7, "byTimes", "(I)V"⟩
abbrev cX7_ofLabel : ByteArray := prog_9_method_18_code
def yX7_ofLabel : MethodName := ⟨RX7, "ofLabel", "(IZ)V"⟩
abbrev cX7_deal : ByteArray := prog_9_method_19_code
def yX7_deal : MethodName := ⟨RX7, "deal", "(IJI)Z"⟩
abbrev cX7_take : ByteArray := prog_9_method_20_code
def yX7_take : MethodName := ⟨RX7, "take", "()I"⟩
abbrev cX7_split : ByteArray := prog_9_method_21_code
def yX7_split : MethodName := ⟨RX7, "split", "(IJI)I"⟩
abbrev cX7_same : ByteArray := prog_9_method_22_code
def yX7_same : MethodName := ⟨RX7, "same", "(IJI)Z"⟩
abbrev cX7_round : ByteArray := prog_9_method_23_code
def yX7_round : MethodName := ⟨RX7, "round", "(IZ)I"⟩
abbrev cX7_folds : ByteArray := prog_9_method_24_code
def yX7_folds : MethodName := ⟨RX7, "folds", "(IJ)I"⟩
abbrev cX7_nested : ByteArray := prog_9_method_25_code
def yX7_nested : MethodName := ⟨RX7, "nested", "(IIJ)I"⟩
abbrev cX7_of : ByteArray := prog_9_method_26_code
def yX7_of : MethodName := ⟨RX7, "of", "(I)I"⟩
abbrev cX7_many : ByteArray := prog_9_method_27_code
def yX7_many : MethodName := ⟨RX7, "many", "(II)I"⟩
abbrev cX7_share : ByteArray := prog_9_method_28_code
def yX7_share : MethodName := ⟨RX7, "share", "(III)I"⟩
abbrev cX7_over : ByteArray := prog_9_method_29_code
def yX7_over : MethodName := ⟨RX7, "over", "(I)I"⟩
abbrev cX7_near : ByteArray := prog_9_method_30_code
def yX7_near : MethodName := ⟨RX7, "near", "(I)I"⟩
abbrev cX7_fit : ByteArray := prog_9_method_31_code
def yX7_fit : MethodName := ⟨RX7, "fit", "(II)I"⟩
abbrev cX7_base : ByteArray := prog_9_method_32_code
def yX7_base : MethodName := ⟨RX7, "base", "(II)I"⟩
abbrev cX7_isEqual : ByteArray := prog_9_method_33_code
def yX7_isEqual : MethodName := ⟨RX7, "isEqual", "(II)Z"⟩
abbrev cX7_areApart : ByteArray := prog_9_method_34_code
def yX7_areApart : MethodName := ⟨RX7, "areApart", "(II)Z"⟩
abbrev cX7_areNear : ByteArray := prog_9_method_35_code
def yX7_areNear : MethodName := ⟨RX7, "areNear", "(II)Z"⟩
abbrev cX7_tell : ByteArray := prog_9_method_36_code
def yX7_tell : MethodName := ⟨RX7, "tell", "(III)V"⟩
abbrev cX7_pairs : ByteArray := prog_9_method_37_code
def yX7_pairs : MethodName := ⟨RX7, "pairs", "(ZI)V"⟩
abbrev cX7_groups : ByteArray := prog_9_method_38_code
def yX7_groups : MethodName := ⟨RX7, "groups", "(I)V"⟩
abbrev cX7_late : ByteArray := prog_9_method_39_code
def yX7_late : MethodName := ⟨RX7, "late", "(I)V"⟩
abbrev cX7_columns : ByteArray := prog_9_method_40_code
def yX7_columns : MethodName := ⟨RX7, "columns", "(I)V"⟩
abbrev cX7_steps : ByteArray := prog_9_method_41_code
def yX7_steps : MethodName := ⟨RX7, "steps", "(I)V"⟩
abbrev cX7_look : ByteArray := prog_9_method_42_code
def yX7_look : MethodName := ⟨RX7, "look", "(II)V"⟩
abbrev cX7_leaks : ByteArray := prog_9_method_43_code
def yX7_leaks : MethodName := ⟨RX7, "leaks", "(I)I"⟩
abbrev cX7_leak : ByteArray := prog_9_method_44_code
def yX7_leak : MethodName := ⟨RX7, "leak", "(III)I"⟩
abbrev cX7_digest : ByteArray := prog_9_method_45_code
def yX7_digest : MethodName := ⟨RX7, "digest", "(I)I"⟩
abbrev cX7_meets : ByteArray := prog_9_method_46_code
def yX7_meets : MethodName := ⟨RX7, "meets", "()I"⟩
abbrev cX7_told : ByteArray := prog_9_method_47_code
def yX7_told : MethodName := ⟨RX7, "told", "(I)I"⟩
def RJ13 : String := "java/lang/Long"
def TJ13 : u_T := fun k => match k with
  | _ => ("", "", "", false)
def tyJ13 : Nat → FieldType := fun k => match k with
  | _ => .int
abbrev wsJ130 : List Cond := u_ws RJ13 TJ13 0
theorem nmJ13 : ∀ a, a < 0 → ∀ b, b < 0 → a ≠ b → (TJ13 a).2.1 ≠ (TJ13 b).2.1 := by decide +kernel
theorem tyJ13_ok : ∀ k, k < 0 → parseFieldDescriptor (TJ13 k).2.2.1 = some (tyJ13 k) := by decide +kernel
abbrev cJ13_bitCount_95d88 : ByteArray := prog_14_method_50_code
def yJ13_bitCount_95d88 : MethodName := ⟨RJ13, "bitCount", "(J)I"⟩
def RJ0 : String := "java/lang/String"
def TJ0 : u_T := fun k => match k with
  | _ => ("", "", "", false)
def tyJ0 : Nat → FieldType := fun k => match k with
  | _ => .int
abbrev wsJ00 : List Cond := u_ws RJ0 TJ0 0
theorem nmJ0 : ∀ a, a < 0 → ∀ b, b < 0 → a ≠ b → (TJ0 a).2.1 ≠ (TJ0 b).2.1 := by decide +kernel
theorem tyJ0_ok : ∀ k, k < 0 → parseFieldDescriptor (TJ0 k).2.2.1 = some (tyJ0 k) := by decide +kernel
def RL : String := "SplitLeaksLaw"
abbrev cL_share : ByteArray := method_3_code
def yL_share : MethodName := ⟨RL, "share", "(LSplitLeaks;III[J)I"⟩
abbrev cL_law : ByteArray := code
def yL_law : MethodName := ⟨RL, "law", "([I)Z"⟩
abbrev vwCl : List vw_C := [(RX0, TX0, 1), (RX1, TX1, 6), (RX2, TX2, 8), (RX3, TX3, 8), (RX4, TX4, 3), (RX5, TX5, 5), (RX6, TX6, 6), (RX7, TX7, 24)]
