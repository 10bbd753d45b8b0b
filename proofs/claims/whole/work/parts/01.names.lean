-- ===== PART A: goes FIRST, ahead of the names: the tables' words, and 'selects' of the private methods out of them =====
/-- a private method of a class that the tables say can be made, by its rows of tables_1 -/
def lw_okq (q : MethodName × Nat) : Prop := (q.1.cls ≠ "java/lang/invoke/MethodHandle" ∧ q.1.cls ≠ "java/lang/invoke/VarHandle") ∧ Cond.instantiable q.1.cls q.2 ∈ tables_1 ∧ Cond.privateMethod q.1 ∈ tables_1 ∧ Cond.instanceMethod q.1 ∈ tables_1
theorem lw_p0 : lw_okq (⟨"PointAtWhoIsLost", "refuse", "(I)I"⟩, 13) := ⟨⟨by decide +kernel, by decide +kernel⟩, List.mem_of_getElem? (i := 18) (by decide +kernel), List.mem_of_getElem? (i := 243) (by decide +kernel), List.mem_of_getElem? (i := 244) (by decide +kernel)⟩
theorem lw_p1 : lw_okq (⟨"PointAtWhoIsLost$Shelves", "sizeOf", "(I)I"⟩, 3) := ⟨⟨by decide +kernel, by decide +kernel⟩, List.mem_of_getElem? (i := 87) (by decide +kernel), List.mem_of_getElem? (i := 264) (by decide +kernel), List.mem_of_getElem? (i := 265) (by decide +kernel)⟩
theorem lw_p2 : lw_okq (⟨"PointAtWhoIsLost", "armAsThingsAre", "(I)I"⟩, 13) := ⟨⟨by decide +kernel, by decide +kernel⟩, List.mem_of_getElem? (i := 18) (by decide +kernel), List.mem_of_getElem? (i := 333) (by decide +kernel), List.mem_of_getElem? (i := 334) (by decide +kernel)⟩
theorem lw_p3 : lw_okq (⟨"PointAtWhoIsLost", "armInSight", "(I)I"⟩, 13) := ⟨⟨by decide +kernel, by decide +kernel⟩, List.mem_of_getElem? (i := 18) (by decide +kernel), List.mem_of_getElem? (i := 345) (by decide +kernel), List.mem_of_getElem? (i := 346) (by decide +kernel)⟩
theorem lw_p4 : lw_okq (⟨"PointAtWhoIsLost$Sight", "keenArm", "(I)I"⟩, 2) := ⟨⟨by decide +kernel, by decide +kernel⟩, List.mem_of_getElem? (i := 128) (by decide +kernel), List.mem_of_getElem? (i := 353) (by decide +kernel), List.mem_of_getElem? (i := 354) (by decide +kernel)⟩
theorem lw_p5 : lw_okq (⟨"PointAtWhoIsLost$Sight", "lazyArm", "(II)I"⟩, 2) := ⟨⟨by decide +kernel, by decide +kernel⟩, List.mem_of_getElem? (i := 128) (by decide +kernel), List.mem_of_getElem? (i := 369) (by decide +kernel), List.mem_of_getElem? (i := 370) (by decide +kernel)⟩
theorem lw_p6 : lw_okq (⟨"PointAtWhoIsLost$Sight", "tornArm", "(I)I"⟩, 2) := ⟨⟨by decide +kernel, by decide +kernel⟩, List.mem_of_getElem? (i := 128) (by decide +kernel), List.mem_of_getElem? (i := 376) (by decide +kernel), List.mem_of_getElem? (i := 377) (by decide +kernel)⟩
theorem lw_p7 : lw_okq (⟨"PointAtWhoIsLost$Tape", "takeToken", "()V"⟩, 4) := ⟨⟨by decide +kernel, by decide +kernel⟩, List.mem_of_getElem? (i := 107) (by decide +kernel), List.mem_of_getElem? (i := 473) (by decide +kernel), List.mem_of_getElem? (i := 474) (by decide +kernel)⟩
theorem lw_p8 : lw_okq (⟨"PointAtWhoIsLost$Tape", "byteAt", "(I)I"⟩, 4) := ⟨⟨by decide +kernel, by decide +kernel⟩, List.mem_of_getElem? (i := 107) (by decide +kernel), List.mem_of_getElem? (i := 477) (by decide +kernel), List.mem_of_getElem? (i := 478) (by decide +kernel)⟩
theorem lw_p9 : lw_okq (⟨"PointAtWhoIsLost$Tape", "readStatement", "(LPointAtWhoIsLost$Land;)Z"⟩, 4) := ⟨⟨by decide +kernel, by decide +kernel⟩, List.mem_of_getElem? (i := 107) (by decide +kernel), List.mem_of_getElem? (i := 490) (by decide +kernel), List.mem_of_getElem? (i := 491) (by decide +kernel)⟩
theorem lw_p10 : lw_okq (⟨"PointAtWhoIsLost$Tape", "isWord", "(Ljava/lang/String;)Z"⟩, 4) := ⟨⟨by decide +kernel, by decide +kernel⟩, List.mem_of_getElem? (i := 107) (by decide +kernel), List.mem_of_getElem? (i := 495) (by decide +kernel), List.mem_of_getElem? (i := 496) (by decide +kernel)⟩
theorem lw_p11 : lw_okq (⟨"PointAtWhoIsLost$Tape", "readSide", "(LPointAtWhoIsLost$Land;)Z"⟩, 4) := ⟨⟨by decide +kernel, by decide +kernel⟩, List.mem_of_getElem? (i := 107) (by decide +kernel), List.mem_of_getElem? (i := 547) (by decide +kernel), List.mem_of_getElem? (i := 548) (by decide +kernel)⟩
theorem lw_p12 : lw_okq (⟨"PointAtWhoIsLost$Tape", "takeNumber", "()I"⟩, 4) := ⟨⟨by decide +kernel, by decide +kernel⟩, List.mem_of_getElem? (i := 107) (by decide +kernel), List.mem_of_getElem? (i := 551) (by decide +kernel), List.mem_of_getElem? (i := 552) (by decide +kernel)⟩
theorem lw_p13 : lw_okq (⟨"PointAtWhoIsLost$Tape", "readBog", "(LPointAtWhoIsLost$Land;)Z"⟩, 4) := ⟨⟨by decide +kernel, by decide +kernel⟩, List.mem_of_getElem? (i := 107) (by decide +kernel), List.mem_of_getElem? (i := 557) (by decide +kernel), List.mem_of_getElem? (i := 558) (by decide +kernel)⟩
theorem lw_p14 : lw_okq (⟨"PointAtWhoIsLost$Tape", "readDry", "(LPointAtWhoIsLost$Land;)Z"⟩, 4) := ⟨⟨by decide +kernel, by decide +kernel⟩, List.mem_of_getElem? (i := 107) (by decide +kernel), List.mem_of_getElem? (i := 564) (by decide +kernel), List.mem_of_getElem? (i := 565) (by decide +kernel)⟩
theorem lw_p15 : lw_okq (⟨"PointAtWhoIsLost$Tape", "readHome", "(LPointAtWhoIsLost$Land;)Z"⟩, 4) := ⟨⟨by decide +kernel, by decide +kernel⟩, List.mem_of_getElem? (i := 107) (by decide +kernel), List.mem_of_getElem? (i := 569) (by decide +kernel), List.mem_of_getElem? (i := 570) (by decide +kernel)⟩
def lw_privs_1 : List (MethodName × Nat) := [(⟨"PointAtWhoIsLost", "refuse", "(I)I"⟩, 13), (⟨"PointAtWhoIsLost$Shelves", "sizeOf", "(I)I"⟩, 3), (⟨"PointAtWhoIsLost", "armAsThingsAre", "(I)I"⟩, 13), (⟨"PointAtWhoIsLost", "armInSight", "(I)I"⟩, 13), (⟨"PointAtWhoIsLost$Sight", "keenArm", "(I)I"⟩, 2), (⟨"PointAtWhoIsLost$Sight", "lazyArm", "(II)I"⟩, 2), (⟨"PointAtWhoIsLost$Sight", "tornArm", "(I)I"⟩, 2), (⟨"PointAtWhoIsLost$Tape", "takeToken", "()V"⟩, 4), (⟨"PointAtWhoIsLost$Tape", "byteAt", "(I)I"⟩, 4), (⟨"PointAtWhoIsLost$Tape", "readStatement", "(LPointAtWhoIsLost$Land;)Z"⟩, 4), (⟨"PointAtWhoIsLost$Tape", "isWord", "(Ljava/lang/String;)Z"⟩, 4), (⟨"PointAtWhoIsLost$Tape", "readSide", "(LPointAtWhoIsLost$Land;)Z"⟩, 4), (⟨"PointAtWhoIsLost$Tape", "takeNumber", "()I"⟩, 4), (⟨"PointAtWhoIsLost$Tape", "readBog", "(LPointAtWhoIsLost$Land;)Z"⟩, 4), (⟨"PointAtWhoIsLost$Tape", "readDry", "(LPointAtWhoIsLost$Land;)Z"⟩, 4), (⟨"PointAtWhoIsLost$Tape", "readHome", "(LPointAtWhoIsLost$Land;)Z"⟩, 4)]
theorem lw_r1 : ∀ q ∈ lw_privs_1, lw_okq q := List.forall_mem_cons.mpr ⟨lw_p0, List.forall_mem_cons.mpr ⟨lw_p1, List.forall_mem_cons.mpr ⟨lw_p2, List.forall_mem_cons.mpr ⟨lw_p3, List.forall_mem_cons.mpr ⟨lw_p4, List.forall_mem_cons.mpr ⟨lw_p5, List.forall_mem_cons.mpr ⟨lw_p6, List.forall_mem_cons.mpr ⟨lw_p7, List.forall_mem_cons.mpr ⟨lw_p8, List.forall_mem_cons.mpr ⟨lw_p9, List.forall_mem_cons.mpr ⟨lw_p10, List.forall_mem_cons.mpr ⟨lw_p11, List.forall_mem_cons.mpr ⟨lw_p12, List.forall_mem_cons.mpr ⟨lw_p13, List.forall_mem_cons.mpr ⟨lw_p14, List.forall_mem_cons.mpr ⟨lw_p15, fun _ h => absurd h List.not_mem_nil⟩⟩⟩⟩⟩⟩⟩⟩⟩⟩⟩⟩⟩⟩⟩⟩
theorem lw_p16 : lw_okq (⟨"PointAtWhoIsLost$Tape", "readPost", "(LPointAtWhoIsLost$Land;)Z"⟩, 4) := ⟨⟨by decide +kernel, by decide +kernel⟩, List.mem_of_getElem? (i := 107) (by decide +kernel), List.mem_of_getElem? (i := 576) (by decide +kernel), List.mem_of_getElem? (i := 577) (by decide +kernel)⟩
theorem lw_p17 : lw_okq (⟨"PointAtWhoIsLost$Tape", "readWalker", "(LPointAtWhoIsLost$Land;)Z"⟩, 4) := ⟨⟨by decide +kernel, by decide +kernel⟩, List.mem_of_getElem? (i := 107) (by decide +kernel), List.mem_of_getElem? (i := 585) (by decide +kernel), List.mem_of_getElem? (i := 586) (by decide +kernel)⟩
theorem lw_p18 : lw_okq (⟨"PointAtWhoIsLost$Paths", "spreadFrom", "(LPointAtWhoIsLost$Land;I)V"⟩, 2) := ⟨⟨by decide +kernel, by decide +kernel⟩, List.mem_of_getElem? (i := 180) (by decide +kernel), List.mem_of_getElem? (i := 605) (by decide +kernel), List.mem_of_getElem? (i := 606) (by decide +kernel)⟩
theorem lw_p19 : lw_okq (⟨"PointAtWhoIsLost", "whyNoPairs", "(IIZ)I"⟩, 13) := ⟨⟨by decide +kernel, by decide +kernel⟩, List.mem_of_getElem? (i := 18) (by decide +kernel), List.mem_of_getElem? (i := 639) (by decide +kernel), List.mem_of_getElem? (i := 640) (by decide +kernel)⟩
theorem lw_p20 : lw_okq (⟨"PointAtWhoIsLost", "findFitting", "(II)I"⟩, 13) := ⟨⟨by decide +kernel, by decide +kernel⟩, List.mem_of_getElem? (i := 18) (by decide +kernel), List.mem_of_getElem? (i := 648) (by decide +kernel), List.mem_of_getElem? (i := 649) (by decide +kernel)⟩
theorem lw_p21 : lw_okq (⟨"PointAtWhoIsLost", "missAt", "(III)I"⟩, 13) := ⟨⟨by decide +kernel, by decide +kernel⟩, List.mem_of_getElem? (i := 18) (by decide +kernel), List.mem_of_getElem? (i := 659) (by decide +kernel), List.mem_of_getElem? (i := 660) (by decide +kernel)⟩
theorem lw_p22 : lw_okq (⟨"PointAtWhoIsLost", "nextPost", "(I)I"⟩, 13) := ⟨⟨by decide +kernel, by decide +kernel⟩, List.mem_of_getElem? (i := 18) (by decide +kernel), List.mem_of_getElem? (i := 671) (by decide +kernel), List.mem_of_getElem? (i := 672) (by decide +kernel)⟩
theorem lw_p23 : lw_okq (⟨"PointAtWhoIsLost", "falsePair", "(III)I"⟩, 13) := ⟨⟨by decide +kernel, by decide +kernel⟩, List.mem_of_getElem? (i := 18) (by decide +kernel), List.mem_of_getElem? (i := 684) (by decide +kernel), List.mem_of_getElem? (i := 685) (by decide +kernel)⟩
theorem lw_p24 : lw_okq (⟨"PointAtWhoIsLost", "allPosts", "()I"⟩, 13) := ⟨⟨by decide +kernel, by decide +kernel⟩, List.mem_of_getElem? (i := 18) (by decide +kernel), List.mem_of_getElem? (i := 697) (by decide +kernel), List.mem_of_getElem? (i := 698) (by decide +kernel)⟩
theorem lw_p25 : lw_okq (⟨"PointAtWhoIsLost$Lookout", "splitBy", "(I)I"⟩, 10) := ⟨⟨by decide +kernel, by decide +kernel⟩, List.mem_of_getElem? (i := 141) (by decide +kernel), List.mem_of_getElem? (i := 705) (by decide +kernel), List.mem_of_getElem? (i := 706) (by decide +kernel)⟩
theorem lw_p26 : lw_okq (⟨"PointAtWhoIsLost$Lookout", "countSizes", "()V"⟩, 10) := ⟨⟨by decide +kernel, by decide +kernel⟩, List.mem_of_getElem? (i := 141) (by decide +kernel), List.mem_of_getElem? (i := 713) (by decide +kernel), List.mem_of_getElem? (i := 714) (by decide +kernel)⟩
theorem lw_p27 : lw_okq (⟨"PointAtWhoIsLost$Lookout", "isBlind", "(I)Z"⟩, 10) := ⟨⟨by decide +kernel, by decide +kernel⟩, List.mem_of_getElem? (i := 141) (by decide +kernel), List.mem_of_getElem? (i := 721) (by decide +kernel), List.mem_of_getElem? (i := 722) (by decide +kernel)⟩
theorem lw_p28 : lw_okq (⟨"PointAtWhoIsLost", "postsWithArm", "(I)I"⟩, 13) := ⟨⟨by decide +kernel, by decide +kernel⟩, List.mem_of_getElem? (i := 18) (by decide +kernel), List.mem_of_getElem? (i := 748) (by decide +kernel), List.mem_of_getElem? (i := 749) (by decide +kernel)⟩
theorem lw_p29 : lw_okq (⟨"PointAtWhoIsLost", "leastSure", "()I"⟩, 13) := ⟨⟨by decide +kernel, by decide +kernel⟩, List.mem_of_getElem? (i := 18) (by decide +kernel), List.mem_of_getElem? (i := 814) (by decide +kernel), List.mem_of_getElem? (i := 815) (by decide +kernel)⟩
theorem lw_p30 : lw_okq (⟨"PointAtWhoIsLost", "longestOut", "()I"⟩, 13) := ⟨⟨by decide +kernel, by decide +kernel⟩, List.mem_of_getElem? (i := 18) (by decide +kernel), List.mem_of_getElem? (i := 818) (by decide +kernel), List.mem_of_getElem? (i := 819) (by decide +kernel)⟩
theorem lw_p31 : lw_okq (⟨"PointAtWhoIsLost", "nearestLost", "()I"⟩, 13) := ⟨⟨by decide +kernel, by decide +kernel⟩, List.mem_of_getElem? (i := 18) (by decide +kernel), List.mem_of_getElem? (i := 830) (by decide +kernel), List.mem_of_getElem? (i := 831) (by decide +kernel)⟩
def lw_privs_2 : List (MethodName × Nat) := [(⟨"PointAtWhoIsLost$Tape", "readPost", "(LPointAtWhoIsLost$Land;)Z"⟩, 4), (⟨"PointAtWhoIsLost$Tape", "readWalker", "(LPointAtWhoIsLost$Land;)Z"⟩, 4), (⟨"PointAtWhoIsLost$Paths", "spreadFrom", "(LPointAtWhoIsLost$Land;I)V"⟩, 2), (⟨"PointAtWhoIsLost", "whyNoPairs", "(IIZ)I"⟩, 13), (⟨"PointAtWhoIsLost", "findFitting", "(II)I"⟩, 13), (⟨"PointAtWhoIsLost", "missAt", "(III)I"⟩, 13), (⟨"PointAtWhoIsLost", "nextPost", "(I)I"⟩, 13), (⟨"PointAtWhoIsLost", "falsePair", "(III)I"⟩, 13), (⟨"PointAtWhoIsLost", "allPosts", "()I"⟩, 13), (⟨"PointAtWhoIsLost$Lookout", "splitBy", "(I)I"⟩, 10), (⟨"PointAtWhoIsLost$Lookout", "countSizes", "()V"⟩, 10), (⟨"PointAtWhoIsLost$Lookout", "isBlind", "(I)Z"⟩, 10), (⟨"PointAtWhoIsLost", "postsWithArm", "(I)I"⟩, 13), (⟨"PointAtWhoIsLost", "leastSure", "()I"⟩, 13), (⟨"PointAtWhoIsLost", "longestOut", "()I"⟩, 13), (⟨"PointAtWhoIsLost", "nearestLost", "()I"⟩, 13)]
theorem lw_r2 : ∀ q ∈ lw_privs_2, lw_okq q := List.forall_mem_cons.mpr ⟨lw_p16, List.forall_mem_cons.mpr ⟨lw_p17, List.forall_mem_cons.mpr ⟨lw_p18, List.forall_mem_cons.mpr ⟨lw_p19, List.forall_mem_cons.mpr ⟨lw_p20, List.forall_mem_cons.mpr ⟨lw_p21, List.forall_mem_cons.mpr ⟨lw_p22, List.forall_mem_cons.mpr ⟨lw_p23, List.forall_mem_cons.mpr ⟨lw_p24, List.forall_mem_cons.mpr ⟨lw_p25, List.forall_mem_cons.mpr ⟨lw_p26, List.forall_mem_cons.mpr ⟨lw_p27, List.forall_mem_cons.mpr ⟨lw_p28, List.forall_mem_cons.mpr ⟨lw_p29, List.forall_mem_cons.mpr ⟨lw_p30, List.forall_mem_cons.mpr ⟨lw_p31, fun _ h => absurd h List.not_mem_nil⟩⟩⟩⟩⟩⟩⟩⟩⟩⟩⟩⟩⟩⟩⟩⟩
theorem lw_p32 : lw_okq (⟨"PointAtWhoIsLost", "measureLongest", "()V"⟩, 13) := ⟨⟨by decide +kernel, by decide +kernel⟩, List.mem_of_getElem? (i := 18) (by decide +kernel), List.mem_of_getElem? (i := 838) (by decide +kernel), List.mem_of_getElem? (i := 839) (by decide +kernel)⟩
theorem lw_p33 : lw_okq (⟨"PointAtWhoIsLost", "whyNoWalk", "(III)I"⟩, 13) := ⟨⟨by decide +kernel, by decide +kernel⟩, List.mem_of_getElem? (i := 18) (by decide +kernel), List.mem_of_getElem? (i := 847) (by decide +kernel), List.mem_of_getElem? (i := 848) (by decide +kernel)⟩
theorem lw_p34 : lw_okq (⟨"PointAtWhoIsLost", "firstWrong", "(III)I"⟩, 13) := ⟨⟨by decide +kernel, by decide +kernel⟩, List.mem_of_getElem? (i := 18) (by decide +kernel), List.mem_of_getElem? (i := 851) (by decide +kernel), List.mem_of_getElem? (i := 852) (by decide +kernel)⟩
theorem lw_p35 : lw_okq (⟨"PointAtWhoIsLost", "whyNoRightWalk", "(III)I"⟩, 13) := ⟨⟨by decide +kernel, by decide +kernel⟩, List.mem_of_getElem? (i := 18) (by decide +kernel), List.mem_of_getElem? (i := 860) (by decide +kernel), List.mem_of_getElem? (i := 861) (by decide +kernel)⟩
theorem lw_p36 : lw_okq (⟨"PointAtWhoIsLost", "lostOnesStray", "()V"⟩, 13) := ⟨⟨by decide +kernel, by decide +kernel⟩, List.mem_of_getElem? (i := 18) (by decide +kernel), List.mem_of_getElem? (i := 888) (by decide +kernel), List.mem_of_getElem? (i := 889) (by decide +kernel)⟩
theorem lw_p37 : lw_okq (⟨"PointAtWhoIsLost", "othersGoHome", "()V"⟩, 13) := ⟨⟨by decide +kernel, by decide +kernel⟩, List.mem_of_getElem? (i := 18) (by decide +kernel), List.mem_of_getElem? (i := 897) (by decide +kernel), List.mem_of_getElem? (i := 898) (by decide +kernel)⟩
theorem lw_p38 : lw_okq (⟨"PointAtWhoIsLost", "refusalsBy", "(I)I"⟩, 13) := ⟨⟨by decide +kernel, by decide +kernel⟩, List.mem_of_getElem? (i := 18) (by decide +kernel), List.mem_of_getElem? (i := 933) (by decide +kernel), List.mem_of_getElem? (i := 934) (by decide +kernel)⟩
theorem lw_p39 : lw_okq (⟨"PointAtWhoIsLostModel", "no", "(I)I"⟩, 28) := ⟨⟨by decide +kernel, by decide +kernel⟩, List.mem_of_getElem? (i := 937) (by decide +kernel), List.mem_of_getElem? (i := 1039) (by decide +kernel), List.mem_of_getElem? (i := 1040) (by decide +kernel)⟩
theorem lw_p40 : lw_okq (⟨"PointAtWhoIsLostModel", "isRow", "(I)Z"⟩, 28) := ⟨⟨by decide +kernel, by decide +kernel⟩, List.mem_of_getElem? (i := 937) (by decide +kernel), List.mem_of_getElem? (i := 1047) (by decide +kernel), List.mem_of_getElem? (i := 1048) (by decide +kernel)⟩
theorem lw_p41 : lw_okq (⟨"PointAtWhoIsLostModel", "noRow", "(I)I"⟩, 28) := ⟨⟨by decide +kernel, by decide +kernel⟩, List.mem_of_getElem? (i := 937) (by decide +kernel), List.mem_of_getElem? (i := 1051) (by decide +kernel), List.mem_of_getElem? (i := 1052) (by decide +kernel)⟩
theorem lw_p42 : lw_okq (⟨"PointAtWhoIsLostModel", "isPost", "(J)Z"⟩, 28) := ⟨⟨by decide +kernel, by decide +kernel⟩, List.mem_of_getElem? (i := 937) (by decide +kernel), List.mem_of_getElem? (i := 1074) (by decide +kernel), List.mem_of_getElem? (i := 1075) (by decide +kernel)⟩
theorem lw_p43 : lw_okq (⟨"PointAtWhoIsLostModel", "asThingsAre", "()V"⟩, 28) := ⟨⟨by decide +kernel, by decide +kernel⟩, List.mem_of_getElem? (i := 937) (by decide +kernel), List.mem_of_getElem? (i := 1085) (by decide +kernel), List.mem_of_getElem? (i := 1086) (by decide +kernel)⟩
theorem lw_p44 : lw_okq (⟨"PointAtWhoIsLostModel", "isLost", "(I)Z"⟩, 28) := ⟨⟨by decide +kernel, by decide +kernel⟩, List.mem_of_getElem? (i := 937) (by decide +kernel), List.mem_of_getElem? (i := 1089) (by decide +kernel), List.mem_of_getElem? (i := 1090) (by decide +kernel)⟩
theorem lw_p45 : lw_okq (⟨"PointAtWhoIsLostModel", "armOf", "(I)I"⟩, 28) := ⟨⟨by decide +kernel, by decide +kernel⟩, List.mem_of_getElem? (i := 937) (by decide +kernel), List.mem_of_getElem? (i := 1093) (by decide +kernel), List.mem_of_getElem? (i := 1094) (by decide +kernel)⟩
theorem lw_p46 : lw_okq (⟨"PointAtWhoIsLostModel", "keenArm", "(I)I"⟩, 28) := ⟨⟨by decide +kernel, by decide +kernel⟩, List.mem_of_getElem? (i := 937) (by decide +kernel), List.mem_of_getElem? (i := 1097) (by decide +kernel), List.mem_of_getElem? (i := 1098) (by decide +kernel)⟩
theorem lw_p47 : lw_okq (⟨"PointAtWhoIsLostModel", "lazyArm", "(I)I"⟩, 28) := ⟨⟨by decide +kernel, by decide +kernel⟩, List.mem_of_getElem? (i := 937) (by decide +kernel), List.mem_of_getElem? (i := 1111) (by decide +kernel), List.mem_of_getElem? (i := 1112) (by decide +kernel)⟩
def lw_privs_3 : List (MethodName × Nat) := [(⟨"PointAtWhoIsLost", "measureLongest", "()V"⟩, 13), (⟨"PointAtWhoIsLost", "whyNoWalk", "(III)I"⟩, 13), (⟨"PointAtWhoIsLost", "firstWrong", "(III)I"⟩, 13), (⟨"PointAtWhoIsLost", "whyNoRightWalk", "(III)I"⟩, 13), (⟨"PointAtWhoIsLost", "lostOnesStray", "()V"⟩, 13), (⟨"PointAtWhoIsLost", "othersGoHome", "()V"⟩, 13), (⟨"PointAtWhoIsLost", "refusalsBy", "(I)I"⟩, 13), (⟨"PointAtWhoIsLostModel", "no", "(I)I"⟩, 28), (⟨"PointAtWhoIsLostModel", "isRow", "(I)Z"⟩, 28), (⟨"PointAtWhoIsLostModel", "noRow", "(I)I"⟩, 28), (⟨"PointAtWhoIsLostModel", "isPost", "(J)Z"⟩, 28), (⟨"PointAtWhoIsLostModel", "asThingsAre", "()V"⟩, 28), (⟨"PointAtWhoIsLostModel", "isLost", "(I)Z"⟩, 28), (⟨"PointAtWhoIsLostModel", "armOf", "(I)I"⟩, 28), (⟨"PointAtWhoIsLostModel", "keenArm", "(I)I"⟩, 28), (⟨"PointAtWhoIsLostModel", "lazyArm", "(I)I"⟩, 28)]
theorem lw_r3 : ∀ q ∈ lw_privs_3, lw_okq q := List.forall_mem_cons.mpr ⟨lw_p32, List.forall_mem_cons.mpr ⟨lw_p33, List.forall_mem_cons.mpr ⟨lw_p34, List.forall_mem_cons.mpr ⟨lw_p35, List.forall_mem_cons.mpr ⟨lw_p36, List.forall_mem_cons.mpr ⟨lw_p37, List.forall_mem_cons.mpr ⟨lw_p38, List.forall_mem_cons.mpr ⟨lw_p39, List.forall_mem_cons.mpr ⟨lw_p40, List.forall_mem_cons.mpr ⟨lw_p41, List.forall_mem_cons.mpr ⟨lw_p42, List.forall_mem_cons.mpr ⟨lw_p43, List.forall_mem_cons.mpr ⟨lw_p44, List.forall_mem_cons.mpr ⟨lw_p45, List.forall_mem_cons.mpr ⟨lw_p46, List.forall_mem_cons.mpr ⟨lw_p47, fun _ h => absurd h List.not_mem_nil⟩⟩⟩⟩⟩⟩⟩⟩⟩⟩⟩⟩⟩⟩⟩⟩
theorem lw_p48 : lw_okq (⟨"PointAtWhoIsLostModel", "plainArm", "(I)I"⟩, 28) := ⟨⟨by decide +kernel, by decide +kernel⟩, List.mem_of_getElem? (i := 937) (by decide +kernel), List.mem_of_getElem? (i := 1115) (by decide +kernel), List.mem_of_getElem? (i := 1116) (by decide +kernel)⟩
theorem lw_p49 : lw_okq (⟨"PointAtWhoIsLostModel", "tornArm", "(I)I"⟩, 28) := ⟨⟨by decide +kernel, by decide +kernel⟩, List.mem_of_getElem? (i := 937) (by decide +kernel), List.mem_of_getElem? (i := 1122) (by decide +kernel), List.mem_of_getElem? (i := 1123) (by decide +kernel)⟩
theorem lw_p50 : lw_okq (⟨"PointAtWhoIsLostModel", "isCell", "(J)Z"⟩, 28) := ⟨⟨by decide +kernel, by decide +kernel⟩, List.mem_of_getElem? (i := 937) (by decide +kernel), List.mem_of_getElem? (i := 1134) (by decide +kernel), List.mem_of_getElem? (i := 1135) (by decide +kernel)⟩
theorem lw_p51 : lw_okq (⟨"PointAtWhoIsLostModel", "isWalkerAt", "(I)Z"⟩, 28) := ⟨⟨by decide +kernel, by decide +kernel⟩, List.mem_of_getElem? (i := 937) (by decide +kernel), List.mem_of_getElem? (i := 1139) (by decide +kernel), List.mem_of_getElem? (i := 1140) (by decide +kernel)⟩
theorem lw_p52 : lw_okq (⟨"PointAtWhoIsLostModel", "newPost", "(III)I"⟩, 28) := ⟨⟨by decide +kernel, by decide +kernel⟩, List.mem_of_getElem? (i := 937) (by decide +kernel), List.mem_of_getElem? (i := 1151) (by decide +kernel), List.mem_of_getElem? (i := 1152) (by decide +kernel)⟩
theorem lw_p53 : lw_okq (⟨"PointAtWhoIsLostModel", "newWalker", "(II)I"⟩, 28) := ⟨⟨by decide +kernel, by decide +kernel⟩, List.mem_of_getElem? (i := 937) (by decide +kernel), List.mem_of_getElem? (i := 1159) (by decide +kernel), List.mem_of_getElem? (i := 1160) (by decide +kernel)⟩
theorem lw_p54 : lw_okq (⟨"PointAtWhoIsLostModel", "isWalker", "(I)Z"⟩, 28) := ⟨⟨by decide +kernel, by decide +kernel⟩, List.mem_of_getElem? (i := 937) (by decide +kernel), List.mem_of_getElem? (i := 1167) (by decide +kernel), List.mem_of_getElem? (i := 1168) (by decide +kernel)⟩
theorem lw_p55 : lw_okq (⟨"PointAtWhoIsLostModel", "keep", "([I)V"⟩, 28) := ⟨⟨by decide +kernel, by decide +kernel⟩, List.mem_of_getElem? (i := 937) (by decide +kernel), List.mem_of_getElem? (i := 1183) (by decide +kernel), List.mem_of_getElem? (i := 1184) (by decide +kernel)⟩
theorem lw_p56 : lw_okq (⟨"PointAtWhoIsLostModel", "next", "()V"⟩, 28) := ⟨⟨by decide +kernel, by decide +kernel⟩, List.mem_of_getElem? (i := 937) (by decide +kernel), List.mem_of_getElem? (i := 1187) (by decide +kernel), List.mem_of_getElem? (i := 1188) (by decide +kernel)⟩
theorem lw_p57 : lw_okq (⟨"PointAtWhoIsLostModel", "statement", "()Z"⟩, 28) := ⟨⟨by decide +kernel, by decide +kernel⟩, List.mem_of_getElem? (i := 937) (by decide +kernel), List.mem_of_getElem? (i := 1197) (by decide +kernel), List.mem_of_getElem? (i := 1198) (by decide +kernel)⟩
theorem lw_p58 : lw_okq (⟨"PointAtWhoIsLostModel", "isWord", "(Ljava/lang/String;)Z"⟩, 28) := ⟨⟨by decide +kernel, by decide +kernel⟩, List.mem_of_getElem? (i := 937) (by decide +kernel), List.mem_of_getElem? (i := 1202) (by decide +kernel), List.mem_of_getElem? (i := 1203) (by decide +kernel)⟩
theorem lw_p59 : lw_okq (⟨"PointAtWhoIsLostModel", "number", "(II)I"⟩, 28) := ⟨⟨by decide +kernel, by decide +kernel⟩, List.mem_of_getElem? (i := 937) (by decide +kernel), List.mem_of_getElem? (i := 1208) (by decide +kernel), List.mem_of_getElem? (i := 1209) (by decide +kernel)⟩
theorem lw_p60 : lw_okq (⟨"PointAtWhoIsLostModel", "place", "()I"⟩, 28) := ⟨⟨by decide +kernel, by decide +kernel⟩, List.mem_of_getElem? (i := 937) (by decide +kernel), List.mem_of_getElem? (i := 1213) (by decide +kernel), List.mem_of_getElem? (i := 1214) (by decide +kernel)⟩
theorem lw_p61 : lw_okq (⟨"PointAtWhoIsLostModel", "again", "([I)V"⟩, 28) := ⟨⟨by decide +kernel, by decide +kernel⟩, List.mem_of_getElem? (i := 937) (by decide +kernel), List.mem_of_getElem? (i := 1221) (by decide +kernel), List.mem_of_getElem? (i := 1222) (by decide +kernel)⟩
theorem lw_p62 : lw_okq (⟨"PointAtWhoIsLostModel", "pathOf", "(II)I"⟩, 28) := ⟨⟨by decide +kernel, by decide +kernel⟩, List.mem_of_getElem? (i := 937) (by decide +kernel), List.mem_of_getElem? (i := 1233) (by decide +kernel), List.mem_of_getElem? (i := 1234) (by decide +kernel)⟩
theorem lw_p63 : lw_okq (⟨"PointAtWhoIsLostModel", "walks", "(I)V"⟩, 28) := ⟨⟨by decide +kernel, by decide +kernel⟩, List.mem_of_getElem? (i := 937) (by decide +kernel), List.mem_of_getElem? (i := 1237) (by decide +kernel), List.mem_of_getElem? (i := 1238) (by decide +kernel)⟩
def lw_privs_4 : List (MethodName × Nat) := [(⟨"PointAtWhoIsLostModel", "plainArm", "(I)I"⟩, 28), (⟨"PointAtWhoIsLostModel", "tornArm", "(I)I"⟩, 28), (⟨"PointAtWhoIsLostModel", "isCell", "(J)Z"⟩, 28), (⟨"PointAtWhoIsLostModel", "isWalkerAt", "(I)Z"⟩, 28), (⟨"PointAtWhoIsLostModel", "newPost", "(III)I"⟩, 28), (⟨"PointAtWhoIsLostModel", "newWalker", "(II)I"⟩, 28), (⟨"PointAtWhoIsLostModel", "isWalker", "(I)Z"⟩, 28), (⟨"PointAtWhoIsLostModel", "keep", "([I)V"⟩, 28), (⟨"PointAtWhoIsLostModel", "next", "()V"⟩, 28), (⟨"PointAtWhoIsLostModel", "statement", "()Z"⟩, 28), (⟨"PointAtWhoIsLostModel", "isWord", "(Ljava/lang/String;)Z"⟩, 28), (⟨"PointAtWhoIsLostModel", "number", "(II)I"⟩, 28), (⟨"PointAtWhoIsLostModel", "place", "()I"⟩, 28), (⟨"PointAtWhoIsLostModel", "again", "([I)V"⟩, 28), (⟨"PointAtWhoIsLostModel", "pathOf", "(II)I"⟩, 28), (⟨"PointAtWhoIsLostModel", "walks", "(I)V"⟩, 28)]
theorem lw_r4 : ∀ q ∈ lw_privs_4, lw_okq q := List.forall_mem_cons.mpr ⟨lw_p48, List.forall_mem_cons.mpr ⟨lw_p49, List.forall_mem_cons.mpr ⟨lw_p50, List.forall_mem_cons.mpr ⟨lw_p51, List.forall_mem_cons.mpr ⟨lw_p52, List.forall_mem_cons.mpr ⟨lw_p53, List.forall_mem_cons.mpr ⟨lw_p54, List.forall_mem_cons.mpr ⟨lw_p55, List.forall_mem_cons.mpr ⟨lw_p56, List.forall_mem_cons.mpr ⟨lw_p57, List.forall_mem_cons.mpr ⟨lw_p58, List.forall_mem_cons.mpr ⟨lw_p59, List.forall_mem_cons.mpr ⟨lw_p60, List.forall_mem_cons.mpr ⟨lw_p61, List.forall_mem_cons.mpr ⟨lw_p62, List.forall_mem_cons.mpr ⟨lw_p63, fun _ h => absurd h List.not_mem_nil⟩⟩⟩⟩⟩⟩⟩⟩⟩⟩⟩⟩⟩⟩⟩⟩
theorem lw_p64 : lw_okq (⟨"PointAtWhoIsLostModel", "can", "(II)Z"⟩, 28) := ⟨⟨by decide +kernel, by decide +kernel⟩, List.mem_of_getElem? (i := 937) (by decide +kernel), List.mem_of_getElem? (i := 1241) (by decide +kernel), List.mem_of_getElem? (i := 1242) (by decide +kernel)⟩
theorem lw_p65 : lw_okq (⟨"PointAtWhoIsLostModel", "beside", "(II)I"⟩, 28) := ⟨⟨by decide +kernel, by decide +kernel⟩, List.mem_of_getElem? (i := 937) (by decide +kernel), List.mem_of_getElem? (i := 1245) (by decide +kernel), List.mem_of_getElem? (i := 1246) (by decide +kernel)⟩
theorem lw_p66 : lw_okq (⟨"PointAtWhoIsLostModel", "armFor", "(II)I"⟩, 28) := ⟨⟨by decide +kernel, by decide +kernel⟩, List.mem_of_getElem? (i := 937) (by decide +kernel), List.mem_of_getElem? (i := 1261) (by decide +kernel), List.mem_of_getElem? (i := 1262) (by decide +kernel)⟩
theorem lw_p67 : lw_okq (⟨"PointAtWhoIsLostModel", "one", "(I)V"⟩, 28) := ⟨⟨by decide +kernel, by decide +kernel⟩, List.mem_of_getElem? (i := 937) (by decide +kernel), List.mem_of_getElem? (i := 1265) (by decide +kernel), List.mem_of_getElem? (i := 1266) (by decide +kernel)⟩
theorem lw_p68 : lw_okq (⟨"PointAtWhoIsLostModel", "noPairs", "(II)I"⟩, 28) := ⟨⟨by decide +kernel, by decide +kernel⟩, List.mem_of_getElem? (i := 937) (by decide +kernel), List.mem_of_getElem? (i := 1273) (by decide +kernel), List.mem_of_getElem? (i := 1274) (by decide +kernel)⟩
theorem lw_p69 : lw_okq (⟨"PointAtWhoIsLostModel", "noTold", "(II)I"⟩, 28) := ⟨⟨by decide +kernel, by decide +kernel⟩, List.mem_of_getElem? (i := 937) (by decide +kernel), List.mem_of_getElem? (i := 1277) (by decide +kernel), List.mem_of_getElem? (i := 1278) (by decide +kernel)⟩
theorem lw_p70 : lw_okq (⟨"PointAtWhoIsLostModel", "toldAt", "(II)J"⟩, 28) := ⟨⟨by decide +kernel, by decide +kernel⟩, List.mem_of_getElem? (i := 937) (by decide +kernel), List.mem_of_getElem? (i := 1281) (by decide +kernel), List.mem_of_getElem? (i := 1282) (by decide +kernel)⟩
theorem lw_p71 : lw_okq (⟨"PointAtWhoIsLostModel", "fitting", "(III)I"⟩, 28) := ⟨⟨by decide +kernel, by decide +kernel⟩, List.mem_of_getElem? (i := 937) (by decide +kernel), List.mem_of_getElem? (i := 1287) (by decide +kernel), List.mem_of_getElem? (i := 1288) (by decide +kernel)⟩
theorem lw_p72 : lw_okq (⟨"PointAtWhoIsLostModel", "fits", "(IIII)Z"⟩, 28) := ⟨⟨by decide +kernel, by decide +kernel⟩, List.mem_of_getElem? (i := 937) (by decide +kernel), List.mem_of_getElem? (i := 1291) (by decide +kernel), List.mem_of_getElem? (i := 1292) (by decide +kernel)⟩
theorem lw_p73 : lw_okq (⟨"PointAtWhoIsLostModel", "isDry", "(I)Z"⟩, 28) := ⟨⟨by decide +kernel, by decide +kernel⟩, List.mem_of_getElem? (i := 937) (by decide +kernel), List.mem_of_getElem? (i := 1295) (by decide +kernel), List.mem_of_getElem? (i := 1296) (by decide +kernel)⟩
theorem lw_p74 : lw_okq (⟨"PointAtWhoIsLostModel", "asked", "(II)I"⟩, 28) := ⟨⟨by decide +kernel, by decide +kernel⟩, List.mem_of_getElem? (i := 937) (by decide +kernel), List.mem_of_getElem? (i := 1303) (by decide +kernel), List.mem_of_getElem? (i := 1304) (by decide +kernel)⟩
theorem lw_p75 : lw_okq (⟨"PointAtWhoIsLostModel", "worstOf", "(III)I"⟩, 28) := ⟨⟨by decide +kernel, by decide +kernel⟩, List.mem_of_getElem? (i := 937) (by decide +kernel), List.mem_of_getElem? (i := 1307) (by decide +kernel), List.mem_of_getElem? (i := 1308) (by decide +kernel)⟩
theorem lw_p76 : lw_okq (⟨"PointAtWhoIsLostModel", "liar", "(II)I"⟩, 28) := ⟨⟨by decide +kernel, by decide +kernel⟩, List.mem_of_getElem? (i := 937) (by decide +kernel), List.mem_of_getElem? (i := 1312) (by decide +kernel), List.mem_of_getElem? (i := 1313) (by decide +kernel)⟩
theorem lw_p77 : lw_okq (⟨"PointAtWhoIsLostModel", "blind", "()I"⟩, 28) := ⟨⟨by decide +kernel, by decide +kernel⟩, List.mem_of_getElem? (i := 937) (by decide +kernel), List.mem_of_getElem? (i := 1324) (by decide +kernel), List.mem_of_getElem? (i := 1325) (by decide +kernel)⟩
theorem lw_p78 : lw_okq (⟨"PointAtWhoIsLostModel", "allPosts", "()I"⟩, 28) := ⟨⟨by decide +kernel, by decide +kernel⟩, List.mem_of_getElem? (i := 937) (by decide +kernel), List.mem_of_getElem? (i := 1328) (by decide +kernel), List.mem_of_getElem? (i := 1329) (by decide +kernel)⟩
theorem lw_p79 : lw_okq (⟨"PointAtWhoIsLostModel", "groups", "(I)I"⟩, 28) := ⟨⟨by decide +kernel, by decide +kernel⟩, List.mem_of_getElem? (i := 937) (by decide +kernel), List.mem_of_getElem? (i := 1332) (by decide +kernel), List.mem_of_getElem? (i := 1333) (by decide +kernel)⟩
def lw_privs_5 : List (MethodName × Nat) := [(⟨"PointAtWhoIsLostModel", "can", "(II)Z"⟩, 28), (⟨"PointAtWhoIsLostModel", "beside", "(II)I"⟩, 28), (⟨"PointAtWhoIsLostModel", "armFor", "(II)I"⟩, 28), (⟨"PointAtWhoIsLostModel", "one", "(I)V"⟩, 28), (⟨"PointAtWhoIsLostModel", "noPairs", "(II)I"⟩, 28), (⟨"PointAtWhoIsLostModel", "noTold", "(II)I"⟩, 28), (⟨"PointAtWhoIsLostModel", "toldAt", "(II)J"⟩, 28), (⟨"PointAtWhoIsLostModel", "fitting", "(III)I"⟩, 28), (⟨"PointAtWhoIsLostModel", "fits", "(IIII)Z"⟩, 28), (⟨"PointAtWhoIsLostModel", "isDry", "(I)Z"⟩, 28), (⟨"PointAtWhoIsLostModel", "asked", "(II)I"⟩, 28), (⟨"PointAtWhoIsLostModel", "worstOf", "(III)I"⟩, 28), (⟨"PointAtWhoIsLostModel", "liar", "(II)I"⟩, 28), (⟨"PointAtWhoIsLostModel", "blind", "()I"⟩, 28), (⟨"PointAtWhoIsLostModel", "allPosts", "()I"⟩, 28), (⟨"PointAtWhoIsLostModel", "groups", "(I)I"⟩, 28)]
theorem lw_r5 : ∀ q ∈ lw_privs_5, lw_okq q := List.forall_mem_cons.mpr ⟨lw_p64, List.forall_mem_cons.mpr ⟨lw_p65, List.forall_mem_cons.mpr ⟨lw_p66, List.forall_mem_cons.mpr ⟨lw_p67, List.forall_mem_cons.mpr ⟨lw_p68, List.forall_mem_cons.mpr ⟨lw_p69, List.forall_mem_cons.mpr ⟨lw_p70, List.forall_mem_cons.mpr ⟨lw_p71, List.forall_mem_cons.mpr ⟨lw_p72, List.forall_mem_cons.mpr ⟨lw_p73, List.forall_mem_cons.mpr ⟨lw_p74, List.forall_mem_cons.mpr ⟨lw_p75, List.forall_mem_cons.mpr ⟨lw_p76, List.forall_mem_cons.mpr ⟨lw_p77, List.forall_mem_cons.mpr ⟨lw_p78, List.forall_mem_cons.mpr ⟨lw_p79, fun _ h => absurd h List.not_mem_nil⟩⟩⟩⟩⟩⟩⟩⟩⟩⟩⟩⟩⟩⟩⟩⟩
theorem lw_p80 : lw_okq (⟨"PointAtWhoIsLostModel", "isAlike", "(III)Z"⟩, 28) := ⟨⟨by decide +kernel, by decide +kernel⟩, List.mem_of_getElem? (i := 937) (by decide +kernel), List.mem_of_getElem? (i := 1336) (by decide +kernel), List.mem_of_getElem? (i := 1337) (by decide +kernel)⟩
theorem lw_p81 : lw_okq (⟨"PointAtWhoIsLostModel", "sizeOf", "(I)I"⟩, 28) := ⟨⟨by decide +kernel, by decide +kernel⟩, List.mem_of_getElem? (i := 937) (by decide +kernel), List.mem_of_getElem? (i := 1340) (by decide +kernel), List.mem_of_getElem? (i := 1341) (by decide +kernel)⟩
theorem lw_p82 : lw_okq (⟨"PointAtWhoIsLostModel", "commandTo", "(II)I"⟩, 28) := ⟨⟨by decide +kernel, by decide +kernel⟩, List.mem_of_getElem? (i := 937) (by decide +kernel), List.mem_of_getElem? (i := 1385) (by decide +kernel), List.mem_of_getElem? (i := 1386) (by decide +kernel)⟩
theorem lw_p83 : lw_okq (⟨"PointAtWhoIsLostModel", "out", "(I)I"⟩, 28) := ⟨⟨by decide +kernel, by decide +kernel⟩, List.mem_of_getElem? (i := 937) (by decide +kernel), List.mem_of_getElem? (i := 1405) (by decide +kernel), List.mem_of_getElem? (i := 1406) (by decide +kernel)⟩
theorem lw_p84 : lw_okq (⟨"PointAtWhoIsLostModel", "wrong", "(III)I"⟩, 28) := ⟨⟨by decide +kernel, by decide +kernel⟩, List.mem_of_getElem? (i := 937) (by decide +kernel), List.mem_of_getElem? (i := 1425) (by decide +kernel), List.mem_of_getElem? (i := 1426) (by decide +kernel)⟩
theorem lw_p85 : lw_okq (⟨"PointAtWhoIsLostModel", "noWalk", "(III)I"⟩, 28) := ⟨⟨by decide +kernel, by decide +kernel⟩, List.mem_of_getElem? (i := 937) (by decide +kernel), List.mem_of_getElem? (i := 1433) (by decide +kernel), List.mem_of_getElem? (i := 1434) (by decide +kernel)⟩
theorem lw_p86 : lw_okq (⟨"PointAtWhoIsLostModel", "goesBy", "(II)I"⟩, 28) := ⟨⟨by decide +kernel, by decide +kernel⟩, List.mem_of_getElem? (i := 937) (by decide +kernel), List.mem_of_getElem? (i := 1445) (by decide +kernel), List.mem_of_getElem? (i := 1446) (by decide +kernel)⟩
theorem lw_p87 : lw_okq (⟨"PointAtWhoIsLostModel", "day", "()V"⟩, 28) := ⟨⟨by decide +kernel, by decide +kernel⟩, List.mem_of_getElem? (i := 937) (by decide +kernel), List.mem_of_getElem? (i := 1453) (by decide +kernel), List.mem_of_getElem? (i := 1454) (by decide +kernel)⟩
theorem lw_p88 : lw_okq (⟨"PointAtWhoIsLostModel", "draw", "(I)I"⟩, 28) := ⟨⟨by decide +kernel, by decide +kernel⟩, List.mem_of_getElem? (i := 937) (by decide +kernel), List.mem_of_getElem? (i := 1457) (by decide +kernel), List.mem_of_getElem? (i := 1458) (by decide +kernel)⟩
theorem lw_p89 : lw_okq (⟨"PointAtWhoIsLostModel", "sureOnes", "()I"⟩, 28) := ⟨⟨by decide +kernel, by decide +kernel⟩, List.mem_of_getElem? (i := 937) (by decide +kernel), List.mem_of_getElem? (i := 1462) (by decide +kernel), List.mem_of_getElem? (i := 1463) (by decide +kernel)⟩
def lw_privs_6 : List (MethodName × Nat) := [(⟨"PointAtWhoIsLostModel", "isAlike", "(III)Z"⟩, 28), (⟨"PointAtWhoIsLostModel", "sizeOf", "(I)I"⟩, 28), (⟨"PointAtWhoIsLostModel", "commandTo", "(II)I"⟩, 28), (⟨"PointAtWhoIsLostModel", "out", "(I)I"⟩, 28), (⟨"PointAtWhoIsLostModel", "wrong", "(III)I"⟩, 28), (⟨"PointAtWhoIsLostModel", "noWalk", "(III)I"⟩, 28), (⟨"PointAtWhoIsLostModel", "goesBy", "(II)I"⟩, 28), (⟨"PointAtWhoIsLostModel", "day", "()V"⟩, 28), (⟨"PointAtWhoIsLostModel", "draw", "(I)I"⟩, 28), (⟨"PointAtWhoIsLostModel", "sureOnes", "()I"⟩, 28)]
theorem lw_r6 : ∀ q ∈ lw_privs_6, lw_okq q := List.forall_mem_cons.mpr ⟨lw_p80, List.forall_mem_cons.mpr ⟨lw_p81, List.forall_mem_cons.mpr ⟨lw_p82, List.forall_mem_cons.mpr ⟨lw_p83, List.forall_mem_cons.mpr ⟨lw_p84, List.forall_mem_cons.mpr ⟨lw_p85, List.forall_mem_cons.mpr ⟨lw_p86, List.forall_mem_cons.mpr ⟨lw_p87, List.forall_mem_cons.mpr ⟨lw_p88, List.forall_mem_cons.mpr ⟨lw_p89, fun _ h => absurd h List.not_mem_nil⟩⟩⟩⟩⟩⟩⟩⟩⟩⟩
def lw_privs : List (MethodName × Nat) := lw_privs_1 ++ (lw_privs_2 ++ (lw_privs_3 ++ (lw_privs_4 ++ (lw_privs_5 ++ (lw_privs_6)))))
def lw_tbl : List Cond := k2_sels lw_privs ++ tables_1
theorem lw_privs_ok : ∀ q ∈ lw_privs, lw_okq q := by
  show ∀ q ∈ lw_privs_1 ++ (lw_privs_2 ++ (lw_privs_3 ++ (lw_privs_4 ++ (lw_privs_5 ++ (lw_privs_6))))), lw_okq q
  exact List.forall_mem_append.mpr ⟨lw_r1, List.forall_mem_append.mpr ⟨lw_r2, List.forall_mem_append.mpr ⟨lw_r3, List.forall_mem_append.mpr ⟨lw_r4, List.forall_mem_append.mpr ⟨lw_r5, lw_r6⟩⟩⟩⟩⟩
-- ===== end of PART A; then your names; then what follows =====
def RX0 : String := "PointAtWhoIsLost$Land"
def TX0 : u_T := fun k => match k with
  | 0 => ("PointAtWhoIsLost$Land", "side", "I", false)
  | 1 => ("PointAtWhoIsLost$Land", "home", "I", false)
  | 2 => ("PointAtWhoIsLost$Land", "seed", "I", false)
  | 3 => ("PointAtWhoIsLost$Land", "posts", "I", false)
  | 4 => ("PointAtWhoIsLost$Land", "walkers", "I", false)
  | 5 => ("PointAtWhoIsLost$Land", "bogs", "[I", true)
  | 6 => ("PointAtWhoIsLost$Land", "postKind", "[I", true)
  | 7 => ("PointAtWhoIsLost$Land", "postA", "[I", true)
  | 8 => ("PointAtWhoIsLost$Land", "postCell", "[I", true)
  | 9 => ("PointAtWhoIsLost$Land", "walkerCell", "[I", true)
  | _ => ("PointAtWhoIsLost$Land", "walkerSure", "[I", true)
def tyX0 : Nat → FieldType := fun k => match k with
  | 0 => .int
  | 1 => .int
  | 2 => .int
  | 3 => .int
  | 4 => .int
  | 5 => .array .int
  | 6 => .array .int
  | 7 => .array .int
  | 8 => .array .int
  | 9 => .array .int
  | _ => .array .int
theorem nmX0 : ∀ a, a < 11 → ∀ b, b < 11 → a ≠ b → (TX0 a).2.1 ≠ (TX0 b).2.1 := by decide +kernel
theorem tyX0_ok : ∀ k, k < 11 → parseFieldDescriptor (TX0 k).2.2.1 = some (tyX0 k) := by decide +kernel
def RX1 : String := "PointAtWhoIsLost$Lookout"
def TX1 : u_T := fun k => match k with
  | 0 => ("PointAtWhoIsLost$Lookout", "cells", "I", false)
  | 1 => ("PointAtWhoIsLost$Lookout", "cellAt", "[I", true)
  | 2 => ("PointAtWhoIsLost$Lookout", "posts", "I", false)
  | 3 => ("PointAtWhoIsLost$Lookout", "arms", "[I", true)
  | 4 => ("PointAtWhoIsLost$Lookout", "groupAt", "[I", true)
  | 5 => ("PointAtWhoIsLost$Lookout", "sizes", "[I", true)
  | 6 => ("PointAtWhoIsLost$Lookout", "byArm", "[I", true)
  | 7 => ("PointAtWhoIsLost$Lookout", "newGroup", "[I", true)
  | 8 => ("PointAtWhoIsLost$Lookout", "marks", "[I", true)
  | _ => ("PointAtWhoIsLost$Lookout", "lastMark", "I", false)
def tyX1 : Nat → FieldType := fun k => match k with
  | 0 => .int
  | 1 => .array .int
  | 2 => .int
  | 3 => .array .int
  | 4 => .array .int
  | 5 => .array .int
  | 6 => .array .int
  | 7 => .array .int
  | 8 => .array .int
  | _ => .int
theorem nmX1 : ∀ a, a < 10 → ∀ b, b < 10 → a ≠ b → (TX1 a).2.1 ≠ (TX1 b).2.1 := by decide +kernel
theorem tyX1_ok : ∀ k, k < 10 → parseFieldDescriptor (TX1 k).2.2.1 = some (tyX1 k) := by decide +kernel
def RX2 : String := "PointAtWhoIsLost$Paths"
def TX2 : u_T := fun k => match k with
  | 0 => ("PointAtWhoIsLost$Paths", "steps", "[I", true)
  | _ => ("PointAtWhoIsLost$Paths", "queue", "[I", true)
def tyX2 : Nat → FieldType := fun k => match k with
  | 0 => .array .int
  | _ => .array .int
theorem nmX2 : ∀ a, a < 2 → ∀ b, b < 2 → a ≠ b → (TX2 a).2.1 ≠ (TX2 b).2.1 := by decide +kernel
theorem tyX2_ok : ∀ k, k < 2 → parseFieldDescriptor (TX2 k).2.2.1 = some (tyX2 k) := by decide +kernel
def RX3 : String := "PointAtWhoIsLost$Shelves"
def TX3 : u_T := fun k => match k with
  | 0 => ("PointAtWhoIsLost$Shelves", "content", "[I", true)
  | 1 => ("PointAtWhoIsLost$Shelves", "length", "[I", true)
  | _ => ("PointAtWhoIsLost$Shelves", "elements", "[J", true)
def tyX3 : Nat → FieldType := fun k => match k with
  | 0 => .array .int
  | 1 => .array .int
  | _ => .array .long
theorem nmX3 : ∀ a, a < 3 → ∀ b, b < 3 → a ≠ b → (TX3 a).2.1 ≠ (TX3 b).2.1 := by decide +kernel
theorem tyX3_ok : ∀ k, k < 3 → parseFieldDescriptor (TX3 k).2.2.1 = some (tyX3 k) := by decide +kernel
def RX4 : String := "PointAtWhoIsLost$Sight"
def TX4 : u_T := fun k => match k with
  | 0 => ("PointAtWhoIsLost$Sight", "lostCell", "[I", true)
  | _ => ("PointAtWhoIsLost$Sight", "lost", "I", false)
def tyX4 : Nat → FieldType := fun k => match k with
  | 0 => .array .int
  | _ => .int
theorem nmX4 : ∀ a, a < 2 → ∀ b, b < 2 → a ≠ b → (TX4 a).2.1 ≠ (TX4 b).2.1 := by decide +kernel
theorem tyX4_ok : ∀ k, k < 2 → parseFieldDescriptor (TX4 k).2.2.1 = some (tyX4 k) := by decide +kernel
def RX5 : String := "PointAtWhoIsLost$Tape"
def TX5 : u_T := fun k => match k with
  | 0 => ("PointAtWhoIsLost$Tape", "size", "I", false)
  | 1 => ("PointAtWhoIsLost$Tape", "start", "I", false)
  | 2 => ("PointAtWhoIsLost$Tape", "end", "I", false)
  | _ => ("PointAtWhoIsLost$Tape", "bytes", "[I", true)
def tyX5 : Nat → FieldType := fun k => match k with
  | 0 => .int
  | 1 => .int
  | 2 => .int
  | _ => .array .int
theorem nmX5 : ∀ a, a < 4 → ∀ b, b < 4 → a ≠ b → (TX5 a).2.1 ≠ (TX5 b).2.1 := by decide +kernel
theorem tyX5_ok : ∀ k, k < 4 → parseFieldDescriptor (TX5 k).2.2.1 = some (tyX5 k) := by decide +kernel
def RX6 : String := "PointAtWhoIsLost"
def TX6 : u_T := fun k => match k with
  | 0 => ("PointAtWhoIsLost", "land", "LPointAtWhoIsLost$Land;", true)
  | 1 => ("PointAtWhoIsLost", "kept", "LPointAtWhoIsLost$Land;", true)
  | 2 => ("PointAtWhoIsLost", "draft", "LPointAtWhoIsLost$Land;", true)
  | 3 => ("PointAtWhoIsLost", "hasKept", "Z", false)
  | 4 => ("PointAtWhoIsLost", "shelves", "LPointAtWhoIsLost$Shelves;", true)
  | 5 => ("PointAtWhoIsLost", "tape", "LPointAtWhoIsLost$Tape;", true)
  | 6 => ("PointAtWhoIsLost", "sight", "LPointAtWhoIsLost$Sight;", true)
  | 7 => ("PointAtWhoIsLost", "lookout", "LPointAtWhoIsLost$Lookout;", true)
  | 8 => ("PointAtWhoIsLost", "paths", "LPointAtWhoIsLost$Paths;", true)
  | 9 => ("PointAtWhoIsLost", "refusals", "[I", true)
  | 10 => ("PointAtWhoIsLost", "fitting", "[I", true)
  | 11 => ("PointAtWhoIsLost", "tally", "[I", true)
  | _ => ("PointAtWhoIsLost", "longest", "[I", true)
def tyX6 : Nat → FieldType := fun k => match k with
  | 0 => .object "PointAtWhoIsLost$Land"
  | 1 => .object "PointAtWhoIsLost$Land"
  | 2 => .object "PointAtWhoIsLost$Land"
  | 3 => .boolean
  | 4 => .object "PointAtWhoIsLost$Shelves"
  | 5 => .object "PointAtWhoIsLost$Tape"
  | 6 => .object "PointAtWhoIsLost$Sight"
  | 7 => .object "PointAtWhoIsLost$Lookout"
  | 8 => .object "PointAtWhoIsLost$Paths"
  | 9 => .array .int
  | 10 => .array .int
  | 11 => .array .int
  | _ => .array .int
theorem nmX6 : ∀ a, a < 13 → ∀ b, b < 13 → a ≠ b → (TX6 a).2.1 ≠ (TX6 b).2.1 := by decide +kernel
theorem tyX6_ok : ∀ k, k < 13 → parseFieldDescriptor (TX6 k).2.2.1 = some (tyX6 k) := by decide +kernel
def RX7 : String := "PointAtWhoIsLostModel"
def TX7 : u_T := fun k => match k with
  | 0 => ("PointAtWhoIsLostModel", "n", "I", false)
  | 1 => ("PointAtWhoIsLostModel", "bogs", "[Z", true)
  | 2 => ("PointAtWhoIsLostModel", "home", "I", false)
  | 3 => ("PointAtWhoIsLostModel", "posts", "I", false)
  | 4 => ("PointAtWhoIsLostModel", "kind", "[I", true)
  | 5 => ("PointAtWhoIsLostModel", "own", "[I", true)
  | 6 => ("PointAtWhoIsLostModel", "cell", "[I", true)
  | 7 => ("PointAtWhoIsLostModel", "walkers", "I", false)
  | 8 => ("PointAtWhoIsLostModel", "place", "[I", true)
  | 9 => ("PointAtWhoIsLostModel", "certain", "[I", true)
  | 10 => ("PointAtWhoIsLostModel", "seed", "I", false)
  | 11 => ("PointAtWhoIsLostModel", "taped", "I", false)
  | 12 => ("PointAtWhoIsLostModel", "tape", "[I", true)
  | 13 => ("PointAtWhoIsLostModel", "from", "I", false)
  | 14 => ("PointAtWhoIsLostModel", "to", "I", false)
  | 15 => ("PointAtWhoIsLostModel", "token", "I", false)
  | 16 => ("PointAtWhoIsLostModel", "value", "I", false)
  | 17 => ("PointAtWhoIsLostModel", "holding", "[I", true)
  | 18 => ("PointAtWhoIsLostModel", "rowLength", "[I", true)
  | 19 => ("PointAtWhoIsLostModel", "rowOf", "[J", true)
  | 20 => ("PointAtWhoIsLostModel", "refusals", "[I", true)
  | 21 => ("PointAtWhoIsLostModel", "imaged", "Z", false)
  | 22 => ("PointAtWhoIsLostModel", "old", "[I", true)
  | 23 => ("PointAtWhoIsLostModel", "ahead", "[I", true)
  | 24 => ("PointAtWhoIsLostModel", "lost", "I", false)
  | 25 => ("PointAtWhoIsLostModel", "lostAt", "[I", true)
  | 26 => ("PointAtWhoIsLostModel", "far", "[I", true)
  | _ => ("PointAtWhoIsLostModel", "group", "[I", true)
def tyX7 : Nat → FieldType := fun k => match k with
  | 0 => .int
  | 1 => .array .boolean
  | 2 => .int
  | 3 => .int
  | 4 => .array .int
  | 5 => .array .int
  | 6 => .array .int
  | 7 => .int
  | 8 => .array .int
  | 9 => .array .int
  | 10 => .int
  | 11 => .int
  | 12 => .array .int
  | 13 => .int
  | 14 => .int
  | 15 => .int
  | 16 => .int
  | 17 => .array .int
  | 18 => .array .int
  | 19 => .array .long
  | 20 => .array .int
  | 21 => .boolean
  | 22 => .array .int
  | 23 => .array .int
  | 24 => .int
  | 25 => .array .int
  | 26 => .array .int
  | _ => .array .int
theorem nmX7 : ∀ a, a < 28 → ∀ b, b < 28 → a ≠ b → (TX7 a).2.1 ≠ (TX7 b).2.1 := by decide +kernel
theorem tyX7_ok : ∀ k, k < 28 → parseFieldDescriptor (TX7 k).2.2.1 = some (tyX7 k) := by decide +kernel
def RL : String := "PointAtWhoIsLostLaw"
abbrev vwCl : List vw_C := [(RX0, TX0, 11), (RX1, TX1, 10), (RX2, TX2, 2), (RX3, TX3, 3), (RX4, TX4, 2), (RX5, TX5, 4), (RX6, TX6, 13), (RX7, TX7, 28)]
