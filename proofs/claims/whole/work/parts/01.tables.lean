-- ===== PART A: goes FIRST, ahead of the names: the tables' words, and 'selects' of the private methods out of them =====
/-- a private method of a class that the tables say can be made, by its rows of tables_1 -/
def lw_okq (q : MethodName × Nat) : Prop := (q.1.cls ≠ "java/lang/invoke/MethodHandle" ∧ q.1.cls ≠ "java/lang/invoke/VarHandle") ∧ Cond.instantiable q.1.cls q.2 ∈ tables_1 ∧ Cond.privateMethod q.1 ∈ tables_1 ∧ Cond.instanceMethod q.1 ∈ tables_1
theorem lw_p0 : lw_okq (⟨"WarmWall$WallReader", "clause", "(LWarmWall$Wall;)Z"⟩, 2) := ⟨⟨by decide +kernel, by decide +kernel⟩, List.mem_of_getElem? (i := 53) (by decide +kernel), List.mem_of_getElem? (i := 410) (by decide +kernel), List.mem_of_getElem? (i := 411) (by decide +kernel)⟩
theorem lw_p1 : lw_okq (⟨"WarmWall$WallReader", "items", "(LWarmWall$Kind;)Z"⟩, 2) := ⟨⟨by decide +kernel, by decide +kernel⟩, List.mem_of_getElem? (i := 53) (by decide +kernel), List.mem_of_getElem? (i := 420) (by decide +kernel), List.mem_of_getElem? (i := 421) (by decide +kernel)⟩
theorem lw_p2 : lw_okq (⟨"WarmWall$WallReader", "row", "(LWarmWall$Wall;)Z"⟩, 2) := ⟨⟨by decide +kernel, by decide +kernel⟩, List.mem_of_getElem? (i := 53) (by decide +kernel), List.mem_of_getElem? (i := 491) (by decide +kernel), List.mem_of_getElem? (i := 492) (by decide +kernel)⟩
theorem lw_p3 : lw_okq (⟨"WarmWall$LawReader", "clause", "(LWarmWall$Law;)Z"⟩, 2) := ⟨⟨by decide +kernel, by decide +kernel⟩, List.mem_of_getElem? (i := 77) (by decide +kernel), List.mem_of_getElem? (i := 524) (by decide +kernel), List.mem_of_getElem? (i := 525) (by decide +kernel)⟩
theorem lw_p4 : lw_okq (⟨"WarmWall$LawReader", "sum", "(LWarmWall$Law;I)Z"⟩, 2) := ⟨⟨by decide +kernel, by decide +kernel⟩, List.mem_of_getElem? (i := 77) (by decide +kernel), List.mem_of_getElem? (i := 534) (by decide +kernel), List.mem_of_getElem? (i := 535) (by decide +kernel)⟩
theorem lw_p5 : lw_okq (⟨"WarmWall$LawReader", "term", "(LWarmWall$Law;I)Z"⟩, 2) := ⟨⟨by decide +kernel, by decide +kernel⟩, List.mem_of_getElem? (i := 77) (by decide +kernel), List.mem_of_getElem? (i := 538) (by decide +kernel), List.mem_of_getElem? (i := 539) (by decide +kernel)⟩
theorem lw_p6 : lw_okq (⟨"WarmWall$LawReader", "atom", "(LWarmWall$Law;I)Z"⟩, 2) := ⟨⟨by decide +kernel, by decide +kernel⟩, List.mem_of_getElem? (i := 77) (by decide +kernel), List.mem_of_getElem? (i := 542) (by decide +kernel), List.mem_of_getElem? (i := 543) (by decide +kernel)⟩
theorem lw_p7 : lw_okq (⟨"WarmWall$LawReader", "condition", "(LWarmWall$Law;IZ)Z"⟩, 2) := ⟨⟨by decide +kernel, by decide +kernel⟩, List.mem_of_getElem? (i := 77) (by decide +kernel), List.mem_of_getElem? (i := 561) (by decide +kernel), List.mem_of_getElem? (i := 562) (by decide +kernel)⟩
theorem lw_p8 : lw_okq (⟨"WarmWall$LawReader", "truth", "(LWarmWall$Law;IZ)Z"⟩, 2) := ⟨⟨by decide +kernel, by decide +kernel⟩, List.mem_of_getElem? (i := 77) (by decide +kernel), List.mem_of_getElem? (i := 565) (by decide +kernel), List.mem_of_getElem? (i := 566) (by decide +kernel)⟩
theorem lw_p9 : lw_okq (⟨"WarmWall$LawReader", "unit", "(LWarmWall$Law;IZ)Z"⟩, 2) := ⟨⟨by decide +kernel, by decide +kernel⟩, List.mem_of_getElem? (i := 77) (by decide +kernel), List.mem_of_getElem? (i := 569) (by decide +kernel), List.mem_of_getElem? (i := 570) (by decide +kernel)⟩
theorem lw_p10 : lw_okq (⟨"WarmWall", "newWall", "()I"⟩, 12) := ⟨⟨by decide +kernel, by decide +kernel⟩, List.mem_of_getElem? (i := 26) (by decide +kernel), List.mem_of_getElem? (i := 577) (by decide +kernel), List.mem_of_getElem? (i := 578) (by decide +kernel)⟩
theorem lw_p11 : lw_okq (⟨"WarmWall", "newLaw", "()I"⟩, 12) := ⟨⟨by decide +kernel, by decide +kernel⟩, List.mem_of_getElem? (i := 26) (by decide +kernel), List.mem_of_getElem? (i := 594) (by decide +kernel), List.mem_of_getElem? (i := 595) (by decide +kernel)⟩
theorem lw_p12 : lw_okq (⟨"WarmWall$Sky", "turnTo", "(II)V"⟩, 6) := ⟨⟨by decide +kernel, by decide +kernel⟩, List.mem_of_getElem? (i := 86) (by decide +kernel), List.mem_of_getElem? (i := 677) (by decide +kernel), List.mem_of_getElem? (i := 678) (by decide +kernel)⟩
theorem lw_p13 : lw_okq (⟨"WarmWall$Course", "share", "(IILWarmWall$Wall;)I"⟩, 9) := ⟨⟨by decide +kernel, by decide +kernel⟩, List.mem_of_getElem? (i := 135) (by decide +kernel), List.mem_of_getElem? (i := 692) (by decide +kernel), List.mem_of_getElem? (i := 693) (by decide +kernel)⟩
theorem lw_p14 : lw_okq (⟨"WarmWall$Course", "settle", "(ZLWarmWall$Wall;)V"⟩, 9) := ⟨⟨by decide +kernel, by decide +kernel⟩, List.mem_of_getElem? (i := 135) (by decide +kernel), List.mem_of_getElem? (i := 697) (by decide +kernel), List.mem_of_getElem? (i := 698) (by decide +kernel)⟩
theorem lw_p15 : lw_okq (⟨"WarmWall", "goAhead", "(I)V"⟩, 12) := ⟨⟨by decide +kernel, by decide +kernel⟩, List.mem_of_getElem? (i := 26) (by decide +kernel), List.mem_of_getElem? (i := 732) (by decide +kernel), List.mem_of_getElem? (i := 733) (by decide +kernel)⟩
def lw_privs_1 : List (MethodName × Nat) := [(⟨"WarmWall$WallReader", "clause", "(LWarmWall$Wall;)Z"⟩, 2), (⟨"WarmWall$WallReader", "items", "(LWarmWall$Kind;)Z"⟩, 2), (⟨"WarmWall$WallReader", "row", "(LWarmWall$Wall;)Z"⟩, 2), (⟨"WarmWall$LawReader", "clause", "(LWarmWall$Law;)Z"⟩, 2), (⟨"WarmWall$LawReader", "sum", "(LWarmWall$Law;I)Z"⟩, 2), (⟨"WarmWall$LawReader", "term", "(LWarmWall$Law;I)Z"⟩, 2), (⟨"WarmWall$LawReader", "atom", "(LWarmWall$Law;I)Z"⟩, 2), (⟨"WarmWall$LawReader", "condition", "(LWarmWall$Law;IZ)Z"⟩, 2), (⟨"WarmWall$LawReader", "truth", "(LWarmWall$Law;IZ)Z"⟩, 2), (⟨"WarmWall$LawReader", "unit", "(LWarmWall$Law;IZ)Z"⟩, 2), (⟨"WarmWall", "newWall", "()I"⟩, 12), (⟨"WarmWall", "newLaw", "()I"⟩, 12), (⟨"WarmWall$Sky", "turnTo", "(II)V"⟩, 6), (⟨"WarmWall$Course", "share", "(IILWarmWall$Wall;)I"⟩, 9), (⟨"WarmWall$Course", "settle", "(ZLWarmWall$Wall;)V"⟩, 9), (⟨"WarmWall", "goAhead", "(I)V"⟩, 12)]
theorem lw_r1 : ∀ q ∈ lw_privs_1, lw_okq q := List.forall_mem_cons.mpr ⟨lw_p0, List.forall_mem_cons.mpr ⟨lw_p1, List.forall_mem_cons.mpr ⟨lw_p2, List.forall_mem_cons.mpr ⟨lw_p3, List.forall_mem_cons.mpr ⟨lw_p4, List.forall_mem_cons.mpr ⟨lw_p5, List.forall_mem_cons.mpr ⟨lw_p6, List.forall_mem_cons.mpr ⟨lw_p7, List.forall_mem_cons.mpr ⟨lw_p8, List.forall_mem_cons.mpr ⟨lw_p9, List.forall_mem_cons.mpr ⟨lw_p10, List.forall_mem_cons.mpr ⟨lw_p11, List.forall_mem_cons.mpr ⟨lw_p12, List.forall_mem_cons.mpr ⟨lw_p13, List.forall_mem_cons.mpr ⟨lw_p14, List.forall_mem_cons.mpr ⟨lw_p15, fun _ h => absurd h List.not_mem_nil⟩⟩⟩⟩⟩⟩⟩⟩⟩⟩⟩⟩⟩⟩⟩⟩
theorem lw_p16 : lw_okq (⟨"WarmWall", "airAhead", "(I)I"⟩, 12) := ⟨⟨by decide +kernel, by decide +kernel⟩, List.mem_of_getElem? (i := 26) (by decide +kernel), List.mem_of_getElem? (i := 745) (by decide +kernel), List.mem_of_getElem? (i := 746) (by decide +kernel)⟩
theorem lw_p17 : lw_okq (⟨"WarmWall", "sumOf", "([I)I"⟩, 12) := ⟨⟨by decide +kernel, by decide +kernel⟩, List.mem_of_getElem? (i := 26) (by decide +kernel), List.mem_of_getElem? (i := 749) (by decide +kernel), List.mem_of_getElem? (i := 750) (by decide +kernel)⟩
theorem lw_p18 : lw_okq (⟨"WarmWall", "dayLike", "(I)I"⟩, 12) := ⟨⟨by decide +kernel, by decide +kernel⟩, List.mem_of_getElem? (i := 26) (by decide +kernel), List.mem_of_getElem? (i := 802) (by decide +kernel), List.mem_of_getElem? (i := 803) (by decide +kernel)⟩
theorem lw_p19 : lw_okq (⟨"WarmWall", "nightAhead", "()V"⟩, 12) := ⟨⟨by decide +kernel, by decide +kernel⟩, List.mem_of_getElem? (i := 26) (by decide +kernel), List.mem_of_getElem? (i := 810) (by decide +kernel), List.mem_of_getElem? (i := 811) (by decide +kernel)⟩
theorem lw_p20 : lw_okq (⟨"WarmWall", "bestFree", "(I)I"⟩, 12) := ⟨⟨by decide +kernel, by decide +kernel⟩, List.mem_of_getElem? (i := 26) (by decide +kernel), List.mem_of_getElem? (i := 824) (by decide +kernel), List.mem_of_getElem? (i := 825) (by decide +kernel)⟩
theorem lw_p21 : lw_okq (⟨"WarmWall", "allSleepWarm", "(I)Z"⟩, 12) := ⟨⟨by decide +kernel, by decide +kernel⟩, List.mem_of_getElem? (i := 26) (by decide +kernel), List.mem_of_getElem? (i := 832) (by decide +kernel), List.mem_of_getElem? (i := 833) (by decide +kernel)⟩
theorem lw_p22 : lw_okq (⟨"WarmWall", "askedBy", "(I)I"⟩, 12) := ⟨⟨by decide +kernel, by decide +kernel⟩, List.mem_of_getElem? (i := 26) (by decide +kernel), List.mem_of_getElem? (i := 836) (by decide +kernel), List.mem_of_getElem? (i := 837) (by decide +kernel)⟩
theorem lw_p23 : lw_okq (⟨"WarmWall", "warmCells", "(I)I"⟩, 12) := ⟨⟨by decide +kernel, by decide +kernel⟩, List.mem_of_getElem? (i := 26) (by decide +kernel), List.mem_of_getElem? (i := 840) (by decide +kernel), List.mem_of_getElem? (i := 841) (by decide +kernel)⟩
theorem lw_p24 : lw_okq (⟨"WarmWall", "sleepersWhoAsk", "(II)I"⟩, 12) := ⟨⟨by decide +kernel, by decide +kernel⟩, List.mem_of_getElem? (i := 26) (by decide +kernel), List.mem_of_getElem? (i := 844) (by decide +kernel), List.mem_of_getElem? (i := 845) (by decide +kernel)⟩
theorem lw_p25 : lw_okq (⟨"WarmWall", "layAnew", "(I)I"⟩, 12) := ⟨⟨by decide +kernel, by decide +kernel⟩, List.mem_of_getElem? (i := 26) (by decide +kernel), List.mem_of_getElem? (i := 864) (by decide +kernel), List.mem_of_getElem? (i := 865) (by decide +kernel)⟩
theorem lw_p26 : lw_okq (⟨"WarmWall", "leastOfAll", "()I"⟩, 12) := ⟨⟨by decide +kernel, by decide +kernel⟩, List.mem_of_getElem? (i := 26) (by decide +kernel), List.mem_of_getElem? (i := 868) (by decide +kernel), List.mem_of_getElem? (i := 869) (by decide +kernel)⟩
theorem lw_p27 : lw_okq (⟨"WarmWall", "sortsThatFit", "(I)I"⟩, 12) := ⟨⟨by decide +kernel, by decide +kernel⟩, List.mem_of_getElem? (i := 26) (by decide +kernel), List.mem_of_getElem? (i := 884) (by decide +kernel), List.mem_of_getElem? (i := 885) (by decide +kernel)⟩
theorem lw_p28 : lw_okq (⟨"WarmWall", "isLikeTouches", "(II)Z"⟩, 12) := ⟨⟨by decide +kernel, by decide +kernel⟩, List.mem_of_getElem? (i := 26) (by decide +kernel), List.mem_of_getElem? (i := 888) (by decide +kernel), List.mem_of_getElem? (i := 889) (by decide +kernel)⟩
theorem lw_p29 : lw_okq (⟨"WarmWall", "tryOut", "(III)V"⟩, 12) := ⟨⟨by decide +kernel, by decide +kernel⟩, List.mem_of_getElem? (i := 26) (by decide +kernel), List.mem_of_getElem? (i := 905) (by decide +kernel), List.mem_of_getElem? (i := 906) (by decide +kernel)⟩
theorem lw_p30 : lw_okq (⟨"WarmWall", "unlikeWarmths", "(III)I"⟩, 12) := ⟨⟨by decide +kernel, by decide +kernel⟩, List.mem_of_getElem? (i := 26) (by decide +kernel), List.mem_of_getElem? (i := 912) (by decide +kernel), List.mem_of_getElem? (i := 913) (by decide +kernel)⟩
theorem lw_p31 : lw_okq (⟨"java/lang/Throwable", "fillInStackTrace", "(I)Ljava/lang/Throwable;"⟩, 6) := ⟨⟨by decide +kernel, by decide +kernel⟩, List.mem_of_getElem? (i := 960) (by decide +kernel), List.mem_of_getElem? (i := 958) (by decide +kernel), List.mem_of_getElem? (i := 959) (by decide +kernel)⟩
def lw_privs_2 : List (MethodName × Nat) := [(⟨"WarmWall", "airAhead", "(I)I"⟩, 12), (⟨"WarmWall", "sumOf", "([I)I"⟩, 12), (⟨"WarmWall", "dayLike", "(I)I"⟩, 12), (⟨"WarmWall", "nightAhead", "()V"⟩, 12), (⟨"WarmWall", "bestFree", "(I)I"⟩, 12), (⟨"WarmWall", "allSleepWarm", "(I)Z"⟩, 12), (⟨"WarmWall", "askedBy", "(I)I"⟩, 12), (⟨"WarmWall", "warmCells", "(I)I"⟩, 12), (⟨"WarmWall", "sleepersWhoAsk", "(II)I"⟩, 12), (⟨"WarmWall", "layAnew", "(I)I"⟩, 12), (⟨"WarmWall", "leastOfAll", "()I"⟩, 12), (⟨"WarmWall", "sortsThatFit", "(I)I"⟩, 12), (⟨"WarmWall", "isLikeTouches", "(II)Z"⟩, 12), (⟨"WarmWall", "tryOut", "(III)V"⟩, 12), (⟨"WarmWall", "unlikeWarmths", "(III)I"⟩, 12), (⟨"java/lang/Throwable", "fillInStackTrace", "(I)Ljava/lang/Throwable;"⟩, 6)]
theorem lw_r2 : ∀ q ∈ lw_privs_2, lw_okq q := List.forall_mem_cons.mpr ⟨lw_p16, List.forall_mem_cons.mpr ⟨lw_p17, List.forall_mem_cons.mpr ⟨lw_p18, List.forall_mem_cons.mpr ⟨lw_p19, List.forall_mem_cons.mpr ⟨lw_p20, List.forall_mem_cons.mpr ⟨lw_p21, List.forall_mem_cons.mpr ⟨lw_p22, List.forall_mem_cons.mpr ⟨lw_p23, List.forall_mem_cons.mpr ⟨lw_p24, List.forall_mem_cons.mpr ⟨lw_p25, List.forall_mem_cons.mpr ⟨lw_p26, List.forall_mem_cons.mpr ⟨lw_p27, List.forall_mem_cons.mpr ⟨lw_p28, List.forall_mem_cons.mpr ⟨lw_p29, List.forall_mem_cons.mpr ⟨lw_p30, List.forall_mem_cons.mpr ⟨lw_p31, fun _ h => absurd h List.not_mem_nil⟩⟩⟩⟩⟩⟩⟩⟩⟩⟩⟩⟩⟩⟩⟩⟩
theorem lw_p32 : lw_okq (⟨"WarmWallModel", "readWall", "()I"⟩, 63) := ⟨⟨by decide +kernel, by decide +kernel⟩, List.mem_of_getElem? (i := 991) (by decide +kernel), List.mem_of_getElem? (i := 1207) (by decide +kernel), List.mem_of_getElem? (i := 1208) (by decide +kernel)⟩
theorem lw_p33 : lw_okq (⟨"WarmWallModel", "clauseText", "()V"⟩, 63) := ⟨⟨by decide +kernel, by decide +kernel⟩, List.mem_of_getElem? (i := 991) (by decide +kernel), List.mem_of_getElem? (i := 1211) (by decide +kernel), List.mem_of_getElem? (i := 1212) (by decide +kernel)⟩
theorem lw_p34 : lw_okq (⟨"WarmWallModel", "look", "()I"⟩, 63) := ⟨⟨by decide +kernel, by decide +kernel⟩, List.mem_of_getElem? (i := 991) (by decide +kernel), List.mem_of_getElem? (i := 1215) (by decide +kernel), List.mem_of_getElem? (i := 1216) (by decide +kernel)⟩
theorem lw_p35 : lw_okq (⟨"WarmWallModel", "here", "()I"⟩, 63) := ⟨⟨by decide +kernel, by decide +kernel⟩, List.mem_of_getElem? (i := 991) (by decide +kernel), List.mem_of_getElem? (i := 1219) (by decide +kernel), List.mem_of_getElem? (i := 1220) (by decide +kernel)⟩
theorem lw_p36 : lw_okq (⟨"WarmWallModel", "items", "(I[III)V"⟩, 63) := ⟨⟨by decide +kernel, by decide +kernel⟩, List.mem_of_getElem? (i := 991) (by decide +kernel), List.mem_of_getElem? (i := 1223) (by decide +kernel), List.mem_of_getElem? (i := 1224) (by decide +kernel)⟩
theorem lw_p37 : lw_okq (⟨"WarmWallModel", "number", "(II)I"⟩, 63) := ⟨⟨by decide +kernel, by decide +kernel⟩, List.mem_of_getElem? (i := 991) (by decide +kernel), List.mem_of_getElem? (i := 1239) (by decide +kernel), List.mem_of_getElem? (i := 1240) (by decide +kernel)⟩
theorem lw_p38 : lw_okq (⟨"WarmWallModel", "bad", "()V"⟩, 63) := ⟨⟨by decide +kernel, by decide +kernel⟩, List.mem_of_getElem? (i := 991) (by decide +kernel), List.mem_of_getElem? (i := 1246) (by decide +kernel), List.mem_of_getElem? (i := 1247) (by decide +kernel)⟩
theorem lw_p39 : lw_okq (⟨"WarmWallModel", "rowText", "()V"⟩, 63) := ⟨⟨by decide +kernel, by decide +kernel⟩, List.mem_of_getElem? (i := 991) (by decide +kernel), List.mem_of_getElem? (i := 1253) (by decide +kernel), List.mem_of_getElem? (i := 1254) (by decide +kernel)⟩
theorem lw_p40 : lw_okq (⟨"WarmWallModel", "isWhole", "()Z"⟩, 63) := ⟨⟨by decide +kernel, by decide +kernel⟩, List.mem_of_getElem? (i := 991) (by decide +kernel), List.mem_of_getElem? (i := 1257) (by decide +kernel), List.mem_of_getElem? (i := 1258) (by decide +kernel)⟩
theorem lw_p41 : lw_okq (⟨"WarmWallModel", "readLaw", "(I)I"⟩, 63) := ⟨⟨by decide +kernel, by decide +kernel⟩, List.mem_of_getElem? (i := 991) (by decide +kernel), List.mem_of_getElem? (i := 1261) (by decide +kernel), List.mem_of_getElem? (i := 1262) (by decide +kernel)⟩
theorem lw_p42 : lw_okq (⟨"WarmWallModel", "open", "(I)V"⟩, 63) := ⟨⟨by decide +kernel, by decide +kernel⟩, List.mem_of_getElem? (i := 991) (by decide +kernel), List.mem_of_getElem? (i := 1265) (by decide +kernel), List.mem_of_getElem? (i := 1266) (by decide +kernel)⟩
theorem lw_p43 : lw_okq (⟨"WarmWallModel", "clause", "()V"⟩, 63) := ⟨⟨by decide +kernel, by decide +kernel⟩, List.mem_of_getElem? (i := 991) (by decide +kernel), List.mem_of_getElem? (i := 1269) (by decide +kernel), List.mem_of_getElem? (i := 1270) (by decide +kernel)⟩
theorem lw_p44 : lw_okq (⟨"WarmWallModel", "condition", "()V"⟩, 63) := ⟨⟨by decide +kernel, by decide +kernel⟩, List.mem_of_getElem? (i := 991) (by decide +kernel), List.mem_of_getElem? (i := 1273) (by decide +kernel), List.mem_of_getElem? (i := 1274) (by decide +kernel)⟩
theorem lw_p45 : lw_okq (⟨"WarmWallModel", "unit", "()V"⟩, 63) := ⟨⟨by decide +kernel, by decide +kernel⟩, List.mem_of_getElem? (i := 991) (by decide +kernel), List.mem_of_getElem? (i := 1277) (by decide +kernel), List.mem_of_getElem? (i := 1278) (by decide +kernel)⟩
theorem lw_p46 : lw_okq (⟨"WarmWallModel", "opens", "()V"⟩, 63) := ⟨⟨by decide +kernel, by decide +kernel⟩, List.mem_of_getElem? (i := 991) (by decide +kernel), List.mem_of_getElem? (i := 1281) (by decide +kernel), List.mem_of_getElem? (i := 1282) (by decide +kernel)⟩
theorem lw_p47 : lw_okq (⟨"WarmWallModel", "put", "(II)V"⟩, 63) := ⟨⟨by decide +kernel, by decide +kernel⟩, List.mem_of_getElem? (i := 991) (by decide +kernel), List.mem_of_getElem? (i := 1285) (by decide +kernel), List.mem_of_getElem? (i := 1286) (by decide +kernel)⟩
def lw_privs_3 : List (MethodName × Nat) := [(⟨"WarmWallModel", "readWall", "()I"⟩, 63), (⟨"WarmWallModel", "clauseText", "()V"⟩, 63), (⟨"WarmWallModel", "look", "()I"⟩, 63), (⟨"WarmWallModel", "here", "()I"⟩, 63), (⟨"WarmWallModel", "items", "(I[III)V"⟩, 63), (⟨"WarmWallModel", "number", "(II)I"⟩, 63), (⟨"WarmWallModel", "bad", "()V"⟩, 63), (⟨"WarmWallModel", "rowText", "()V"⟩, 63), (⟨"WarmWallModel", "isWhole", "()Z"⟩, 63), (⟨"WarmWallModel", "readLaw", "(I)I"⟩, 63), (⟨"WarmWallModel", "open", "(I)V"⟩, 63), (⟨"WarmWallModel", "clause", "()V"⟩, 63), (⟨"WarmWallModel", "condition", "()V"⟩, 63), (⟨"WarmWallModel", "unit", "()V"⟩, 63), (⟨"WarmWallModel", "opens", "()V"⟩, 63), (⟨"WarmWallModel", "put", "(II)V"⟩, 63)]
theorem lw_r3 : ∀ q ∈ lw_privs_3, lw_okq q := List.forall_mem_cons.mpr ⟨lw_p32, List.forall_mem_cons.mpr ⟨lw_p33, List.forall_mem_cons.mpr ⟨lw_p34, List.forall_mem_cons.mpr ⟨lw_p35, List.forall_mem_cons.mpr ⟨lw_p36, List.forall_mem_cons.mpr ⟨lw_p37, List.forall_mem_cons.mpr ⟨lw_p38, List.forall_mem_cons.mpr ⟨lw_p39, List.forall_mem_cons.mpr ⟨lw_p40, List.forall_mem_cons.mpr ⟨lw_p41, List.forall_mem_cons.mpr ⟨lw_p42, List.forall_mem_cons.mpr ⟨lw_p43, List.forall_mem_cons.mpr ⟨lw_p44, List.forall_mem_cons.mpr ⟨lw_p45, List.forall_mem_cons.mpr ⟨lw_p46, List.forall_mem_cons.mpr ⟨lw_p47, fun _ h => absurd h List.not_mem_nil⟩⟩⟩⟩⟩⟩⟩⟩⟩⟩⟩⟩⟩⟩⟩⟩
theorem lw_p48 : lw_okq (⟨"WarmWallModel", "closes", "(I)V"⟩, 63) := ⟨⟨by decide +kernel, by decide +kernel⟩, List.mem_of_getElem? (i := 991) (by decide +kernel), List.mem_of_getElem? (i := 1289) (by decide +kernel), List.mem_of_getElem? (i := 1290) (by decide +kernel)⟩
theorem lw_p49 : lw_okq (⟨"WarmWallModel", "sum", "()V"⟩, 63) := ⟨⟨by decide +kernel, by decide +kernel⟩, List.mem_of_getElem? (i := 991) (by decide +kernel), List.mem_of_getElem? (i := 1293) (by decide +kernel), List.mem_of_getElem? (i := 1294) (by decide +kernel)⟩
theorem lw_p50 : lw_okq (⟨"WarmWallModel", "term", "()V"⟩, 63) := ⟨⟨by decide +kernel, by decide +kernel⟩, List.mem_of_getElem? (i := 991) (by decide +kernel), List.mem_of_getElem? (i := 1297) (by decide +kernel), List.mem_of_getElem? (i := 1298) (by decide +kernel)⟩
theorem lw_p51 : lw_okq (⟨"WarmWallModel", "atom", "()V"⟩, 63) := ⟨⟨by decide +kernel, by decide +kernel⟩, List.mem_of_getElem? (i := 991) (by decide +kernel), List.mem_of_getElem? (i := 1301) (by decide +kernel), List.mem_of_getElem? (i := 1302) (by decide +kernel)⟩
theorem lw_p52 : lw_okq (⟨"WarmWallModel", "plainNumber", "()I"⟩, 63) := ⟨⟨by decide +kernel, by decide +kernel⟩, List.mem_of_getElem? (i := 991) (by decide +kernel), List.mem_of_getElem? (i := 1305) (by decide +kernel), List.mem_of_getElem? (i := 1306) (by decide +kernel)⟩
theorem lw_p53 : lw_okq (⟨"WarmWallModel", "compare", "()V"⟩, 63) := ⟨⟨by decide +kernel, by decide +kernel⟩, List.mem_of_getElem? (i := 991) (by decide +kernel), List.mem_of_getElem? (i := 1312) (by decide +kernel), List.mem_of_getElem? (i := 1313) (by decide +kernel)⟩
theorem lw_p54 : lw_okq (⟨"WarmWallModel", "goOnAnd", "()V"⟩, 63) := ⟨⟨by decide +kernel, by decide +kernel⟩, List.mem_of_getElem? (i := 991) (by decide +kernel), List.mem_of_getElem? (i := 1319) (by decide +kernel), List.mem_of_getElem? (i := 1320) (by decide +kernel)⟩
theorem lw_p55 : lw_okq (⟨"WarmWallModel", "goOnOr", "()V"⟩, 63) := ⟨⟨by decide +kernel, by decide +kernel⟩, List.mem_of_getElem? (i := 991) (by decide +kernel), List.mem_of_getElem? (i := 1323) (by decide +kernel), List.mem_of_getElem? (i := 1324) (by decide +kernel)⟩
theorem lw_p56 : lw_okq (⟨"WarmWallModel", "atEnd", "()I"⟩, 63) := ⟨⟨by decide +kernel, by decide +kernel⟩, List.mem_of_getElem? (i := 991) (by decide +kernel), List.mem_of_getElem? (i := 1327) (by decide +kernel), List.mem_of_getElem? (i := 1328) (by decide +kernel)⟩
theorem lw_p57 : lw_okq (⟨"WarmWallModel", "takeWall", "()I"⟩, 63) := ⟨⟨by decide +kernel, by decide +kernel⟩, List.mem_of_getElem? (i := 991) (by decide +kernel), List.mem_of_getElem? (i := 1335) (by decide +kernel), List.mem_of_getElem? (i := 1336) (by decide +kernel)⟩
theorem lw_p58 : lw_okq (⟨"WarmWallModel", "isCell", "(I)Z"⟩, 63) := ⟨⟨by decide +kernel, by decide +kernel⟩, List.mem_of_getElem? (i := 991) (by decide +kernel), List.mem_of_getElem? (i := 1346) (by decide +kernel), List.mem_of_getElem? (i := 1347) (by decide +kernel)⟩
theorem lw_p59 : lw_okq (⟨"WarmWallModel", "sunOn", "(II)I"⟩, 63) := ⟨⟨by decide +kernel, by decide +kernel⟩, List.mem_of_getElem? (i := 991) (by decide +kernel), List.mem_of_getElem? (i := 1350) (by decide +kernel), List.mem_of_getElem? (i := 1351) (by decide +kernel)⟩
theorem lw_p60 : lw_okq (⟨"WarmWallModel", "worthOf", "(I)I"⟩, 63) := ⟨⟨by decide +kernel, by decide +kernel⟩, List.mem_of_getElem? (i := 991) (by decide +kernel), List.mem_of_getElem? (i := 1354) (by decide +kernel), List.mem_of_getElem? (i := 1355) (by decide +kernel)⟩
theorem lw_p61 : lw_okq (⟨"WarmWallModel", "workOut", "(III)I"⟩, 63) := ⟨⟨by decide +kernel, by decide +kernel⟩, List.mem_of_getElem? (i := 991) (by decide +kernel), List.mem_of_getElem? (i := 1358) (by decide +kernel), List.mem_of_getElem? (i := 1359) (by decide +kernel)⟩
theorem lw_p62 : lw_okq (⟨"WarmWallModel", "putAside", "()V"⟩, 63) := ⟨⟨by decide +kernel, by decide +kernel⟩, List.mem_of_getElem? (i := 991) (by decide +kernel), List.mem_of_getElem? (i := 1378) (by decide +kernel), List.mem_of_getElem? (i := 1379) (by decide +kernel)⟩
theorem lw_p63 : lw_okq (⟨"WarmWallModel", "pass", "()V"⟩, 63) := ⟨⟨by decide +kernel, by decide +kernel⟩, List.mem_of_getElem? (i := 991) (by decide +kernel), List.mem_of_getElem? (i := 1382) (by decide +kernel), List.mem_of_getElem? (i := 1383) (by decide +kernel)⟩
def lw_privs_4 : List (MethodName × Nat) := [(⟨"WarmWallModel", "closes", "(I)V"⟩, 63), (⟨"WarmWallModel", "sum", "()V"⟩, 63), (⟨"WarmWallModel", "term", "()V"⟩, 63), (⟨"WarmWallModel", "atom", "()V"⟩, 63), (⟨"WarmWallModel", "plainNumber", "()I"⟩, 63), (⟨"WarmWallModel", "compare", "()V"⟩, 63), (⟨"WarmWallModel", "goOnAnd", "()V"⟩, 63), (⟨"WarmWallModel", "goOnOr", "()V"⟩, 63), (⟨"WarmWallModel", "atEnd", "()I"⟩, 63), (⟨"WarmWallModel", "takeWall", "()I"⟩, 63), (⟨"WarmWallModel", "isCell", "(I)Z"⟩, 63), (⟨"WarmWallModel", "sunOn", "(II)I"⟩, 63), (⟨"WarmWallModel", "worthOf", "(I)I"⟩, 63), (⟨"WarmWallModel", "workOut", "(III)I"⟩, 63), (⟨"WarmWallModel", "putAside", "()V"⟩, 63), (⟨"WarmWallModel", "pass", "()V"⟩, 63)]
theorem lw_r4 : ∀ q ∈ lw_privs_4, lw_okq q := List.forall_mem_cons.mpr ⟨lw_p48, List.forall_mem_cons.mpr ⟨lw_p49, List.forall_mem_cons.mpr ⟨lw_p50, List.forall_mem_cons.mpr ⟨lw_p51, List.forall_mem_cons.mpr ⟨lw_p52, List.forall_mem_cons.mpr ⟨lw_p53, List.forall_mem_cons.mpr ⟨lw_p54, List.forall_mem_cons.mpr ⟨lw_p55, List.forall_mem_cons.mpr ⟨lw_p56, List.forall_mem_cons.mpr ⟨lw_p57, List.forall_mem_cons.mpr ⟨lw_p58, List.forall_mem_cons.mpr ⟨lw_p59, List.forall_mem_cons.mpr ⟨lw_p60, List.forall_mem_cons.mpr ⟨lw_p61, List.forall_mem_cons.mpr ⟨lw_p62, List.forall_mem_cons.mpr ⟨lw_p63, fun _ h => absurd h List.not_mem_nil⟩⟩⟩⟩⟩⟩⟩⟩⟩⟩⟩⟩⟩⟩⟩⟩
theorem lw_p64 : lw_okq (⟨"WarmWallModel", "ofStone", "(II)I"⟩, 63) := ⟨⟨by decide +kernel, by decide +kernel⟩, List.mem_of_getElem? (i := 991) (by decide +kernel), List.mem_of_getElem? (i := 1386) (by decide +kernel), List.mem_of_getElem? (i := 1387) (by decide +kernel)⟩
theorem lw_p65 : lw_okq (⟨"WarmWallModel", "beside", "(I)I"⟩, 63) := ⟨⟨by decide +kernel, by decide +kernel⟩, List.mem_of_getElem? (i := 991) (by decide +kernel), List.mem_of_getElem? (i := 1390) (by decide +kernel), List.mem_of_getElem? (i := 1391) (by decide +kernel)⟩
theorem lw_p66 : lw_okq (⟨"WarmWallModel", "doesBurn", "(II)Z"⟩, 63) := ⟨⟨by decide +kernel, by decide +kernel⟩, List.mem_of_getElem? (i := 991) (by decide +kernel), List.mem_of_getElem? (i := 1400) (by decide +kernel), List.mem_of_getElem? (i := 1401) (by decide +kernel)⟩
theorem lw_p67 : lw_okq (⟨"WarmWallModel", "ovenCell", "(I)I"⟩, 63) := ⟨⟨by decide +kernel, by decide +kernel⟩, List.mem_of_getElem? (i := 991) (by decide +kernel), List.mem_of_getElem? (i := 1404) (by decide +kernel), List.mem_of_getElem? (i := 1405) (by decide +kernel)⟩
theorem lw_p68 : lw_okq (⟨"WarmWallModel", "takeBack", "()V"⟩, 63) := ⟨⟨by decide +kernel, by decide +kernel⟩, List.mem_of_getElem? (i := 991) (by decide +kernel), List.mem_of_getElem? (i := 1408) (by decide +kernel), List.mem_of_getElem? (i := 1409) (by decide +kernel)⟩
theorem lw_p69 : lw_okq (⟨"WarmWallModel", "isSleeper", "(I)Z"⟩, 63) := ⟨⟨by decide +kernel, by decide +kernel⟩, List.mem_of_getElem? (i := 991) (by decide +kernel), List.mem_of_getElem? (i := 1424) (by decide +kernel), List.mem_of_getElem? (i := 1425) (by decide +kernel)⟩
theorem lw_p70 : lw_okq (⟨"WarmWallModel", "areHours", "(I)Z"⟩, 63) := ⟨⟨by decide +kernel, by decide +kernel⟩, List.mem_of_getElem? (i := 991) (by decide +kernel), List.mem_of_getElem? (i := 1448) (by decide +kernel), List.mem_of_getElem? (i := 1449) (by decide +kernel)⟩
theorem lw_p71 : lw_okq (⟨"WarmWallModel", "passAll", "(I)V"⟩, 63) := ⟨⟨by decide +kernel, by decide +kernel⟩, List.mem_of_getElem? (i := 991) (by decide +kernel), List.mem_of_getElem? (i := 1460) (by decide +kernel), List.mem_of_getElem? (i := 1461) (by decide +kernel)⟩
theorem lw_p72 : lw_okq (⟨"WarmWallModel", "airOf", "(I)I"⟩, 63) := ⟨⟨by decide +kernel, by decide +kernel⟩, List.mem_of_getElem? (i := 991) (by decide +kernel), List.mem_of_getElem? (i := 1468) (by decide +kernel), List.mem_of_getElem? (i := 1469) (by decide +kernel)⟩
theorem lw_p73 : lw_okq (⟨"WarmWallModel", "layNight", "()V"⟩, 63) := ⟨⟨by decide +kernel, by decide +kernel⟩, List.mem_of_getElem? (i := 991) (by decide +kernel), List.mem_of_getElem? (i := 1476) (by decide +kernel), List.mem_of_getElem? (i := 1477) (by decide +kernel)⟩
theorem lw_p74 : lw_okq (⟨"WarmWallModel", "bestFree", "([Z)I"⟩, 63) := ⟨⟨by decide +kernel, by decide +kernel⟩, List.mem_of_getElem? (i := 991) (by decide +kernel), List.mem_of_getElem? (i := 1484) (by decide +kernel), List.mem_of_getElem? (i := 1485) (by decide +kernel)⟩
theorem lw_p75 : lw_okq (⟨"WarmWallModel", "canSleep", "(I)Z"⟩, 63) := ⟨⟨by decide +kernel, by decide +kernel⟩, List.mem_of_getElem? (i := 991) (by decide +kernel), List.mem_of_getElem? (i := 1493) (by decide +kernel), List.mem_of_getElem? (i := 1494) (by decide +kernel)⟩
theorem lw_p76 : lw_okq (⟨"WarmWallModel", "wants", "(I)I"⟩, 63) := ⟨⟨by decide +kernel, by decide +kernel⟩, List.mem_of_getElem? (i := 991) (by decide +kernel), List.mem_of_getElem? (i := 1497) (by decide +kernel), List.mem_of_getElem? (i := 1498) (by decide +kernel)⟩
theorem lw_p77 : lw_okq (⟨"WarmWallModel", "lay", "(II)V"⟩, 63) := ⟨⟨by decide +kernel, by decide +kernel⟩, List.mem_of_getElem? (i := 991) (by decide +kernel), List.mem_of_getElem? (i := 1505) (by decide +kernel), List.mem_of_getElem? (i := 1506) (by decide +kernel)⟩
theorem lw_p78 : lw_okq (⟨"WarmWallModel", "feltAt", "(II)I"⟩, 63) := ⟨⟨by decide +kernel, by decide +kernel⟩, List.mem_of_getElem? (i := 991) (by decide +kernel), List.mem_of_getElem? (i := 1509) (by decide +kernel), List.mem_of_getElem? (i := 1510) (by decide +kernel)⟩
theorem lw_p79 : lw_okq (⟨"WarmWallModel", "layBack", "(III)V"⟩, 63) := ⟨⟨by decide +kernel, by decide +kernel⟩, List.mem_of_getElem? (i := 991) (by decide +kernel), List.mem_of_getElem? (i := 1513) (by decide +kernel), List.mem_of_getElem? (i := 1514) (by decide +kernel)⟩
def lw_privs_5 : List (MethodName × Nat) := [(⟨"WarmWallModel", "ofStone", "(II)I"⟩, 63), (⟨"WarmWallModel", "beside", "(I)I"⟩, 63), (⟨"WarmWallModel", "doesBurn", "(II)Z"⟩, 63), (⟨"WarmWallModel", "ovenCell", "(I)I"⟩, 63), (⟨"WarmWallModel", "takeBack", "()V"⟩, 63), (⟨"WarmWallModel", "isSleeper", "(I)Z"⟩, 63), (⟨"WarmWallModel", "areHours", "(I)Z"⟩, 63), (⟨"WarmWallModel", "passAll", "(I)V"⟩, 63), (⟨"WarmWallModel", "airOf", "(I)I"⟩, 63), (⟨"WarmWallModel", "layNight", "()V"⟩, 63), (⟨"WarmWallModel", "bestFree", "([Z)I"⟩, 63), (⟨"WarmWallModel", "canSleep", "(I)Z"⟩, 63), (⟨"WarmWallModel", "wants", "(I)I"⟩, 63), (⟨"WarmWallModel", "lay", "(II)V"⟩, 63), (⟨"WarmWallModel", "feltAt", "(II)I"⟩, 63), (⟨"WarmWallModel", "layBack", "(III)V"⟩, 63)]
theorem lw_r5 : ∀ q ∈ lw_privs_5, lw_okq q := List.forall_mem_cons.mpr ⟨lw_p64, List.forall_mem_cons.mpr ⟨lw_p65, List.forall_mem_cons.mpr ⟨lw_p66, List.forall_mem_cons.mpr ⟨lw_p67, List.forall_mem_cons.mpr ⟨lw_p68, List.forall_mem_cons.mpr ⟨lw_p69, List.forall_mem_cons.mpr ⟨lw_p70, List.forall_mem_cons.mpr ⟨lw_p71, List.forall_mem_cons.mpr ⟨lw_p72, List.forall_mem_cons.mpr ⟨lw_p73, List.forall_mem_cons.mpr ⟨lw_p74, List.forall_mem_cons.mpr ⟨lw_p75, List.forall_mem_cons.mpr ⟨lw_p76, List.forall_mem_cons.mpr ⟨lw_p77, List.forall_mem_cons.mpr ⟨lw_p78, List.forall_mem_cons.mpr ⟨lw_p79, fun _ h => absurd h List.not_mem_nil⟩⟩⟩⟩⟩⟩⟩⟩⟩⟩⟩⟩⟩⟩⟩⟩
theorem lw_p80 : lw_okq (⟨"WarmWallModel", "layDigits", "(II)I"⟩, 63) := ⟨⟨by decide +kernel, by decide +kernel⟩, List.mem_of_getElem? (i := 991) (by decide +kernel), List.mem_of_getElem? (i := 1522) (by decide +kernel), List.mem_of_getElem? (i := 1523) (by decide +kernel)⟩
theorem lw_p81 : lw_okq (⟨"WarmWallModel", "leastNight", "()I"⟩, 63) := ⟨⟨by decide +kernel, by decide +kernel⟩, List.mem_of_getElem? (i := 991) (by decide +kernel), List.mem_of_getElem? (i := 1526) (by decide +kernel), List.mem_of_getElem? (i := 1527) (by decide +kernel)⟩
theorem lw_p82 : lw_okq (⟨"WarmWallModel", "fitsOf", "(I)I"⟩, 63) := ⟨⟨by decide +kernel, by decide +kernel⟩, List.mem_of_getElem? (i := 991) (by decide +kernel), List.mem_of_getElem? (i := 1538) (by decide +kernel), List.mem_of_getElem? (i := 1539) (by decide +kernel)⟩
theorem lw_p83 : lw_okq (⟨"WarmWallModel", "agrees", "()Z"⟩, 63) := ⟨⟨by decide +kernel, by decide +kernel⟩, List.mem_of_getElem? (i := 991) (by decide +kernel), List.mem_of_getElem? (i := 1542) (by decide +kernel), List.mem_of_getElem? (i := 1543) (by decide +kernel)⟩
theorem lw_p84 : lw_okq (⟨"WarmWallModel", "tryOut", "(III)V"⟩, 63) := ⟨⟨by decide +kernel, by decide +kernel⟩, List.mem_of_getElem? (i := 991) (by decide +kernel), List.mem_of_getElem? (i := 1550) (by decide +kernel), List.mem_of_getElem? (i := 1551) (by decide +kernel)⟩
theorem lw_p85 : lw_okq (⟨"WarmWallModel", "unlike", "(III)I"⟩, 63) := ⟨⟨by decide +kernel, by decide +kernel⟩, List.mem_of_getElem? (i := 991) (by decide +kernel), List.mem_of_getElem? (i := 1554) (by decide +kernel), List.mem_of_getElem? (i := 1555) (by decide +kernel)⟩
theorem lw_p86 : lw_okq (⟨"WarmWallModel", "sumNow", "()I"⟩, 63) := ⟨⟨by decide +kernel, by decide +kernel⟩, List.mem_of_getElem? (i := 991) (by decide +kernel), List.mem_of_getElem? (i := 1566) (by decide +kernel), List.mem_of_getElem? (i := 1567) (by decide +kernel)⟩
theorem lw_p87 : lw_okq (⟨"WarmWallModel", "comfortAt", "(I)I"⟩, 63) := ⟨⟨by decide +kernel, by decide +kernel⟩, List.mem_of_getElem? (i := 991) (by decide +kernel), List.mem_of_getElem? (i := 1585) (by decide +kernel), List.mem_of_getElem? (i := 1586) (by decide +kernel)⟩
theorem lw_p88 : lw_okq (⟨"WarmWallModel", "areLike", "(II)Z"⟩, 63) := ⟨⟨by decide +kernel, by decide +kernel⟩, List.mem_of_getElem? (i := 991) (by decide +kernel), List.mem_of_getElem? (i := 1605) (by decide +kernel), List.mem_of_getElem? (i := 1606) (by decide +kernel)⟩
def lw_privs_6 : List (MethodName × Nat) := [(⟨"WarmWallModel", "layDigits", "(II)I"⟩, 63), (⟨"WarmWallModel", "leastNight", "()I"⟩, 63), (⟨"WarmWallModel", "fitsOf", "(I)I"⟩, 63), (⟨"WarmWallModel", "agrees", "()Z"⟩, 63), (⟨"WarmWallModel", "tryOut", "(III)V"⟩, 63), (⟨"WarmWallModel", "unlike", "(III)I"⟩, 63), (⟨"WarmWallModel", "sumNow", "()I"⟩, 63), (⟨"WarmWallModel", "comfortAt", "(I)I"⟩, 63), (⟨"WarmWallModel", "areLike", "(II)Z"⟩, 63)]
theorem lw_r6 : ∀ q ∈ lw_privs_6, lw_okq q := List.forall_mem_cons.mpr ⟨lw_p80, List.forall_mem_cons.mpr ⟨lw_p81, List.forall_mem_cons.mpr ⟨lw_p82, List.forall_mem_cons.mpr ⟨lw_p83, List.forall_mem_cons.mpr ⟨lw_p84, List.forall_mem_cons.mpr ⟨lw_p85, List.forall_mem_cons.mpr ⟨lw_p86, List.forall_mem_cons.mpr ⟨lw_p87, List.forall_mem_cons.mpr ⟨lw_p88, fun _ h => absurd h List.not_mem_nil⟩⟩⟩⟩⟩⟩⟩⟩⟩
def lw_privs : List (MethodName × Nat) := lw_privs_1 ++ (lw_privs_2 ++ (lw_privs_3 ++ (lw_privs_4 ++ (lw_privs_5 ++ (lw_privs_6)))))
def lw_tbl : List Cond := k2_sels lw_privs ++ tables_1
theorem lw_privs_ok : ∀ q ∈ lw_privs, lw_okq q := by
  show ∀ q ∈ lw_privs_1 ++ (lw_privs_2 ++ (lw_privs_3 ++ (lw_privs_4 ++ (lw_privs_5 ++ (lw_privs_6))))), lw_okq q
  exact List.forall_mem_append.mpr ⟨lw_r1, List.forall_mem_append.mpr ⟨lw_r2, List.forall_mem_append.mpr ⟨lw_r3, List.forall_mem_append.mpr ⟨lw_r4, List.forall_mem_append.mpr ⟨lw_r5, lw_r6⟩⟩⟩⟩⟩
def zT0 : u_T := fun k => match k with
  | 0 => ("WarmWall$Course", "warmth", "[I", true)
  | 1 => ("WarmWall$Course", "felt", "[I", true)
  | 2 => ("WarmWall$Course", "sorts", "[I", true)
  | 3 => ("WarmWall$Course", "from", "[I", true)
  | 4 => ("WarmWall$Course", "until", "[I", true)
  | 5 => ("WarmWall$Course", "leastFelt", "[I", true)
  | 6 => ("WarmWall$Course", "feltInAll", "[I", true)
  | 7 => ("WarmWall$Course", "given", "[I", true)
  | _ => ("WarmWall$Course", "hour", "I", false)
def zy0 : Nat → FieldType := fun k => match k with
  | 0 => .array .int
  | 1 => .array .int
  | 2 => .array .int
  | 3 => .array .int
  | 4 => .array .int
  | 5 => .array .int
  | 6 => .array .int
  | 7 => .array .int
  | _ => .int
def zT1 : u_T := fun k => match k with
  | 0 => ("WarmWall$Kind", "limit", "I", true)
  | 1 => ("WarmWall$Kind", "letters", "Ljava/lang/String;", true)
  | 2 => ("WarmWall$Kind", "least", "[I", true)
  | 3 => ("WarmWall$Kind", "most", "[I", true)
  | 4 => ("WarmWall$Kind", "without", "[I", true)
  | 5 => ("WarmWall$Kind", "numbers", "[I", true)
  | _ => ("WarmWall$Kind", "told", "I", false)
def zy1 : Nat → FieldType := fun k => match k with
  | 0 => .int
  | 1 => .object "java/lang/String"
  | 2 => .array .int
  | 3 => .array .int
  | 4 => .array .int
  | 5 => .array .int
  | _ => .int
def zT2 : u_T := fun k => match k with
  | 0 => ("WarmWall$Law", "code", "[I", true)
  | 1 => ("WarmWall$Law", "stack", "[I", true)
  | 2 => ("WarmWall$Law", "size", "I", false)
  | _ => ("WarmWall$Law", "asksDay", "Z", false)
def zy2 : Nat → FieldType := fun k => match k with
  | 0 => .array .int
  | 1 => .array .int
  | 2 => .int
  | _ => .boolean
def zT3 : u_T := fun k => match k with
  | 0 => ("WarmWall$Reader", "tape", "LWarmWall$Tape;", true)
  | _ => ("WarmWall$Reader", "place", "I", false)
def zy3 : Nat → FieldType := fun k => match k with
  | 0 => .object "WarmWall$Tape"
  | _ => .int
def zT4 : u_T := fun k => match k with
  | 0 => ("WarmWall$Past", "warmths", "[I", true)
  | 1 => ("WarmWall$Past", "picture", "[I", true)
  | 2 => ("WarmWall$Past", "isDrawn", "Z", false)
  | 3 => ("WarmWall$Past", "pictureHour", "I", false)
  | 4 => ("WarmWall$Past", "next", "I", false)
  | _ => ("WarmWall$Past", "kept", "I", false)
def zy4 : Nat → FieldType := fun k => match k with
  | 0 => .array .int
  | 1 => .array .int
  | 2 => .boolean
  | 3 => .int
  | 4 => .int
  | _ => .int
def zT5 : u_T := fun k => match k with
  | 0 => ("WarmWall$Sky", "laws", "[LWarmWall$Law;", true)
  | 1 => ("WarmWall$Sky", "suns", "[I", true)
  | 2 => ("WarmWall$Sky", "dayOfPage", "[I", true)
  | 3 => ("WarmWall$Sky", "lawsTold", "I", false)
  | 4 => ("WarmWall$Sky", "lawHeld", "I", false)
  | _ => ("WarmWall$Sky", "rainHours", "I", false)
def zy5 : Nat → FieldType := fun k => match k with
  | 0 => .array (.object "WarmWall$Law")
  | 1 => .array .int
  | 2 => .array .int
  | 3 => .int
  | 4 => .int
  | _ => .int
def zT6 : u_T := fun k => match k with
  | 0 => ("WarmWall$Tape", "bytes", "[I", true)
  | _ => ("WarmWall$Tape", "length", "I", false)
def zy6 : Nat → FieldType := fun k => match k with
  | 0 => .array .int
  | _ => .int
def zT7 : u_T := fun k => match k with
  | 0 => ("WarmWall$Touches", "cells", "[I", true)
  | 1 => ("WarmWall$Touches", "hours", "[I", true)
  | 2 => ("WarmWall$Touches", "warmths", "[I", true)
  | _ => ("WarmWall$Touches", "told", "I", false)
def zy7 : Nat → FieldType := fun k => match k with
  | 0 => .array .int
  | 1 => .array .int
  | 2 => .array .int
  | _ => .int
def zT8 : u_T := fun k => match k with
  | 0 => ("WarmWall$Wall", "stones", "LWarmWall$Kind;", true)
  | 1 => ("WarmWall$Wall", "ovens", "LWarmWall$Kind;", true)
  | 2 => ("WarmWall$Wall", "sleepers", "LWarmWall$Kind;", true)
  | 3 => ("WarmWall$Wall", "letters", "[I", true)
  | 4 => ("WarmWall$Wall", "lengths", "[I", true)
  | 5 => ("WarmWall$Wall", "rowOf", "[I", true)
  | 6 => ("WarmWall$Wall", "columnOf", "[I", true)
  | 7 => ("WarmWall$Wall", "sortOf", "[I", true)
  | 8 => ("WarmWall$Wall", "beside", "[I", true)
  | 9 => ("WarmWall$Wall", "rows", "I", false)
  | 10 => ("WarmWall$Wall", "columns", "I", false)
  | _ => ("WarmWall$Wall", "cells", "I", false)
def zy8 : Nat → FieldType := fun k => match k with
  | 0 => .object "WarmWall$Kind"
  | 1 => .object "WarmWall$Kind"
  | 2 => .object "WarmWall$Kind"
  | 3 => .array .int
  | 4 => .array .int
  | 5 => .array .int
  | 6 => .array .int
  | 7 => .array .int
  | 8 => .array .int
  | 9 => .int
  | 10 => .int
  | _ => .int
def zT9 : u_T := fun k => match k with
  | 0 => ("WarmWall$Reader", "tape", "LWarmWall$Tape;", true)
  | _ => ("WarmWall$Reader", "place", "I", false)
def zy9 : Nat → FieldType := fun k => match k with
  | 0 => .object "WarmWall$Tape"
  | _ => .int
def zT10 : u_T := fun k => match k with
  | 0 => ("WarmWall", "tape", "LWarmWall$Tape;", true)
  | 1 => ("WarmWall", "wallReader", "LWarmWall$WallReader;", true)
  | 2 => ("WarmWall", "lawReader", "LWarmWall$LawReader;", true)
  | 3 => ("WarmWall", "sky", "LWarmWall$Sky;", true)
  | 4 => ("WarmWall", "now", "LWarmWall$Course;", true)
  | 5 => ("WarmWall", "apart", "LWarmWall$Course;", true)
  | 6 => ("WarmWall", "past", "LWarmWall$Past;", true)
  | 7 => ("WarmWall", "touches", "LWarmWall$Touches;", true)
  | 8 => ("WarmWall", "trials", "[I", true)
  | 9 => ("WarmWall", "mornings", "[I", true)
  | 10 => ("WarmWall", "wall", "LWarmWall$Wall;", false)
  | _ => ("WarmWall", "draft", "LWarmWall$Wall;", false)
def zy10 : Nat → FieldType := fun k => match k with
  | 0 => .object "WarmWall$Tape"
  | 1 => .object "WarmWall$WallReader"
  | 2 => .object "WarmWall$LawReader"
  | 3 => .object "WarmWall$Sky"
  | 4 => .object "WarmWall$Course"
  | 5 => .object "WarmWall$Course"
  | 6 => .object "WarmWall$Past"
  | 7 => .object "WarmWall$Touches"
  | 8 => .array .int
  | 9 => .array .int
  | 10 => .object "WarmWall$Wall"
  | _ => .object "WarmWall$Wall"
def zT11 : u_T := fun k => match k with
  | 0 => ("WarmWallModel", "thrown", "I", false)
  | 1 => ("WarmWallModel", "tape", "[I", true)
  | 2 => ("WarmWallModel", "size", "I", false)
  | 3 => ("WarmWallModel", "at", "I", false)
  | 4 => ("WarmWallModel", "wrong", "I", false)
  | 5 => ("WarmWallModel", "deep", "I", false)
  | 6 => ("WarmWallModel", "code", "[I", true)
  | 7 => ("WarmWallModel", "value", "[I", true)
  | 8 => ("WarmWallModel", "codes", "[I", true)
  | 9 => ("WarmWallModel", "clauses", "[I", true)
  | 10 => ("WarmWallModel", "testFrom", "[I", true)
  | 11 => ("WarmWallModel", "sumFrom", "[I", true)
  | 12 => ("WarmWallModel", "sumTo", "[I", true)
  | 13 => ("WarmWallModel", "laws", "I", false)
  | 14 => ("WarmWallModel", "text", "I", false)
  | 15 => ("WarmWallModel", "letters", "[I", true)
  | 16 => ("WarmWallModel", "stack", "[I", true)
  | 17 => ("WarmWallModel", "readSort", "[I", true)
  | 18 => ("WarmWallModel", "readOven", "[I", true)
  | 19 => ("WarmWallModel", "readSleeper", "[I", true)
  | 20 => ("WarmWallModel", "readCell", "[I", true)
  | 21 => ("WarmWallModel", "readWide", "[I", true)
  | 22 => ("WarmWallModel", "readSorts", "I", false)
  | 23 => ("WarmWallModel", "readRows", "I", false)
  | 24 => ("WarmWallModel", "readOvens", "I", false)
  | 25 => ("WarmWallModel", "readSleepers", "I", false)
  | 26 => ("WarmWallModel", "sortRow", "[I", true)
  | 27 => ("WarmWallModel", "ovenRow", "[I", true)
  | 28 => ("WarmWallModel", "sleeperRow", "[I", true)
  | 29 => ("WarmWallModel", "stones", "[I", true)
  | 30 => ("WarmWallModel", "sorts", "I", false)
  | 31 => ("WarmWallModel", "rows", "I", false)
  | 32 => ("WarmWallModel", "wide", "I", false)
  | 33 => ("WarmWallModel", "ovens", "I", false)
  | 34 => ("WarmWallModel", "sleepers", "I", false)
  | 35 => ("WarmWallModel", "warmth", "[I", true)
  | 36 => ("WarmWallModel", "hour", "I", false)
  | 37 => ("WarmWallModel", "rains", "I", false)
  | 38 => ("WarmWallModel", "holding", "I", false)
  | 39 => ("WarmWallModel", "cold", "I", false)
  | 40 => ("WarmWallModel", "shares", "[I", true)
  | 41 => ("WarmWallModel", "then", "[I", true)
  | 42 => ("WarmWallModel", "felt", "[I", true)
  | 43 => ("WarmWallModel", "aside", "[I", true)
  | 44 => ("WarmWallModel", "asideHour", "I", false)
  | 45 => ("WarmWallModel", "kept", "[I", true)
  | 46 => ("WarmWallModel", "acts", "I", false)
  | 47 => ("WarmWallModel", "night", "[I", true)
  | 48 => ("WarmWallModel", "taken", "[Z", true)
  | 49 => ("WarmWallModel", "stoneWas", "I", false)
  | 50 => ("WarmWallModel", "warmthWas", "I", false)
  | 51 => ("WarmWallModel", "stonesWere", "[I", true)
  | 52 => ("WarmWallModel", "warmthWere", "[I", true)
  | 53 => ("WarmWallModel", "touchCell", "[I", true)
  | 54 => ("WarmWallModel", "touchAt", "[I", true)
  | 55 => ("WarmWallModel", "touchValue", "[I", true)
  | 56 => ("WarmWallModel", "touches", "I", false)
  | 57 => ("WarmWallModel", "tries", "[I", true)
  | 58 => ("WarmWallModel", "given", "[I", true)
  | 59 => ("WarmWallModel", "days", "[I", true)
  | 60 => ("WarmWallModel", "imageWarmth", "[I", true)
  | 61 => ("WarmWallModel", "imageHour", "I", false)
  | _ => ("WarmWallModel", "hasImage", "Z", false)
def zy11 : Nat → FieldType := fun k => match k with
  | 0 => .int
  | 1 => .array .int
  | 2 => .int
  | 3 => .int
  | 4 => .int
  | 5 => .int
  | 6 => .array .int
  | 7 => .array .int
  | 8 => .array .int
  | 9 => .array .int
  | 10 => .array .int
  | 11 => .array .int
  | 12 => .array .int
  | 13 => .int
  | 14 => .int
  | 15 => .array .int
  | 16 => .array .int
  | 17 => .array .int
  | 18 => .array .int
  | 19 => .array .int
  | 20 => .array .int
  | 21 => .array .int
  | 22 => .int
  | 23 => .int
  | 24 => .int
  | 25 => .int
  | 26 => .array .int
  | 27 => .array .int
  | 28 => .array .int
  | 29 => .array .int
  | 30 => .int
  | 31 => .int
  | 32 => .int
  | 33 => .int
  | 34 => .int
  | 35 => .array .int
  | 36 => .int
  | 37 => .int
  | 38 => .int
  | 39 => .int
  | 40 => .array .int
  | 41 => .array .int
  | 42 => .array .int
  | 43 => .array .int
  | 44 => .int
  | 45 => .array .int
  | 46 => .int
  | 47 => .array .int
  | 48 => .array .boolean
  | 49 => .int
  | 50 => .int
  | 51 => .array .int
  | 52 => .array .int
  | 53 => .array .int
  | 54 => .array .int
  | 55 => .array .int
  | 56 => .int
  | 57 => .array .int
  | 58 => .array .int
  | 59 => .array .int
  | 60 => .array .int
  | 61 => .int
  | _ => .boolean
/-- the classes whose objects the worlds hold -/
def zcl : List vw_C := [("WarmWall$Course", zT0, 9), ("WarmWall$Kind", zT1, 7), ("WarmWall$Law", zT2, 4), ("WarmWall$LawReader", zT3, 2), ("WarmWall$Past", zT4, 6), ("WarmWall$Sky", zT5, 6), ("WarmWall$Tape", zT6, 2), ("WarmWall$Touches", zT7, 4), ("WarmWall$Wall", zT8, 12), ("WarmWall$WallReader", zT9, 2), ("WarmWall", zT10, 12), ("WarmWallModel", zT11, 63)]
/-- the words that a method may use -/
def zws : List Cond := lw_tbl.filter goodWord
theorem zin0 : ∀ w ∈ u_ws "WarmWall$Course" zT0 9, w ∈ zws := fun w hw => List.mem_filter.mpr ((show ∀ w ∈ u_ws "WarmWall$Course" zT0 9, w ∈ lw_tbl ∧ goodWord w = true by decide +kernel) w hw)
theorem zty0 : ∀ k, k < 9 → parseFieldDescriptor (zT0 k).2.2.1 = some (zy0 k) := by decide +kernel
theorem znm0 : ∀ a, a < 9 → ∀ b, b < 9 → a ≠ b → (zT0 a).2.1 ≠ (zT0 b).2.1 := by decide +kernel
theorem zin1 : ∀ w ∈ u_ws "WarmWall$Kind" zT1 7, w ∈ zws := fun w hw => List.mem_filter.mpr ((show ∀ w ∈ u_ws "WarmWall$Kind" zT1 7, w ∈ lw_tbl ∧ goodWord w = true by decide +kernel) w hw)
theorem zty1 : ∀ k, k < 7 → parseFieldDescriptor (zT1 k).2.2.1 = some (zy1 k) := by decide +kernel
theorem znm1 : ∀ a, a < 7 → ∀ b, b < 7 → a ≠ b → (zT1 a).2.1 ≠ (zT1 b).2.1 := by decide +kernel
theorem zin2 : ∀ w ∈ u_ws "WarmWall$Law" zT2 4, w ∈ zws := fun w hw => List.mem_filter.mpr ((show ∀ w ∈ u_ws "WarmWall$Law" zT2 4, w ∈ lw_tbl ∧ goodWord w = true by decide +kernel) w hw)
theorem zty2 : ∀ k, k < 4 → parseFieldDescriptor (zT2 k).2.2.1 = some (zy2 k) := by decide +kernel
theorem znm2 : ∀ a, a < 4 → ∀ b, b < 4 → a ≠ b → (zT2 a).2.1 ≠ (zT2 b).2.1 := by decide +kernel
theorem zin3 : ∀ w ∈ u_ws "WarmWall$LawReader" zT3 2, w ∈ zws := fun w hw => List.mem_filter.mpr ((show ∀ w ∈ u_ws "WarmWall$LawReader" zT3 2, w ∈ lw_tbl ∧ goodWord w = true by decide +kernel) w hw)
theorem zty3 : ∀ k, k < 2 → parseFieldDescriptor (zT3 k).2.2.1 = some (zy3 k) := by decide +kernel
theorem znm3 : ∀ a, a < 2 → ∀ b, b < 2 → a ≠ b → (zT3 a).2.1 ≠ (zT3 b).2.1 := by decide +kernel
theorem zin4 : ∀ w ∈ u_ws "WarmWall$Past" zT4 6, w ∈ zws := fun w hw => List.mem_filter.mpr ((show ∀ w ∈ u_ws "WarmWall$Past" zT4 6, w ∈ lw_tbl ∧ goodWord w = true by decide +kernel) w hw)
theorem zty4 : ∀ k, k < 6 → parseFieldDescriptor (zT4 k).2.2.1 = some (zy4 k) := by decide +kernel
theorem znm4 : ∀ a, a < 6 → ∀ b, b < 6 → a ≠ b → (zT4 a).2.1 ≠ (zT4 b).2.1 := by decide +kernel
theorem zin5 : ∀ w ∈ u_ws "WarmWall$Sky" zT5 6, w ∈ zws := fun w hw => List.mem_filter.mpr ((show ∀ w ∈ u_ws "WarmWall$Sky" zT5 6, w ∈ lw_tbl ∧ goodWord w = true by decide +kernel) w hw)
theorem zty5 : ∀ k, k < 6 → parseFieldDescriptor (zT5 k).2.2.1 = some (zy5 k) := by decide +kernel
theorem znm5 : ∀ a, a < 6 → ∀ b, b < 6 → a ≠ b → (zT5 a).2.1 ≠ (zT5 b).2.1 := by decide +kernel
theorem zin6 : ∀ w ∈ u_ws "WarmWall$Tape" zT6 2, w ∈ zws := fun w hw => List.mem_filter.mpr ((show ∀ w ∈ u_ws "WarmWall$Tape" zT6 2, w ∈ lw_tbl ∧ goodWord w = true by decide +kernel) w hw)
theorem zty6 : ∀ k, k < 2 → parseFieldDescriptor (zT6 k).2.2.1 = some (zy6 k) := by decide +kernel
theorem znm6 : ∀ a, a < 2 → ∀ b, b < 2 → a ≠ b → (zT6 a).2.1 ≠ (zT6 b).2.1 := by decide +kernel
theorem zin7 : ∀ w ∈ u_ws "WarmWall$Touches" zT7 4, w ∈ zws := fun w hw => List.mem_filter.mpr ((show ∀ w ∈ u_ws "WarmWall$Touches" zT7 4, w ∈ lw_tbl ∧ goodWord w = true by decide +kernel) w hw)
theorem zty7 : ∀ k, k < 4 → parseFieldDescriptor (zT7 k).2.2.1 = some (zy7 k) := by decide +kernel
theorem znm7 : ∀ a, a < 4 → ∀ b, b < 4 → a ≠ b → (zT7 a).2.1 ≠ (zT7 b).2.1 := by decide +kernel
theorem zin8 : ∀ w ∈ u_ws "WarmWall$Wall" zT8 12, w ∈ zws := fun w hw => List.mem_filter.mpr ((show ∀ w ∈ u_ws "WarmWall$Wall" zT8 12, w ∈ lw_tbl ∧ goodWord w = true by decide +kernel) w hw)
theorem zty8 : ∀ k, k < 12 → parseFieldDescriptor (zT8 k).2.2.1 = some (zy8 k) := by decide +kernel
theorem znm8 : ∀ a, a < 12 → ∀ b, b < 12 → a ≠ b → (zT8 a).2.1 ≠ (zT8 b).2.1 := by decide +kernel
theorem zin9 : ∀ w ∈ u_ws "WarmWall$WallReader" zT9 2, w ∈ zws := fun w hw => List.mem_filter.mpr ((show ∀ w ∈ u_ws "WarmWall$WallReader" zT9 2, w ∈ lw_tbl ∧ goodWord w = true by decide +kernel) w hw)
theorem zty9 : ∀ k, k < 2 → parseFieldDescriptor (zT9 k).2.2.1 = some (zy9 k) := by decide +kernel
theorem znm9 : ∀ a, a < 2 → ∀ b, b < 2 → a ≠ b → (zT9 a).2.1 ≠ (zT9 b).2.1 := by decide +kernel
theorem zin10 : ∀ w ∈ u_ws "WarmWall" zT10 12, w ∈ zws := fun w hw => List.mem_filter.mpr ((show ∀ w ∈ u_ws "WarmWall" zT10 12, w ∈ lw_tbl ∧ goodWord w = true by decide +kernel) w hw)
theorem zty10 : ∀ k, k < 12 → parseFieldDescriptor (zT10 k).2.2.1 = some (zy10 k) := by decide +kernel
theorem znm10 : ∀ a, a < 12 → ∀ b, b < 12 → a ≠ b → (zT10 a).2.1 ≠ (zT10 b).2.1 := by decide +kernel
theorem zin11 : ∀ w ∈ u_ws "WarmWallModel" zT11 63, w ∈ zws := fun w hw => List.mem_filter.mpr ((show ∀ w ∈ u_ws "WarmWallModel" zT11 63, w ∈ lw_tbl ∧ goodWord w = true by decide +kernel) w hw)
theorem zty11 : ∀ k, k < 63 → parseFieldDescriptor (zT11 k).2.2.1 = some (zy11 k) := by decide +kernel
theorem znm11 : ∀ a, a < 63 → ∀ b, b < 63 → a ≠ b → (zT11 a).2.1 ≠ (zT11 b).2.1 := by decide +kernel
theorem zcl_ok : ∀ (ci : Nat) (r : vw_C), zcl[ci]? = some r → (∀ w ∈ u_ws r.1 r.2.1 r.2.2, w ∈ zws) ∧ (∃ ty : Nat → FieldType, ∀ k, k < r.2.2 → parseFieldDescriptor (r.2.1 k).2.2.1 = some (ty k)) ∧ (∀ a, a < r.2.2 → ∀ b, b < r.2.2 → a ≠ b → (r.2.1 a).2.1 ≠ (r.2.1 b).2.1) := by
  intro ci r h
  match ci, h with
  | 0, h => cases h; exact ⟨zin0, ⟨zy0, zty0⟩, znm0⟩
  | 1, h => cases h; exact ⟨zin1, ⟨zy1, zty1⟩, znm1⟩
  | 2, h => cases h; exact ⟨zin2, ⟨zy2, zty2⟩, znm2⟩
  | 3, h => cases h; exact ⟨zin3, ⟨zy3, zty3⟩, znm3⟩
  | 4, h => cases h; exact ⟨zin4, ⟨zy4, zty4⟩, znm4⟩
  | 5, h => cases h; exact ⟨zin5, ⟨zy5, zty5⟩, znm5⟩
  | 6, h => cases h; exact ⟨zin6, ⟨zy6, zty6⟩, znm6⟩
  | 7, h => cases h; exact ⟨zin7, ⟨zy7, zty7⟩, znm7⟩
  | 8, h => cases h; exact ⟨zin8, ⟨zy8, zty8⟩, znm8⟩
  | 9, h => cases h; exact ⟨zin9, ⟨zy9, zty9⟩, znm9⟩
  | 10, h => cases h; exact ⟨zin10, ⟨zy10, zty10⟩, znm10⟩
  | 11, h => cases h; exact ⟨zin11, ⟨zy11, zty11⟩, znm11⟩
  | k + 12, h => simp [zcl] at h
/-- of each cell, in the order in which they are made: what it is (a class by its place in zcl; 20 int[], 21 boolean[], 22 long[], 23 an array of laws), its length -/
def zTab : List (Nat × Nat) := [(10, 0), (6, 0), (20, 160), (9, 0), (3, 0), (5, 0), (23, 5), (20, 9216), (20, 4), (2, 0), (20, 160), (20, 161), (2, 0), (20, 160), (20, 161), (2, 0), (20, 160), (20, 161), (2, 0), (20, 160), (20, 161), (2, 0), (20, 160), (20, 161), (0, 0), (20, 24), (20, 24), (20, 24), (20, 3), (20, 3), (20, 24), (20, 24), (20, 24), (0, 0), (20, 24), (20, 24), (20, 24), (20, 3), (20, 3), (20, 24), (20, 24), (20, 24), (4, 0), (20, 1440), (20, 24), (7, 0), (20, 20), (20, 20), (20, 20), (20, 2400), (20, 504), (8, 0), (1, 0), (20, 12), (1, 0), (20, 15), (1, 0), (20, 10), (20, 24), (20, 4), (20, 24), (20, 24), (20, 24), (20, 96), (8, 0), (1, 0), (20, 12), (1, 0), (20, 15), (1, 0), (20, 10), (20, 24), (20, 4), (20, 24), (20, 24), (20, 24), (20, 96), (11, 0), (20, 160), (20, 1700), (20, 1700), (20, 5), (20, 5), (20, 450), (20, 450), (20, 450), (20, 5), (20, 80), (20, 12), (20, 15), (20, 10), (20, 36), (20, 4), (20, 12), (20, 15), (20, 10), (20, 36), (20, 36), (20, 36), (20, 36), (20, 36), (20, 36), (20, 2160), (20, 36), (21, 36), (20, 36), (20, 36), (20, 20), (20, 20), (20, 20), (20, 3600), (20, 36), (20, 756), (20, 36), (22, 1)]
/-- the static rows of Wall (-2 .. -10), by program -/
def zSTab : List (List Int) := [[0, 1, 0], [9, 99, 10], [3, 60, 3], [0, 0, 0, 0, 0], [3, 5, 23, 23, 20], [0, 0, 4, 7, 8], [0, 0], [99, 9], [5, 0]]
def zSNm : List String := ["STONE_LEAST", "STONE_MOST", "STONE_WITHOUT", "OVEN_LEAST", "OVEN_MOST", "OVEN_WITHOUT", "SLEEPER_LEAST", "SLEEPER_MOST", "SLEEPER_WITHOUT"]
/-- the three texts of letters (-11 .. -13) -/
def zLTab : List (List Int) := [[116, 104, 103], [114, 99, 102, 117, 104], [119, 102]]
/-- what a reference is to: 25 a static row, 26 a text, 27 the script, 28 a text's bytes (-31 .. -33) -/
def zCL (i : Int) : Nat := if 0 ≤ i then (zTab.getD i.toNat (99, 0)).1 else if i = -20 then 27 else if i ≤ -2 ∧ -10 ≤ i then 25 else if i ≤ -11 ∧ -13 ≤ i then 26 else if i ≤ -31 ∧ -33 ≤ i then 28 else 98
def zLN (i : Int) : Int := if 0 ≤ i then ((zTab.getD i.toNat (99, 0)).2 : Int) else if i ≤ -2 ∧ -10 ≤ i then ((zSTab.getD (-2 - i).toNat []).length : Int) else if i ≤ -31 ∧ -33 ≤ i then ((zLTab.getD (-31 - i).toNat []).length : Int) else 0
def zSA (i j : Int) : Int := (zSTab.getD (-2 - i).toNat []).getD j.toNat 0
def zLA (i j : Int) : Int := (zLTab.getD (-31 - i).toNat []).getD j.toNat 0
def zNF (c : Nat) : Nat := [9, 7, 4, 2, 6, 6, 2, 4, 12, 2, 12, 63].getD c 0
/-- tags of fields (0 a number, 2 a reference), by class and place -/
def zFTt : List (List Nat) := [[2, 2, 2, 2, 2, 2, 2, 2, 0], [0, 2, 2, 2, 2, 2, 0], [2, 2, 0, 0], [2, 0], [2, 2, 0, 0, 0, 0], [2, 2, 2, 0, 0, 0], [2, 0], [2, 2, 2, 0], [2, 2, 2, 2, 2, 2, 2, 2, 2, 0, 0, 0], [2, 0], [2, 2, 2, 2, 2, 2, 2, 2, 2, 2, 2, 2], [0, 2, 0, 0, 0, 0, 2, 2, 2, 2, 2, 2, 2, 0, 0, 2, 2, 2, 2, 2, 2, 2, 0, 0, 0, 0, 2, 2, 2, 2, 0, 0, 0, 0, 0, 2, 0, 0, 0, 0, 2, 2, 2, 2, 0, 2, 0, 2, 2, 0, 0, 2, 2, 2, 2, 2, 0, 2, 2, 2, 2, 0, 0]]
def zFT (c k : Nat) : Nat := (zFTt.getD c []).getD k 0
/-- final fields: 0 not final, 1 final: the value is the object's own number and an offset, 2 final: by a table of the kinds -/
def zFnt : List (List (Nat × Int)) := [[(1, 1), (1, 2), (1, 3), (1, 4), (1, 5), (1, 6), (1, 7), (1, 8), (0, 0)], [(2, 0), (2, 0), (2, 0), (2, 0), (2, 0), (1, 1), (0, 0)], [(1, 1), (1, 2), (0, 0), (0, 0)], [(1, -3), (0, 0)], [(1, 1), (1, 2), (0, 0), (0, 0), (0, 0), (0, 0)], [(1, 1), (1, 2), (1, 3), (0, 0), (0, 0), (0, 0)], [(1, 1), (0, 0)], [(1, 1), (1, 2), (1, 3), (0, 0)], [(1, 1), (1, 3), (1, 5), (1, 7), (1, 8), (1, 9), (1, 10), (1, 11), (1, 12), (0, 0), (0, 0), (0, 0)], [(1, -2), (0, 0)], [(1, 1), (1, 3), (1, 4), (1, 5), (1, 24), (1, 33), (1, 42), (1, 45), (1, 49), (1, 50), (0, 0), (0, 0)], [(0, 0), (1, 1), (0, 0), (0, 0), (0, 0), (0, 0), (1, 2), (1, 3), (1, 4), (1, 5), (1, 6), (1, 7), (1, 8), (0, 0), (0, 0), (1, 9), (1, 10), (1, 11), (1, 12), (1, 13), (1, 14), (1, 15), (0, 0), (0, 0), (0, 0), (0, 0), (1, 16), (1, 17), (1, 18), (1, 19), (0, 0), (0, 0), (0, 0), (0, 0), (0, 0), (1, 20), (0, 0), (0, 0), (0, 0), (0, 0), (1, 21), (1, 22), (1, 23), (1, 24), (0, 0), (1, 25), (0, 0), (1, 26), (1, 27), (0, 0), (0, 0), (1, 28), (1, 29), (1, 30), (1, 31), (1, 32), (0, 0), (1, 33), (1, 34), (1, 35), (1, 36), (0, 0), (0, 0)]]
def zFn (c k : Nat) : Nat × Int := (zFnt.getD c []).getD k (0, 0)
/-- a kind's own final fields: limit, letters, least, most, without -/
def zKd (o : Int) : Int := if o = 52 ∨ o = 65 then 0 else if o = 54 ∨ o = 67 then 1 else 2
def zKT (k : Nat) (o : Int) : Int := match k with
  | 0 => if zKd o = 0 then 4 else if zKd o = 1 then 3 else 5
  | 1 => -11 - zKd o
  | 2 => -2 - 3 * zKd o
  | 3 => -3 - 3 * zKd o
  | _ => -4 - 3 * zKd o
/-- what a final field holds, once its object is made -/
def zFK (i : Int) (k : Nat) : Int := if (zFn (zCL i) k).1 = 2 then zKT k i else i + (zFn (zCL i) k).2
/-- slots of the first n cells -/
def zSZ (n : Nat) : Nat := ((zTab.take n).map (fun q => if q.1 < 20 then zNF q.1 else q.2)).sum
