section
-- ===== PART A: goes FIRST, ahead of the names: the tables' words, and 'selects' of the private methods out of them =====
/-- a private method of a class that the tables say can be made, by its rows of tables_1 -/
def lw_okq (q : MethodName × Nat) : Prop := (q.1.cls ≠ "java/lang/invoke/MethodHandle" ∧ q.1.cls ≠ "java/lang/invoke/VarHandle") ∧ Cond.instantiable q.1.cls q.2 ∈ tables_1 ∧ Cond.privateMethod q.1 ∈ tables_1 ∧ Cond.instanceMethod q.1 ∈ tables_1
theorem lw_p0 : lw_okq (⟨"WarmWall$WallReader", "clause", "(LWarmWall$Wall;)Z"⟩, 2) := ⟨⟨by decide +kernel, by decide +kernel⟩, List.mem_of_getElem? (i := 53) (by decide +kernel), List.mem_of_getElem? (i := 410) (by decide +kernel), List.mem_of_getElem? (i := 411) (by decide +kernel)⟩
theorem lw_p1 : lw_okq (⟨"WarmWall$WallReader", "items", "(LWarmWall$Kind;)Z"⟩, 2) := ⟨⟨by decide +kernel, by decide +kernel⟩, List.mem_of_getElem? (i := 53) (by decide +kernel), List.mem_of_getElem? (i := 420) (by decide +kernel), List.mem_of_getElem? (i := 421) (by decide +kernel)⟩
theorem lw_p2 : lw_okq (⟨"WarmWall$WallReader", "row", "(LWarmWall$Wall;)Z"⟩, 2) := ⟨⟨by decide +kernel, by decide +kernel⟩, List.mem_of_getElem? (i := 53) (by decide +kernel), List.mem_of_getElem? (i := 491) (by decide +kernel), List.mem_of_getElem? (i := 492) (by decide +kernel)⟩
theorem lw_p3 : lw_okq (⟨"WarmWall$LawReader", "clause", "(LWarmWall$Law;)Z"⟩, 2) := ⟨⟨by decide +kernel, by decide +kernel⟩, List.mem_of_getElem? (i := 77) (by decide +kernel), List.mem_of_getElem? (i := 524) (by decide +kernel), List.mem_of_getElem? (i := 525) (by decide +kernel)⟩
theorem lw_p4 : lw_okq (⟨"WarmWall$LawReader", "sum", "(LWarmWall$Law;I)Z"⟩, 2) := ⟨⟨by decide +kernel, by decide +kernel⟩, List.mem_of_getElem? (i := 77) (by decide +kernel), List.mem_of_getElem? (i := 534) (by decide +kernel), List.mem_of_getElem? (i := 535) (by decide +kernel)⟩
theorem lw_p5 : lw_okq (⟨"WarmWall$LawReader", "term", "(LWarmWall$Law;I)Z"⟩, 2) := ⟨⟨by decide +kernel, by decide +kernel⟩, List.mem_of_getElem? (i := 77) (by decide +kernel), List.mem_of_getElem? (i := 538) (by decide +kernel), List.mem_of_getElem? (i := 539) (by decide +kernel)⟩
theorem lw_p6 : lw_okq (⟨"WarmWall$LawReader", "atom", "(LWarmWall$Law;I)Z"⟩, 2) := ⟨⟨by decide +kernel, by decide +kernel⟩, List.mem_of_getElem? (i := 77) (by decide +kernel), List.mem_of_getElem? (i := 542) (by decide +kernel), List.mem_of_getElem? (i := 543) (by decide +kernel)⟩
theorem lw_p7 : lw_okq (⟨"WarmWall$LawReader", "condition", "(LWarmWall$Law;IZ)Z"⟩, 2) := ⟨⟨by decide +kernel, by decide +kernel⟩, List.mem_of_getElem? (i := 77) (by decide +kernel), List.mem_of_getElem? (i := 561) (by decide +kernel), List.mem_of_getElem? (i := 562) (by decide +kernel)⟩
theorem lw_p8 : lw_okq (⟨"WarmWall$LawReader", "truth", "(LWarmWall$Law;IZ)Z"⟩, 2) := ⟨⟨by decide +kernel, by decide +kernel⟩, List.mem_of_getElem? (i := 77) (by decide +kernel), List.mem_of_getElem? (i := 565) (by decide +kernel), List.mem_of_getElem? (i := 566) (by decide +kernel)⟩
theorem lw_p9 : lw_okq (⟨"WarmWall$LawReader", "unit", "(LWarmWall$Law;IZ)Z"⟩, 2) := ⟨⟨by decide +kernel, by decide +kernel⟩, List.mem_of_getElem? (i := 77) (by decide +kernel), List.mem_of_getElem? (i := 569) (by decide +kernel), List.mem_of_getElem? (i := 570) (by decide +kernel)⟩
theorem lw_p10 : lw_okq (⟨"WarmWall", "newWall", "()I"⟩, 12) := ⟨⟨by decide +kernel, by decide +kernel⟩, List.mem_of_getElem? (i := 26) (by decide +kernel), List.mem_of_getElem? (i := 577) (by decide +kernel), List.mem_of_getElem? (i := 578) (by decide +kernel)⟩
theorem lw_p11 : lw_okq (⟨"WarmWall", "newLaw", "()I"⟩, 12) := ⟨⟨by decide +kernel, by decide +kernel⟩, List.mem_of_getElem? (i := 26) (by decide +kernel), List.mem_of_getElem? (i := 594) (by decide +kernel), List.mem_of_getElem? (i := 595) (by decide +kernel)⟩
theorem lw_p12 : lw_okq (⟨"WarmWall$Sky", "turnTo", "(II)V"⟩, 6) := ⟨⟨by decide +kernel, by decide +kernel⟩, List.mem_of_getElem? (i := 86) (by decide +kernel), List.mem_of_getElem? (i := 677) (by decide +kernel), List.mem_of_getElem? (i := 678) (by decide +kernel)⟩
theorem lw_p13 : lw_okq (⟨"WarmWall$Course", "share", "(IILWarmWall$Wall;)I"⟩, 9) := ⟨⟨by decide +kernel, by decide +kernel⟩, List.mem_of_getElem? (i := 135) (by decide +kernel), List.mem_of_getElem? (i := 692) (by decide +kernel), List.mem_of_getElem? (i := 693) (by decide +kernel)⟩
theorem lw_p14 : lw_okq (⟨"WarmWall$Course", "settle", "(ZLWarmWall$Wall;)V"⟩, 9) := ⟨⟨by decide +kernel, by decide +kernel⟩, List.mem_of_getElem? (i := 135) (by decide +kernel), List.mem_of_getElem? (i := 697) (by decide +kernel), List.mem_of_getElem? (i := 698) (by decide +kernel)⟩
theorem lw_p15 : lw_okq (⟨"WarmWall", "goAhead", "(I)V"⟩, 12) := ⟨⟨by decide +kernel, by decide +kernel⟩, List.mem_of_getElem? (i := 26) (by decide +kernel), List.mem_of_getElem? (i := 732) (by decide +kernel), List.mem_of_getElem? (i := 733) (by decide +kernel)⟩
def lw_privs_1 : List (MethodName × Nat) := [(⟨"WarmWall$WallReader", "clause", "(LWarmWall$Wall;)Z"⟩, 2), (⟨"WarmWall$WallReader", "items", "(LWarmWall$Kind;)Z"⟩, 2), (⟨"WarmWall$WallReader", "row", "(LWarmWall$Wall;)Z"⟩, 2), (⟨"WarmWall$LawReader", "clause", "(LWarmWall$Law;)Z"⟩, 2), (⟨"WarmWall$LawReader", "sum", "(LWarmWall$Law;I)Z"⟩, 2), (⟨"WarmWall$LawReader", "term", "(LWarmWall$Law;I)Z"⟩, 2), (⟨"WarmWall$LawReader", "atom", "(LWarmWall$Law;I)Z"⟩, 2), (⟨"WarmWall$LawReader", "condition", "(LWarmWall$Law;IZ)Z"⟩, 2), (⟨"WarmWall$LawReader", "truth", "(LWarmWall$Law;IZ)Z"⟩, 2), (⟨"WarmWall$LawReader", "unit", "(LWarmWall$Law;IZ)Z"⟩, 2), (⟨"WarmWall", "newWall", "()I"⟩, 12), (⟨"WarmWall", "newLaw", "()I"⟩, 12), (⟨"WarmWall$Sky", "turnTo", "(II)V"⟩, 6), (⟨"WarmWall$Course", "share", "(IILWarmWall$Wall;)I"⟩, 9), (⟨"WarmWall$Course", "settle", "(ZLWarmWall$Wall;)V"⟩, 9), (⟨"WarmWall", "goAhead", "(I)V"⟩, 12)]
theorem lw_r1 : ∀ q ∈ lw_privs_1, lw_okq q := List.forall_mem_cons.mpr ⟨lw_p0, List.forall_mem_cons.mpr ⟨lw_p1, List.forall_mem_cons.mpr ⟨lw_p2, List.forall_mem_cons.mpr ⟨lw_p3, List.forall_mem_cons.mpr ⟨lw_p4, List.forall_mem_cons.mpr ⟨lw_p5, List.forall_mem_cons.mpr ⟨lw_p6, List.forall_mem_cons.mpr ⟨lw_p7, List.forall_mem_cons.mpr ⟨lw_p8, List.forall_mem_cons.mpr ⟨lw_p9, List.forall_mem_cons.mpr ⟨lw_p10, List.forall_mem_cons.mpr ⟨lw_p11, List.forall_mem_cons.mpr ⟨lw_p12, List.forall_mem_cons.mpr ⟨lw_p13, List.forall_mem_cons.mpr ⟨lw_p14, List.forall_mem_cons.mpr ⟨lw_p15, fun _ h => absurd h List.not_mem_nil⟩⟩⟩⟩⟩⟩⟩⟩⟩⟩⟩⟩⟩⟩⟩⟩
theorem lw_p16 : lw_okq (⟨"WarmWall", "airAhead", "(I)I"⟩, 12) := ⟨⟨by decide +kernel, by decide +kernel⟩, List.mem_of_getElem? (i := 26) (by decide +kernel), List.mem_of_getElem? (i := 745) (by decide +kernel), List.mem_of_getElem? (i := 746) (by decide +kernel)⟩
theorem lw_p17 : lw_okq (⟨"WarmWall", "sumOf", "([I)I"⟩, 12) := ⟨⟨by decide +kernel, by decide +kernel⟩, List.mem_of_getElem? (i := 26) (by decide +kernel), List.mem_of_getElem? (i := 749) (by decide +kernel), List.mem_of_getElem? (i := 750) (by decide +kernel)⟩
theorem lw_p18 : lw_okq (⟨"WarmWall", "dayLike", "(I)I"⟩, 12) := ⟨⟨by decide +kernel, by decide +kernel⟩, List.mem_of_getElem? (i := 26) (by decide +kernel), List.mem_of_getElem? (i := 802) (by decide +kernel), List.mem_of_getElem? (i := 803) (by decide +kernel)⟩
theorem lw_p19 : lw_okq (⟨"WarmWall", "nightAhead", "()V"⟩, 12) := ⟨⟨by decide +kernel, by decide +kernel⟩, List.mem_of_getElem? (i := 26) (by decide +kernel), List.mem_of_getElem? (i := 810) (by decide +kernel), List.mem_of_getElem? (i := 811) (by decide +kernel)⟩
theorem lw_p20 : lw_okq (⟨"WarmWall", "bestFree", "(I)I"⟩, 12) := ⟨⟨by decide +kernel, by decide +kernel⟩, List.mem_of_getElem? (i := 26) (by decide +kernel), List.mem_of_getElem? (i := 824) (by decide +kernel), List.mem_of_getElem? (i := 825) (by decide +kernel)⟩
theorem lw_p21 : lw_okq (⟨"WarmWall", "allSleepWarm", "(I)Z"⟩, 12) := ⟨⟨by decide +kernel, by decide +kernel⟩, List.mem_of_getElem? (i := 26) (by decide +kernel), List.mem_of_getElem? (i := 832) (by decide +kernel), List.mem_of_getElem? (i := 833) (by decide +kernel)⟩
theorem lw_p22 : lw_okq (⟨"WarmWall", "askedBy", "(I)I"⟩, 12) := ⟨⟨by decide +kernel, by decide +kernel⟩, List.mem_of_getElem? (i := 26) (by decide +kernel), List.mem_of_getElem? (i := 836) (by decide +kernel), List.mem_of_getElem? (i := 837) (by decide +kernel)⟩
theorem lw_p23 : lw_okq (⟨"WarmWall", "warmCells", "(I)I"⟩, 12) := ⟨⟨by decide +kernel, by decide +kernel⟩, List.mem_of_getElem? (i := 26) (by decide +kernel), List.mem_of_getElem? (i := 840) (by decide +kernel), List.mem_of_getElem? (i := 841) (by decide +kernel)⟩
theorem lw_p24 : lw_okq (⟨"WarmWall", "sleepersWhoAsk", "(II)I"⟩, 12) := ⟨⟨by decide +kernel, by decide +kernel⟩, List.mem_of_getElem? (i := 26) (by decide +kernel), List.mem_of_getElem? (i := 844) (by decide +kernel), List.mem_of_getElem? (i := 845) (by decide +kernel)⟩
theorem lw_p25 : lw_okq (⟨"WarmWall", "layAnew", "(I)I"⟩, 12) := ⟨⟨by decide +kernel, by decide +kernel⟩, List.mem_of_getElem? (i := 26) (by decide +kernel), List.mem_of_getElem? (i := 864) (by decide +kernel), List.mem_of_getElem? (i := 865) (by decide +kernel)⟩
theorem lw_p26 : lw_okq (⟨"WarmWall", "leastOfAll", "()I"⟩, 12) := ⟨⟨by decide +kernel, by decide +kernel⟩, List.mem_of_getElem? (i := 26) (by decide +kernel), List.mem_of_getElem? (i := 868) (by decide +kernel), List.mem_of_getElem? (i := 869) (by decide +kernel)⟩
theorem lw_p27 : lw_okq (⟨"WarmWall", "sortsThatFit", "(I)I"⟩, 12) := ⟨⟨by decide +kernel, by decide +kernel⟩, List.mem_of_getElem? (i := 26) (by decide +kernel), List.mem_of_getElem? (i := 884) (by decide +kernel), List.mem_of_getElem? (i := 885) (by decide +kernel)⟩
theorem lw_p28 : lw_okq (⟨"WarmWall", "isLikeTouches", "(II)Z"⟩, 12) := ⟨⟨by decide +kernel, by decide +kernel⟩, List.mem_of_getElem? (i := 26) (by decide +kernel), List.mem_of_getElem? (i := 888) (by decide +kernel), List.mem_of_getElem? (i := 889) (by decide +kernel)⟩
theorem lw_p29 : lw_okq (⟨"WarmWall", "tryOut", "(III)V"⟩, 12) := ⟨⟨by decide +kernel, by decide +kernel⟩, List.mem_of_getElem? (i := 26) (by decide +kernel), List.mem_of_getElem? (i := 905) (by decide +kernel), List.mem_of_getElem? (i := 906) (by decide +kernel)⟩
theorem lw_p30 : lw_okq (⟨"WarmWall", "unlikeWarmths", "(III)I"⟩, 12) := ⟨⟨by decide +kernel, by decide +kernel⟩, List.mem_of_getElem? (i := 26) (by decide +kernel), List.mem_of_getElem? (i := 912) (by decide +kernel), List.mem_of_getElem? (i := 913) (by decide +kernel)⟩
theorem lw_p31 : lw_okq (⟨"java/lang/Throwable", "fillInStackTrace", "(I)Ljava/lang/Throwable;"⟩, 6) := ⟨⟨by decide +kernel, by decide +kernel⟩, List.mem_of_getElem? (i := 960) (by decide +kernel), List.mem_of_getElem? (i := 958) (by decide +kernel), List.mem_of_getElem? (i := 959) (by decide +kernel)⟩
def lw_privs_2 : List (MethodName × Nat) := [(⟨"WarmWall", "airAhead", "(I)I"⟩, 12), (⟨"WarmWall", "sumOf", "([I)I"⟩, 12), (⟨"WarmWall", "dayLike", "(I)I"⟩, 12), (⟨"WarmWall", "nightAhead", "()V"⟩, 12), (⟨"WarmWall", "bestFree", "(I)I"⟩, 12), (⟨"WarmWall", "allSleepWarm", "(I)Z"⟩, 12), (⟨"WarmWall", "askedBy", "(I)I"⟩, 12), (⟨"WarmWall", "warmCells", "(I)I"⟩, 12), (⟨"WarmWall", "sleepersWhoAsk", "(II)I"⟩, 12), (⟨"WarmWall", "layAnew", "(I)I"⟩, 12), (⟨"WarmWall", "leastOfAll", "()I"⟩, 12), (⟨"WarmWall", "sortsThatFit", "(I)I"⟩, 12), (⟨"WarmWall", "isLikeTouches", "(II)Z"⟩, 12), (⟨"WarmWall", "tryOut", "(III)V"⟩, 12), (⟨"WarmWall", "unlikeWarmths", "(III)I"⟩, 12), (⟨"java/lang/Throwable", "fillInStackTrace", "(I)Ljava/lang/Throwable;"⟩, 6)]
theorem lw_r2 : ∀ q ∈ lw_privs_2, lw_okq q := List.forall_mem_cons.mpr ⟨lw_p16, List.forall_mem_cons.mpr ⟨lw_p17, List.forall_mem_cons.mpr ⟨lw_p18, List.forall_mem_cons.mpr ⟨lw_p19, List.forall_mem_cons.mpr ⟨lw_p20, List.forall_mem_cons.mpr ⟨lw_p21, List.forall_mem_cons.mpr ⟨lw_p22, List.forall_mem_cons.mpr ⟨lw_p23, List.forall_mem_cons.mpr ⟨lw_p24, List.forall_mem_cons.mpr ⟨lw_p25, List.forall_mem_cons.mpr ⟨lw_p26, List.forall_mem_cons.mpr ⟨lw_p27, List.forall_mem_cons.mpr ⟨lw_p28, List.forall_mem_cons.mpr ⟨lw_p29, List.forall_mem_cons.mpr ⟨lw_p30, List.forall_mem_cons.mpr ⟨lw_p31, fun _ h => absurd h List.not_mem_nil⟩⟩⟩⟩⟩⟩⟩⟩⟩⟩⟩⟩⟩⟩⟩⟩
theorem lw_p32 : lw_okq (⟨"WarmWallModel", "readWall", "()I"⟩, 63) := ⟨⟨by decide +kernel, by decide +kernel⟩, List.mem_of_getElem? (i := 991) (by decide +kernel), List.mem_of_getElem? (i := 1207) (by decide +kernel), List.mem_of_getElem? (i := 1208) (by decide +kernel)⟩
theorem lw_p33 : lw_okq (⟨"WarmWallModel", "clauseText", "()V"⟩, 63) := ⟨⟨by decide +kernel, by decide +kernel⟩, List.mem_of_getElem? (i := 991) (by decide +kernel), List.mem_of_getElem? (i := 1211) (by decide +kernel), List.mem_of_getElem? (i := 1212) (by decide +kernel)⟩
theorem lw_p34 : lw_okq (⟨"WarmWallModel", "look", "()I"⟩, 63) := ⟨⟨by decide +kernel, by decide +kernel⟩, List.mem_of_getElem? (i := 991) (by decide +kernel), List.mem_of_getElem? (i := 1215) (by decide +kernel), List.mem_of_getElem? (i := 1216) (by decide +kernel)⟩
theorem lw_p35 : lw_okq (⟨"WarmWallModel", "here", "()I"⟩, 63) := ⟨⟨by decide +kernel, by decide +kernel⟩, List.mem_of_getElem? (i := 991) (by decide +kernel), List.mem_of_getElem? (i := 1219) (by decide +kernel), List.mem_of_getElem? (i := 1220) (by decide +kernel)⟩
theorem lw_p36 : lw_okq (⟨"WarmWallModel", "items", "(I[III)V"⟩, 63) := ⟨⟨by decide +kernel, by decide +kernel⟩, List.mem_of_getElem? (i := 991) (by decide +kernel), List.mem_of_getElem? (i := 1223) (by decide +kernel), List.mem_of_getElem? (i := 1224) (by decide +kernel)⟩
theorem lw_p37 : lw_okq (⟨"WarmWallModel", "number", "(II)I"⟩, 63) := ⟨⟨by decide +kernel, by decide +kernel⟩, List.mem_of_getElem? (i := 991) (by decide +kernel), List.mem_of_getElem? (i := 1239) (by decide +kernel), List.mem_of_getElem? (i := 1240) (by decide +kernel)⟩
theorem lw_p38 : lw_okq (⟨"WarmWallModel", "bad", "()V"⟩, 63) := ⟨⟨by decide +kernel, by decide +kernel⟩, List.mem_of_getElem? (i := 991) (by decide +kernel), List.mem_of_getElem? (i := 1246) (by decide +kernel), List.mem_of_getElem? (i := 1247) (by decide +kernel)⟩
theorem lw_p39 : lw_okq (⟨"WarmWallModel", "rowText", "()V"⟩, 63) := ⟨⟨by decide +kernel, by decide +kernel⟩, List.mem_of_getElem? (i := 991) (by decide +kernel), List.mem_of_getElem? (i := 1253) (by decide +kernel), List.mem_of_getElem? (i := 1254) (by decide +kernel)⟩
theorem lw_p40 : lw_okq (⟨"WarmWallModel", "isWhole", "()Z"⟩, 63) := ⟨⟨by decide +kernel, by decide +kernel⟩, List.mem_of_getElem? (i := 991) (by decide +kernel), List.mem_of_getElem? (i := 1257) (by decide +kernel), List.mem_of_getElem? (i := 1258) (by decide +kernel)⟩
theorem lw_p41 : lw_okq (⟨"WarmWallModel", "readLaw", "(I)I"⟩, 63) := ⟨⟨by decide +kernel, by decide +kernel⟩, List.mem_of_getElem? (i := 991) (by decide +kernel), List.mem_of_getElem? (i := 1261) (by decide +kernel), List.mem_of_getElem? (i := 1262) (by decide +kernel)⟩
theorem lw_p42 : lw_okq (⟨"WarmWallModel", "open", "(I)V"⟩, 63) := ⟨⟨by decide +kernel, by decide +kernel⟩, List.mem_of_getElem? (i := 991) (by decide +kernel), List.mem_of_getElem? (i := 1265) (by decide +kernel), List.mem_of_getElem? (i := 1266) (by decide +kernel)⟩
theorem lw_p43 : lw_okq (⟨"WarmWallModel", "clause", "()V"⟩, 63) := ⟨⟨by decide +kernel, by decide +kernel⟩, List.mem_of_getElem? (i := 991) (by decide +kernel), List.mem_of_getElem? (i := 1269) (by decide +kernel), List.mem_of_getElem? (i := 1270) (by decide +kernel)⟩
theorem lw_p44 : lw_okq (⟨"WarmWallModel", "condition", "()V"⟩, 63) := ⟨⟨by decide +kernel, by decide +kernel⟩, List.mem_of_getElem? (i := 991) (by decide +kernel), List.mem_of_getElem? (i := 1273) (by decide +kernel), List.mem_of_getElem? (i := 1274) (by decide +kernel)⟩
theorem lw_p45 : lw_okq (⟨"WarmWallModel", "unit", "()V"⟩, 63) := ⟨⟨by decide +kernel, by decide +kernel⟩, List.mem_of_getElem? (i := 991) (by decide +kernel), List.mem_of_getElem? (i := 1277) (by decide +kernel), List.mem_of_getElem? (i := 1278) (by decide +kernel)⟩
theorem lw_p46 : lw_okq (⟨"WarmWallModel", "opens", "()V"⟩, 63) := ⟨⟨by decide +kernel, by decide +kernel⟩, List.mem_of_getElem? (i := 991) (by decide +kernel), List.mem_of_getElem? (i := 1281) (by decide +kernel), List.mem_of_getElem? (i := 1282) (by decide +kernel)⟩
theorem lw_p47 : lw_okq (⟨"WarmWallModel", "put", "(II)V"⟩, 63) := ⟨⟨by decide +kernel, by decide +kernel⟩, List.mem_of_getElem? (i := 991) (by decide +kernel), List.mem_of_getElem? (i := 1285) (by decide +kernel), List.mem_of_getElem? (i := 1286) (by decide +kernel)⟩
def lw_privs_3 : List (MethodName × Nat) := [(⟨"WarmWallModel", "readWall", "()I"⟩, 63), (⟨"WarmWallModel", "clauseText", "()V"⟩, 63), (⟨"WarmWallModel", "look", "()I"⟩, 63), (⟨"WarmWallModel", "here", "()I"⟩, 63), (⟨"WarmWallModel", "items", "(I[III)V"⟩, 63), (⟨"WarmWallModel", "number", "(II)I"⟩, 63), (⟨"WarmWallModel", "bad", "()V"⟩, 63), (⟨"WarmWallModel", "rowText", "()V"⟩, 63), (⟨"WarmWallModel", "isWhole", "()Z"⟩, 63), (⟨"WarmWallModel", "readLaw", "(I)I"⟩, 63), (⟨"WarmWallModel", "open", "(I)V"⟩, 63), (⟨"WarmWallModel", "clause", "()V"⟩, 63), (⟨"WarmWallModel", "condition", "()V"⟩, 63), (⟨"WarmWallModel", "unit", "()V"⟩, 63), (⟨"WarmWallModel", "opens", "()V"⟩, 63), (⟨"WarmWallModel", "put", "(II)V"⟩, 63)]
theorem lw_r3 : ∀ q ∈ lw_privs_3, lw_okq q := List.forall_mem_cons.mpr ⟨lw_p32, List.forall_mem_cons.mpr ⟨lw_p33, List.forall_mem_cons.mpr ⟨lw_p34, List.forall_mem_cons.mpr ⟨lw_p35, List.forall_mem_cons.mpr ⟨lw_p36, List.forall_mem_cons.mpr ⟨lw_p37, List.forall_mem_cons.mpr ⟨lw_p38, List.forall_mem_cons.mpr ⟨lw_p39, List.forall_mem_cons.mpr ⟨lw_p40, List.forall_mem_cons.mpr ⟨lw_p41, List.forall_mem_cons.mpr ⟨lw_p42, List.forall_mem_cons.mpr ⟨lw_p43, List.forall_mem_cons.mpr ⟨lw_p44, List.forall_mem_cons.mpr ⟨lw_p45, List.forall_mem_cons.mpr ⟨lw_p46, List.forall_mem_cons.mpr ⟨lw_p47, fun _ h => absurd h List.not_mem_nil⟩⟩⟩⟩⟩⟩⟩⟩⟩⟩⟩⟩⟩⟩⟩⟩
theorem lw_p48 : lw_okq (⟨"WarmWallModel", "closes", "(I)V"⟩, 63) := ⟨⟨by decide +kernel, by decide +kernel⟩, List.mem_of_getElem? (i := 991) (by decide +kernel), List.mem_of_getElem? (i := 1289) (by decide +kernel), List.mem_of_getElem? (i := 1290) (by decide +kernel)⟩
theorem lw_p49 : lw_okq (⟨"WarmWallModel", "sum", "()V"⟩, 63) := ⟨⟨by decide +kernel, by decide +kernel⟩, List.mem_of_getElem? (i := 991) (by decide +kernel), List.mem_of_getElem? (i := 1293) (by decide +kernel), List.mem_of_getElem? (i := 1294) (by decide +kernel)⟩
theorem lw_p50 : lw_okq (⟨"WarmWallModel", "term", "()V"⟩, 63) := ⟨⟨by decide +kernel, by decide +kernel⟩, List.mem_of_getElem? (i := 991) (by decide +kernel), List.mem_of_getElem? (i := 1297) (by decide +kernel), List.mem_of_getElem? (i := 1298) (by decide +kernel)⟩
theorem lw_p51 : lw_okq (⟨"WarmWallModel", "atom", "()V"⟩, 63) := ⟨⟨by decide +kernel, by decide +kernel⟩, List.mem_of_getElem? (i := 991) (by decide +kernel), List.mem_of_getElem? (i := 1301) (by decide +kernel), List.mem_of_getElem? (i := 1302) (by decide +kernel)⟩
theorem lw_p52 : lw_okq (⟨"WarmWallModel", "plainNumber", "()I"⟩, 63) := ⟨⟨by decide +kernel, by decide +kernel⟩, List.mem_of_getElem? (i := 991) (by decide +kernel), List.mem_of_getElem? (i := 1305) (by decide +kernel), List.mem_of_getElem? (i := 1306) (by decide +kernel)⟩
theorem lw_p53 : lw_okq (⟨"WarmWallModel", "compare", "()V"⟩, 63) := ⟨⟨by decide +kernel, by decide +kernel⟩, List.mem_of_getElem? (i := 991) (by decide +kernel), List.mem_of_getElem? (i := 1312) (by decide +kernel), List.mem_of_getElem? (i := 1313) (by decide +kernel)⟩
theorem lw_p54 : lw_okq (⟨"WarmWallModel", "goOnAnd", "()V"⟩, 63) := ⟨⟨by decide +kernel, by decide +kernel⟩, List.mem_of_getElem? (i := 991) (by decide +kernel), List.mem_of_getElem? (i := 1319) (by decide +kernel), List.mem_of_getElem? (i := 1320) (by decide +kernel)⟩
theorem lw_p55 : lw_okq (⟨"WarmWallModel", "goOnOr", "()V"⟩, 63) := ⟨⟨by decide +kernel, by decide +kernel⟩, List.mem_of_getElem? (i := 991) (by decide +kernel), List.mem_of_getElem? (i := 1323) (by decide +kernel), List.mem_of_getElem? (i := 1324) (by decide +kernel)⟩
theorem lw_p56 : lw_okq (⟨"WarmWallModel", "atEnd", "()I"⟩, 63) := ⟨⟨by decide +kernel, by decide +kernel⟩, List.mem_of_getElem? (i := 991) (by decide +kernel), List.mem_of_getElem? (i := 1327) (by decide +kernel), List.mem_of_getElem? (i := 1328) (by decide +kernel)⟩
theorem lw_p57 : lw_okq (⟨"WarmWallModel", "takeWall", "()I"⟩, 63) := ⟨⟨by decide +kernel, by decide +kernel⟩, List.mem_of_getElem? (i := 991) (by decide +kernel), List.mem_of_getElem? (i := 1335) (by decide +kernel), List.mem_of_getElem? (i := 1336) (by decide +kernel)⟩
theorem lw_p58 : lw_okq (⟨"WarmWallModel", "isCell", "(I)Z"⟩, 63) := ⟨⟨by decide +kernel, by decide +kernel⟩, List.mem_of_getElem? (i := 991) (by decide +kernel), List.mem_of_getElem? (i := 1346) (by decide +kernel), List.mem_of_getElem? (i := 1347) (by decide +kernel)⟩
theorem lw_p59 : lw_okq (⟨"WarmWallModel", "sunOn", "(II)I"⟩, 63) := ⟨⟨by decide +kernel, by decide +kernel⟩, List.mem_of_getElem? (i := 991) (by decide +kernel), List.mem_of_getElem? (i := 1350) (by decide +kernel), List.mem_of_getElem? (i := 1351) (by decide +kernel)⟩
theorem lw_p60 : lw_okq (⟨"WarmWallModel", "worthOf", "(I)I"⟩, 63) := ⟨⟨by decide +kernel, by decide +kernel⟩, List.mem_of_getElem? (i := 991) (by decide +kernel), List.mem_of_getElem? (i := 1354) (by decide +kernel), List.mem_of_getElem? (i := 1355) (by decide +kernel)⟩
theorem lw_p61 : lw_okq (⟨"WarmWallModel", "workOut", "(III)I"⟩, 63) := ⟨⟨by decide +kernel, by decide +kernel⟩, List.mem_of_getElem? (i := 991) (by decide +kernel), List.mem_of_getElem? (i := 1358) (by decide +kernel), List.mem_of_getElem? (i := 1359) (by decide +kernel)⟩
theorem lw_p62 : lw_okq (⟨"WarmWallModel", "putAside", "()V"⟩, 63) := ⟨⟨by decide +kernel, by decide +kernel⟩, List.mem_of_getElem? (i := 991) (by decide +kernel), List.mem_of_getElem? (i := 1378) (by decide +kernel), List.mem_of_getElem? (i := 1379) (by decide +kernel)⟩
theorem lw_p63 : lw_okq (⟨"WarmWallModel", "pass", "()V"⟩, 63) := ⟨⟨by decide +kernel, by decide +kernel⟩, List.mem_of_getElem? (i := 991) (by decide +kernel), List.mem_of_getElem? (i := 1382) (by decide +kernel), List.mem_of_getElem? (i := 1383) (by decide +kernel)⟩
def lw_privs_4 : List (MethodName × Nat) := [(⟨"WarmWallModel", "closes", "(I)V"⟩, 63), (⟨"WarmWallModel", "sum", "()V"⟩, 63), (⟨"WarmWallModel", "term", "()V"⟩, 63), (⟨"WarmWallModel", "atom", "()V"⟩, 63), (⟨"WarmWallModel", "plainNumber", "()I"⟩, 63), (⟨"WarmWallModel", "compare", "()V"⟩, 63), (⟨"WarmWallModel", "goOnAnd", "()V"⟩, 63), (⟨"WarmWallModel", "goOnOr", "()V"⟩, 63), (⟨"WarmWallModel", "atEnd", "()I"⟩, 63), (⟨"WarmWallModel", "takeWall", "()I"⟩, 63), (⟨"WarmWallModel", "isCell", "(I)Z"⟩, 63), (⟨"WarmWallModel", "sunOn", "(II)I"⟩, 63), (⟨"WarmWallModel", "worthOf", "(I)I"⟩, 63), (⟨"WarmWallModel", "workOut", "(III)I"⟩, 63), (⟨"WarmWallModel", "putAside", "()V"⟩, 63), (⟨"WarmWallModel", "pass", "()V"⟩, 63)]
theorem lw_r4 : ∀ q ∈ lw_privs_4, lw_okq q := List.forall_mem_cons.mpr ⟨lw_p48, List.forall_mem_cons.mpr ⟨lw_p49, List.forall_mem_cons.mpr ⟨lw_p50, List.forall_mem_cons.mpr ⟨lw_p51, List.forall_mem_cons.mpr ⟨lw_p52, List.forall_mem_cons.mpr ⟨lw_p53, List.forall_mem_cons.mpr ⟨lw_p54, List.forall_mem_cons.mpr ⟨lw_p55, List.forall_mem_cons.mpr ⟨lw_p56, List.forall_mem_cons.mpr ⟨lw_p57, List.forall_mem_cons.mpr ⟨lw_p58, List.forall_mem_cons.mpr ⟨lw_p59, List.forall_mem_cons.mpr ⟨lw_p60, List.forall_mem_cons.mpr ⟨lw_p61, List.forall_mem_cons.mpr ⟨lw_p62, List.forall_mem_cons.mpr ⟨lw_p63, fun _ h => absurd h List.not_mem_nil⟩⟩⟩⟩⟩⟩⟩⟩⟩⟩⟩⟩⟩⟩⟩⟩
theorem lw_p64 : lw_okq (⟨"WarmWallModel", "ofStone", "(II)I"⟩, 63) := ⟨⟨by decide +kernel, by decide +kernel⟩, List.mem_of_getElem? (i := 991) (by decide +kernel), List.mem_of_getElem? (i := 1386) (by decide +kernel), List.mem_of_getElem? (i := 1387) (by decide +kernel)⟩
theorem lw_p65 : lw_okq (⟨"WarmWallModel", "beside", "(I)I"⟩, 63) := ⟨⟨by decide +kernel, by decide +kernel⟩, List.mem_of_getElem? (i := 991) (by decide +kernel), List.mem_of_getElem? (i := 1390) (by decide +kernel), List.mem_of_getElem? (i := 1391) (by decide +kernel)⟩
theorem lw_p66 : lw_okq (⟨"WarmWallModel", "doesBurn", "(II)Z"⟩, 63) := ⟨⟨by decide +kernel, by decide +kernel⟩, List.mem_of_getElem? (i := 991) (by decide +kernel), List.mem_of_getElem? (i := 1400) (by decide +kernel), List.mem_of_getElem? (i := 1401) (by decide +kernel)⟩
theorem lw_p67 : lw_okq (⟨"WarmWallModel", "ovenCell", "(I)I"⟩, 63) := ⟨⟨by decide +kernel, by decide +kernel⟩, List.mem_of_getElem? (i := 991) (by decide +kernel), List.mem_of_getElem? (i := 1404) (by decide +kernel), List.mem_of_getElem? (i := 1405) (by decide +kernel)⟩
theorem lw_p68 : lw_okq (⟨"WarmWallModel", "takeBack", "()V"⟩, 63) := ⟨⟨by decide +kernel, by decide +kernel⟩, List.mem_of_getElem? (i := 991) (by decide +kernel), List.mem_of_getElem? (i := 1408) (by decide +kernel), List.mem_of_getElem? (i := 1409) (by decide +kernel)⟩
theorem lw_p69 : lw_okq (⟨"WarmWallModel", "isSleeper", "(I)Z"⟩, 63) := ⟨⟨by decide +kernel, by decide +kernel⟩, List.mem_of_getElem? (i := 991) (by decide +kernel), List.mem_of_getElem? (i := 1424) (by decide +kernel), List.mem_of_getElem? (i := 1425) (by decide +kernel)⟩
theorem lw_p70 : lw_okq (⟨"WarmWallModel", "areHours", "(I)Z"⟩, 63) := ⟨⟨by decide +kernel, by decide +kernel⟩, List.mem_of_getElem? (i := 991) (by decide +kernel), List.mem_of_getElem? (i := 1448) (by decide +kernel), List.mem_of_getElem? (i := 1449) (by decide +kernel)⟩
theorem lw_p71 : lw_okq (⟨"WarmWallModel", "passAll", "(I)V"⟩, 63) := ⟨⟨by decide +kernel, by decide +kernel⟩, List.mem_of_getElem? (i := 991) (by decide +kernel), List.mem_of_getElem? (i := 1460) (by decide +kernel), List.mem_of_getElem? (i := 1461) (by decide +kernel)⟩
theorem lw_p72 : lw_okq (⟨"WarmWallModel", "airOf", "(I)I"⟩, 63) := ⟨⟨by decide +kernel, by decide +kernel⟩, List.mem_of_getElem? (i := 991) (by decide +kernel), List.mem_of_getElem? (i := 1468) (by decide +kernel), List.mem_of_getElem? (i := 1469) (by decide +kernel)⟩
theorem lw_p73 : lw_okq (⟨"WarmWallModel", "layNight", "()V"⟩, 63) := ⟨⟨by decide +kernel, by decide +kernel⟩, List.mem_of_getElem? (i := 991) (by decide +kernel), List.mem_of_getElem? (i := 1476) (by decide +kernel), List.mem_of_getElem? (i := 1477) (by decide +kernel)⟩
theorem lw_p74 : lw_okq (⟨"WarmWallModel", "bestFree", "([Z)I"⟩, 63) := ⟨⟨by decide +kernel, by decide +kernel⟩, List.mem_of_getElem? (i := 991) (by decide +kernel), List.mem_of_getElem? (i := 1484) (by decide +kernel), List.mem_of_getElem? (i := 1485) (by decide +kernel)⟩
theorem lw_p75 : lw_okq (⟨"WarmWallModel", "canSleep", "(I)Z"⟩, 63) := ⟨⟨by decide +kernel, by decide +kernel⟩, List.mem_of_getElem? (i := 991) (by decide +kernel), List.mem_of_getElem? (i := 1493) (by decide +kernel), List.mem_of_getElem? (i := 1494) (by decide +kernel)⟩
theorem lw_p76 : lw_okq (⟨"WarmWallModel", "wants", "(I)I"⟩, 63) := ⟨⟨by decide +kernel, by decide +kernel⟩, List.mem_of_getElem? (i := 991) (by decide +kernel), List.mem_of_getElem? (i := 1497) (by decide +kernel), List.mem_of_getElem? (i := 1498) (by decide +kernel)⟩
theorem lw_p77 : lw_okq (⟨"WarmWallModel", "lay", "(II)V"⟩, 63) := ⟨⟨by decide +kernel, by decide +kernel⟩, List.mem_of_getElem? (i := 991) (by decide +kernel), List.mem_of_getElem? (i := 1505) (by decide +kernel), List.mem_of_getElem? (i := 1506) (by decide +kernel)⟩
theorem lw_p78 : lw_okq (⟨"WarmWallModel", "feltAt", "(II)I"⟩, 63) := ⟨⟨by decide +kernel, by decide +kernel⟩, List.mem_of_getElem? (i := 991) (by decide +kernel), List.mem_of_getElem? (i := 1509) (by decide +kernel), List.mem_of_getElem? (i := 1510) (by decide +kernel)⟩
theorem lw_p79 : lw_okq (⟨"WarmWallModel", "layBack", "(III)V"⟩, 63) := ⟨⟨by decide +kernel, by decide +kernel⟩, List.mem_of_getElem? (i := 991) (by decide +kernel), List.mem_of_getElem? (i := 1513) (by decide +kernel), List.mem_of_getElem? (i := 1514) (by decide +kernel)⟩
def lw_privs_5 : List (MethodName × Nat) := [(⟨"WarmWallModel", "ofStone", "(II)I"⟩, 63), (⟨"WarmWallModel", "beside", "(I)I"⟩, 63), (⟨"WarmWallModel", "doesBurn", "(II)Z"⟩, 63), (⟨"WarmWallModel", "ovenCell", "(I)I"⟩, 63), (⟨"WarmWallModel", "takeBack", "()V"⟩, 63), (⟨"WarmWallModel", "isSleeper", "(I)Z"⟩, 63), (⟨"WarmWallModel", "areHours", "(I)Z"⟩, 63), (⟨"WarmWallModel", "passAll", "(I)V"⟩, 63), (⟨"WarmWallModel", "airOf", "(I)I"⟩, 63), (⟨"WarmWallModel", "layNight", "()V"⟩, 63), (⟨"WarmWallModel", "bestFree", "([Z)I"⟩, 63), (⟨"WarmWallModel", "canSleep", "(I)Z"⟩, 63), (⟨"WarmWallModel", "wants", "(I)I"⟩, 63), (⟨"WarmWallModel", "lay", "(II)V"⟩, 63), (⟨"WarmWallModel", "feltAt", "(II)I"⟩, 63), (⟨"WarmWallModel", "layBack", "(III)V"⟩, 63)]
theorem lw_r5 : ∀ q ∈ lw_privs_5, lw_okq q := List.forall_mem_cons.mpr ⟨lw_p64, List.forall_mem_cons.mpr ⟨lw_p65, List.forall_mem_cons.mpr ⟨lw_p66, List.forall_mem_cons.mpr ⟨lw_p67, List.forall_mem_cons.mpr ⟨lw_p68, List.forall_mem_cons.mpr ⟨lw_p69, List.forall_mem_cons.mpr ⟨lw_p70, List.forall_mem_cons.mpr ⟨lw_p71, List.forall_mem_cons.mpr ⟨lw_p72, List.forall_mem_cons.mpr ⟨lw_p73, List.forall_mem_cons.mpr ⟨lw_p74, List.forall_mem_cons.mpr ⟨lw_p75, List.forall_mem_cons.mpr ⟨lw_p76, List.forall_mem_cons.mpr ⟨lw_p77, List.forall_mem_cons.mpr ⟨lw_p78, List.forall_mem_cons.mpr ⟨lw_p79, fun _ h => absurd h List.not_mem_nil⟩⟩⟩⟩⟩⟩⟩⟩⟩⟩⟩⟩⟩⟩⟩⟩
theorem lw_p80 : lw_okq (⟨"WarmWallModel", "layDigits", "(II)I"⟩, 63) := ⟨⟨by decide +kernel, by decide +kernel⟩, List.mem_of_getElem? (i := 991) (by decide +kernel), List.mem_of_getElem? (i := 1522) (by decide +kernel), List.mem_of_getElem? (i := 1523) (by decide +kernel)⟩
theorem lw_p81 : lw_okq (⟨"WarmWallModel", "leastNight", "()I"⟩, 63) := ⟨⟨by decide +kernel, by decide +kernel⟩, List.mem_of_getElem? (i := 991) (by decide +kernel), List.mem_of_getElem? (i := 1526) (by decide +kernel), List.mem_of_getElem? (i := 1527) (by decide +kernel)⟩
theorem lw_p82 : lw_okq (⟨"WarmWallModel", "fitsOf", "(I)I"⟩, 63) := ⟨⟨by decide +kernel, by decide +kernel⟩, List.mem_of_getElem? (i := 991) (by decide +kernel), List.mem_of_getElem? (i := 1538) (by decide +kernel), List.mem_of_getElem? (i := 1539) (by decide +kernel)⟩
theorem lw_p83 : lw_okq (⟨"WarmWallModel", "agrees", "()Z"⟩, 63) := ⟨⟨by decide +kernel, by decide +kernel⟩, List.mem_of_getElem? (i := 991) (by decide +kernel), List.mem_of_getElem? (i := 1542) (by decide +kernel), List.mem_of_getElem? (i := 1543) (by decide +kernel)⟩
theorem lw_p84 : lw_okq (⟨"WarmWallModel", "tryOut", "(III)V"⟩, 63) := ⟨⟨by decide +kernel, by decide +kernel⟩, List.mem_of_getElem? (i := 991) (by decide +kernel), List.mem_of_getElem? (i := 1550) (by decide +kernel), List.mem_of_getElem? (i := 1551) (by decide +kernel)⟩
theorem lw_p85 : lw_okq (⟨"WarmWallModel", "unlike", "(III)I"⟩, 63) := ⟨⟨by decide +kernel, by decide +kernel⟩, List.mem_of_getElem? (i := 991) (by decide +kernel), List.mem_of_getElem? (i := 1554) (by decide +kernel), List.mem_of_getElem? (i := 1555) (by decide +kernel)⟩
theorem lw_p86 : lw_okq (⟨"WarmWallModel", "sumNow", "()I"⟩, 63) := ⟨⟨by decide +kernel, by decide +kernel⟩, List.mem_of_getElem? (i := 991) (by decide +kernel), List.mem_of_getElem? (i := 1566) (by decide +kernel), List.mem_of_getElem? (i := 1567) (by decide +kernel)⟩
theorem lw_p87 : lw_okq (⟨"WarmWallModel", "comfortAt", "(I)I"⟩, 63) := ⟨⟨by decide +kernel, by decide +kernel⟩, List.mem_of_getElem? (i := 991) (by decide +kernel), List.mem_of_getElem? (i := 1585) (by decide +kernel), List.mem_of_getElem? (i := 1586) (by decide +kernel)⟩
theorem lw_p88 : lw_okq (⟨"WarmWallModel", "areLike", "(II)Z"⟩, 63) := ⟨⟨by decide +kernel, by decide +kernel⟩, List.mem_of_getElem? (i := 991) (by decide +kernel), List.mem_of_getElem? (i := 1605) (by decide +kernel), List.mem_of_getElem? (i := 1606) (by decide +kernel)⟩
def lw_privs_6 : List (MethodName × Nat) := [(⟨"WarmWallModel", "layDigits", "(II)I"⟩, 63), (⟨"WarmWallModel", "leastNight", "()I"⟩, 63), (⟨"WarmWallModel", "fitsOf", "(I)I"⟩, 63), (⟨"WarmWallModel", "agrees", "()Z"⟩, 63), (⟨"WarmWallModel", "tryOut", "(III)V"⟩, 63), (⟨"WarmWallModel", "unlike", "(III)I"⟩, 63), (⟨"WarmWallModel", "sumNow", "()I"⟩, 63), (⟨"WarmWallModel", "comfortAt", "(I)I"⟩, 63), (⟨"WarmWallModel", "areLike", "(II)Z"⟩, 63)]
theorem lw_r6 : ∀ q ∈ lw_privs_6, lw_okq q := List.forall_mem_cons.mpr ⟨lw_p80, List.forall_mem_cons.mpr ⟨lw_p81, List.forall_mem_cons.mpr ⟨lw_p82, List.forall_mem_cons.mpr ⟨lw_p83, List.forall_mem_cons.mpr ⟨lw_p84, List.forall_mem_cons.mpr ⟨lw_p85, List.forall_mem_cons.mpr ⟨lw_p86, List.forall_mem_cons.mpr ⟨lw_p87, List.forall_mem_cons.mpr ⟨lw_p88, fun _ h => absurd h List.not_mem_nil⟩⟩⟩⟩⟩⟩⟩⟩⟩
def lw_privs : List (MethodName × Nat) := lw_privs_1 ++ (lw_privs_2 ++ (lw_privs_3 ++ (lw_privs_4 ++ (lw_privs_5 ++ (lw_privs_6)))))
def lw_tbl : List Cond := k2_sels lw_privs ++ tables_1
theorem lw_privs_ok : ∀ q ∈ lw_privs, lw_okq q := by
  show ∀ q ∈ lw_privs_1 ++ (lw_privs_2 ++ (lw_privs_3 ++ (lw_privs_4 ++ (lw_privs_5 ++ (lw_privs_6))))), lw_okq q
  exact List.forall_mem_append.mpr ⟨lw_r1, List.forall_mem_append.mpr ⟨lw_r2, List.forall_mem_append.mpr ⟨lw_r3, List.forall_mem_append.mpr ⟨lw_r4, List.forall_mem_append.mpr ⟨lw_r5, lw_r6⟩⟩⟩⟩⟩
def zT0 : u_T := fun k => match k with
  | 0 => ("WarmWall$Course", "warmth", "[I", true)
  | 1 => ("WarmWall$Course", "felt", "[I", true)
  | 2 => ("WarmWall$Course", "sorts", "[I", true)
  | 3 => ("WarmWall$Course", "from", "[I", true)
  | 4 => ("WarmWall$Course", "until", "[I", true)
  | 5 => ("WarmWall$Course", "leastFelt", "[I", true)
  | 6 => ("WarmWall$Course", "feltInAll", "[I", true)
  | 7 => ("WarmWall$Course", "given", "[I", true)
  | _ => ("WarmWall$Course", "hour", "I", false)
def zy0 : Nat → FieldType := fun k => match k with
  | 0 => .array .int
  | 1 => .array .int
  | 2 => .array .int
  | 3 => .array .int
  | 4 => .array .int
  | 5 => .array .int
  | 6 => .array .int
  | 7 => .array .int
  | _ => .int
def zT1 : u_T := fun k => match k with
  | 0 => ("WarmWall$Kind", "limit", "I", true)
  | 1 => ("WarmWall$Kind", "letters", "Ljava/lang/String;", true)
  | 2 => ("WarmWall$Kind", "least", "[I", true)
  | 3 => ("WarmWall$Kind", "most", "[I", true)
  | 4 => ("WarmWall$Kind", "without", "[I", true)
  | 5 => ("WarmWall$Kind", "numbers", "[I", true)
  | _ => ("WarmWall$Kind", "told", "I", false)
def zy1 : Nat → FieldType := fun k => match k with
  | 0 => .int
  | 1 => .object "java/lang/String"
  | 2 => .array .int
  | 3 => .array .int
  | 4 => .array .int
  | 5 => .array .int
  | _ => .int
def zT2 : u_T := fun k => match k with
  | 0 => ("WarmWall$Law", "code", "[I", true)
  | 1 => ("WarmWall$Law", "stack", "[I", true)
  | 2 => ("WarmWall$Law", "size", "I", false)
  | _ => ("WarmWall$Law", "asksDay", "Z", false)
def zy2 : Nat → FieldType := fun k => match k with
  | 0 => .array .int
  | 1 => .array .int
  | 2 => .int
  | _ => .boolean
def zT3 : u_T := fun k => match k with
  | 0 => ("WarmWall$Reader", "tape", "LWarmWall$Tape;", true)
  | _ => ("WarmWall$Reader", "place", "I", false)
def zy3 : Nat → FieldType := fun k => match k with
  | 0 => .object "WarmWall$Tape"
  | _ => .int
def zT4 : u_T := fun k => match k with
  | 0 => ("WarmWall$Past", "warmths", "[I", true)
  | 1 => ("WarmWall$Past", "picture", "[I", true)
  | 2 => ("WarmWall$Past", "isDrawn", "Z", false)
  | 3 => ("WarmWall$Past", "pictureHour", "I", false)
  | 4 => ("WarmWall$Past", "next", "I", false)
  | _ => ("WarmWall$Past", "kept", "I", false)
def zy4 : Nat → FieldType := fun k => match k with
  | 0 => .array .int
  | 1 => .array .int
  | 2 => .boolean
  | 3 => .int
  | 4 => .int
  | _ => .int
def zT5 : u_T := fun k => match k with
  | 0 => ("WarmWall$Sky", "laws", "[LWarmWall$Law;", true)
  | 1 => ("WarmWall$Sky", "suns", "[I", true)
  | 2 => ("WarmWall$Sky", "dayOfPage", "[I", true)
  | 3 => ("WarmWall$Sky", "lawsTold", "I", false)
  | 4 => ("WarmWall$Sky", "lawHeld", "I", false)
  | _ => ("WarmWall$Sky", "rainHours", "I", false)
def zy5 : Nat → FieldType := fun k => match k with
  | 0 => .array (.object "WarmWall$Law")
  | 1 => .array .int
  | 2 => .array .int
  | 3 => .int
  | 4 => .int
  | _ => .int
def zT6 : u_T := fun k => match k with
  | 0 => ("WarmWall$Tape", "bytes", "[I", true)
  | _ => ("WarmWall$Tape", "length", "I", false)
def zy6 : Nat → FieldType := fun k => match k with
  | 0 => .array .int
  | _ => .int
def zT7 : u_T := fun k => match k with
  | 0 => ("WarmWall$Touches", "cells", "[I", true)
  | 1 => ("WarmWall$Touches", "hours", "[I", true)
  | 2 => ("WarmWall$Touches", "warmths", "[I", true)
  | _ => ("WarmWall$Touches", "told", "I", false)
def zy7 : Nat → FieldType := fun k => match k with
  | 0 => .array .int
  | 1 => .array .int
  | 2 => .array .int
  | _ => .int
def zT8 : u_T := fun k => match k with
  | 0 => ("WarmWall$Wall", "stones", "LWarmWall$Kind;", true)
  | 1 => ("WarmWall$Wall", "ovens", "LWarmWall$Kind;", true)
  | 2 => ("WarmWall$Wall", "sleepers", "LWarmWall$Kind;", true)
  | 3 => ("WarmWall$Wall", "letters", "[I", true)
  | 4 => ("WarmWall$Wall", "lengths", "[I", true)
  | 5 => ("WarmWall$Wall", "rowOf", "[I", true)
  | 6 => ("WarmWall$Wall", "columnOf", "[I", true)
  | 7 => ("WarmWall$Wall", "sortOf", "[I", true)
  | 8 => ("WarmWall$Wall", "beside", "[I", true)
  | 9 => ("WarmWall$Wall", "rows", "I", false)
  | 10 => ("WarmWall$Wall", "columns", "I", false)
  | _ => ("WarmWall$Wall", "cells", "I", false)
def zy8 : Nat → FieldType := fun k => match k with
  | 0 => .object "WarmWall$Kind"
  | 1 => .object "WarmWall$Kind"
  | 2 => .object "WarmWall$Kind"
  | 3 => .array .int
  | 4 => .array .int
  | 5 => .array .int
  | 6 => .array .int
  | 7 => .array .int
  | 8 => .array .int
  | 9 => .int
  | 10 => .int
  | _ => .int
def zT9 : u_T := fun k => match k with
  | 0 => ("WarmWall$Reader", "tape", "LWarmWall$Tape;", true)
  | _ => ("WarmWall$Reader", "place", "I", false)
def zy9 : Nat → FieldType := fun k => match k with
  | 0 => .object "WarmWall$Tape"
  | _ => .int
def zT10 : u_T := fun k => match k with
  | 0 => ("WarmWall", "tape", "LWarmWall$Tape;", true)
  | 1 => ("WarmWall", "wallReader", "LWarmWall$WallReader;", true)
  | 2 => ("WarmWall", "lawReader", "LWarmWall$LawReader;", true)
  | 3 => ("WarmWall", "sky", "LWarmWall$Sky;", true)
  | 4 => ("WarmWall", "now", "LWarmWall$Course;", true)
  | 5 => ("WarmWall", "apart", "LWarmWall$Course;", true)
  | 6 => ("WarmWall", "past", "LWarmWall$Past;", true)
  | 7 => ("WarmWall", "touches", "LWarmWall$Touches;", true)
  | 8 => ("WarmWall", "trials", "[I", true)
  | 9 => ("WarmWall", "mornings", "[I", true)
  | 10 => ("WarmWall", "wall", "LWarmWall$Wall;", false)
  | _ => ("WarmWall", "draft", "LWarmWall$Wall;", false)
def zy10 : Nat → FieldType := fun k => match k with
  | 0 => .object "WarmWall$Tape"
  | 1 => .object "WarmWall$WallReader"
  | 2 => .object "WarmWall$LawReader"
  | 3 => .object "WarmWall$Sky"
  | 4 => .object "WarmWall$Course"
  | 5 => .object "WarmWall$Course"
  | 6 => .object "WarmWall$Past"
  | 7 => .object "WarmWall$Touches"
  | 8 => .array .int
  | 9 => .array .int
  | 10 => .object "WarmWall$Wall"
  | _ => .object "WarmWall$Wall"
def zT11 : u_T := fun k => match k with
  | 0 => ("WarmWallModel", "thrown", "I", false)
  | 1 => ("WarmWallModel", "tape", "[I", true)
  | 2 => ("WarmWallModel", "size", "I", false)
  | 3 => ("WarmWallModel", "at", "I", false)
  | 4 => ("WarmWallModel", "wrong", "I", false)
  | 5 => ("WarmWallModel", "deep", "I", false)
  | 6 => ("WarmWallModel", "code", "[I", true)
  | 7 => ("WarmWallModel", "value", "[I", true)
  | 8 => ("WarmWallModel", "codes", "[I", true)
  | 9 => ("WarmWallModel", "clauses", "[I", true)
  | 10 => ("WarmWallModel", "testFrom", "[I", true)
  | 11 => ("WarmWallModel", "sumFrom", "[I", true)
  | 12 => ("WarmWallModel", "sumTo", "[I", true)
  | 13 => ("WarmWallModel", "laws", "I", false)
  | 14 => ("WarmWallModel", "text", "I", false)
  | 15 => ("WarmWallModel", "letters", "[I", true)
  | 16 => ("WarmWallModel", "stack", "[I", true)
  | 17 => ("WarmWallModel", "readSort", "[I", true)
  | 18 => ("WarmWallModel", "readOven", "[I", true)
  | 19 => ("WarmWallModel", "readSleeper", "[I", true)
  | 20 => ("WarmWallModel", "readCell", "[I", true)
  | 21 => ("WarmWallModel", "readWide", "[I", true)
  | 22 => ("WarmWallModel", "readSorts", "I", false)
  | 23 => ("WarmWallModel", "readRows", "I", false)
  | 24 => ("WarmWallModel", "readOvens", "I", false)
  | 25 => ("WarmWallModel", "readSleepers", "I", false)
  | 26 => ("WarmWallModel", "sortRow", "[I", true)
  | 27 => ("WarmWallModel", "ovenRow", "[I", true)
  | 28 => ("WarmWallModel", "sleeperRow", "[I", true)
  | 29 => ("WarmWallModel", "stones", "[I", true)
  | 30 => ("WarmWallModel", "sorts", "I", false)
  | 31 => ("WarmWallModel", "rows", "I", false)
  | 32 => ("WarmWallModel", "wide", "I", false)
  | 33 => ("WarmWallModel", "ovens", "I", false)
  | 34 => ("WarmWallModel", "sleepers", "I", false)
  | 35 => ("WarmWallModel", "warmth", "[I", true)
  | 36 => ("WarmWallModel", "hour", "I", false)
  | 37 => ("WarmWallModel", "rains", "I", false)
  | 38 => ("WarmWallModel", "holding", "I", false)
  | 39 => ("WarmWallModel", "cold", "I", false)
  | 40 => ("WarmWallModel", "shares", "[I", true)
  | 41 => ("WarmWallModel", "then", "[I", true)
  | 42 => ("WarmWallModel", "felt", "[I", true)
  | 43 => ("WarmWallModel", "aside", "[I", true)
  | 44 => ("WarmWallModel", "asideHour", "I", false)
  | 45 => ("WarmWallModel", "kept", "[I", true)
  | 46 => ("WarmWallModel", "acts", "I", false)
  | 47 => ("WarmWallModel", "night", "[I", true)
  | 48 => ("WarmWallModel", "taken", "[Z", true)
  | 49 => ("WarmWallModel", "stoneWas", "I", false)
  | 50 => ("WarmWallModel", "warmthWas", "I", false)
  | 51 => ("WarmWallModel", "stonesWere", "[I", true)
  | 52 => ("WarmWallModel", "warmthWere", "[I", true)
  | 53 => ("WarmWallModel", "touchCell", "[I", true)
  | 54 => ("WarmWallModel", "touchAt", "[I", true)
  | 55 => ("WarmWallModel", "touchValue", "[I", true)
  | 56 => ("WarmWallModel", "touches", "I", false)
  | 57 => ("WarmWallModel", "tries", "[I", true)
  | 58 => ("WarmWallModel", "given", "[I", true)
  | 59 => ("WarmWallModel", "days", "[I", true)
  | 60 => ("WarmWallModel", "imageWarmth", "[I", true)
  | 61 => ("WarmWallModel", "imageHour", "I", false)
  | _ => ("WarmWallModel", "hasImage", "Z", false)
def zy11 : Nat → FieldType := fun k => match k with
  | 0 => .int
  | 1 => .array .int
  | 2 => .int
  | 3 => .int
  | 4 => .int
  | 5 => .int
  | 6 => .array .int
  | 7 => .array .int
  | 8 => .array .int
  | 9 => .array .int
  | 10 => .array .int
  | 11 => .array .int
  | 12 => .array .int
  | 13 => .int
  | 14 => .int
  | 15 => .array .int
  | 16 => .array .int
  | 17 => .array .int
  | 18 => .array .int
  | 19 => .array .int
  | 20 => .array .int
  | 21 => .array .int
  | 22 => .int
  | 23 => .int
  | 24 => .int
  | 25 => .int
  | 26 => .array .int
  | 27 => .array .int
  | 28 => .array .int
  | 29 => .array .int
  | 30 => .int
  | 31 => .int
  | 32 => .int
  | 33 => .int
  | 34 => .int
  | 35 => .array .int
  | 36 => .int
  | 37 => .int
  | 38 => .int
  | 39 => .int
  | 40 => .array .int
  | 41 => .array .int
  | 42 => .array .int
  | 43 => .array .int
  | 44 => .int
  | 45 => .array .int
  | 46 => .int
  | 47 => .array .int
  | 48 => .array .boolean
  | 49 => .int
  | 50 => .int
  | 51 => .array .int
  | 52 => .array .int
  | 53 => .array .int
  | 54 => .array .int
  | 55 => .array .int
  | 56 => .int
  | 57 => .array .int
  | 58 => .array .int
  | 59 => .array .int
  | 60 => .array .int
  | 61 => .int
  | _ => .boolean
/-- the classes whose objects the worlds hold -/
def zcl : List vw_C := [("WarmWall$Course", zT0, 9), ("WarmWall$Kind", zT1, 7), ("WarmWall$Law", zT2, 4), ("WarmWall$LawReader", zT3, 2), ("WarmWall$Past", zT4, 6), ("WarmWall$Sky", zT5, 6), ("WarmWall$Tape", zT6, 2), ("WarmWall$Touches", zT7, 4), ("WarmWall$Wall", zT8, 12), ("WarmWall$WallReader", zT9, 2), ("WarmWall", zT10, 12), ("WarmWallModel", zT11, 63)]
/-- the words that a method may use -/
def zws : List Cond := lw_tbl.filter goodWord
theorem zin0 : ∀ w ∈ u_ws "WarmWall$Course" zT0 9, w ∈ zws := fun w hw => List.mem_filter.mpr ((show ∀ w ∈ u_ws "WarmWall$Course" zT0 9, w ∈ lw_tbl ∧ goodWord w = true by decide +kernel) w hw)
theorem zty0 : ∀ k, k < 9 → parseFieldDescriptor (zT0 k).2.2.1 = some (zy0 k) := by decide +kernel
theorem znm0 : ∀ a, a < 9 → ∀ b, b < 9 → a ≠ b → (zT0 a).2.1 ≠ (zT0 b).2.1 := by decide +kernel
theorem zin1 : ∀ w ∈ u_ws "WarmWall$Kind" zT1 7, w ∈ zws := fun w hw => List.mem_filter.mpr ((show ∀ w ∈ u_ws "WarmWall$Kind" zT1 7, w ∈ lw_tbl ∧ goodWord w = true by decide +kernel) w hw)
theorem zty1 : ∀ k, k < 7 → parseFieldDescriptor (zT1 k).2.2.1 = some (zy1 k) := by decide +kernel
theorem znm1 : ∀ a, a < 7 → ∀ b, b < 7 → a ≠ b → (zT1 a).2.1 ≠ (zT1 b).2.1 := by decide +kernel
theorem zin2 : ∀ w ∈ u_ws "WarmWall$Law" zT2 4, w ∈ zws := fun w hw => List.mem_filter.mpr ((show ∀ w ∈ u_ws "WarmWall$Law" zT2 4, w ∈ lw_tbl ∧ goodWord w = true by decide +kernel) w hw)
theorem zty2 : ∀ k, k < 4 → parseFieldDescriptor (zT2 k).2.2.1 = some (zy2 k) := by decide +kernel
theorem znm2 : ∀ a, a < 4 → ∀ b, b < 4 → a ≠ b → (zT2 a).2.1 ≠ (zT2 b).2.1 := by decide +kernel
theorem zin3 : ∀ w ∈ u_ws "WarmWall$LawReader" zT3 2, w ∈ zws := fun w hw => List.mem_filter.mpr ((show ∀ w ∈ u_ws "WarmWall$LawReader" zT3 2, w ∈ lw_tbl ∧ goodWord w = true by decide +kernel) w hw)
theorem zty3 : ∀ k, k < 2 → parseFieldDescriptor (zT3 k).2.2.1 = some (zy3 k) := by decide +kernel
theorem znm3 : ∀ a, a < 2 → ∀ b, b < 2 → a ≠ b → (zT3 a).2.1 ≠ (zT3 b).2.1 := by decide +kernel
theorem zin4 : ∀ w ∈ u_ws "WarmWall$Past" zT4 6, w ∈ zws := fun w hw => List.mem_filter.mpr ((show ∀ w ∈ u_ws "WarmWall$Past" zT4 6, w ∈ lw_tbl ∧ goodWord w = true by decide +kernel) w hw)
theorem zty4 : ∀ k, k < 6 → parseFieldDescriptor (zT4 k).2.2.1 = some (zy4 k) := by decide +kernel
theorem znm4 : ∀ a, a < 6 → ∀ b, b < 6 → a ≠ b → (zT4 a).2.1 ≠ (zT4 b).2.1 := by decide +kernel
theorem zin5 : ∀ w ∈ u_ws "WarmWall$Sky" zT5 6, w ∈ zws := fun w hw => List.mem_filter.mpr ((show ∀ w ∈ u_ws "WarmWall$Sky" zT5 6, w ∈ lw_tbl ∧ goodWord w = true by decide +kernel) w hw)
theorem zty5 : ∀ k, k < 6 → parseFieldDescriptor (zT5 k).2.2.1 = some (zy5 k) := by decide +kernel
theorem znm5 : ∀ a, a < 6 → ∀ b, b < 6 → a ≠ b → (zT5 a).2.1 ≠ (zT5 b).2.1 := by decide +kernel
theorem zin6 : ∀ w ∈ u_ws "WarmWall$Tape" zT6 2, w ∈ zws := fun w hw => List.mem_filter.mpr ((show ∀ w ∈ u_ws "WarmWall$Tape" zT6 2, w ∈ lw_tbl ∧ goodWord w = true by decide +kernel) w hw)
theorem zty6 : ∀ k, k < 2 → parseFieldDescriptor (zT6 k).2.2.1 = some (zy6 k) := by decide +kernel
theorem znm6 : ∀ a, a < 2 → ∀ b, b < 2 → a ≠ b → (zT6 a).2.1 ≠ (zT6 b).2.1 := by decide +kernel
theorem zin7 : ∀ w ∈ u_ws "WarmWall$Touches" zT7 4, w ∈ zws := fun w hw => List.mem_filter.mpr ((show ∀ w ∈ u_ws "WarmWall$Touches" zT7 4, w ∈ lw_tbl ∧ goodWord w = true by decide +kernel) w hw)
theorem zty7 : ∀ k, k < 4 → parseFieldDescriptor (zT7 k).2.2.1 = some (zy7 k) := by decide +kernel
theorem znm7 : ∀ a, a < 4 → ∀ b, b < 4 → a ≠ b → (zT7 a).2.1 ≠ (zT7 b).2.1 := by decide +kernel
theorem zin8 : ∀ w ∈ u_ws "WarmWall$Wall" zT8 12, w ∈ zws := fun w hw => List.mem_filter.mpr ((show ∀ w ∈ u_ws "WarmWall$Wall" zT8 12, w ∈ lw_tbl ∧ goodWord w = true by decide +kernel) w hw)
theorem zty8 : ∀ k, k < 12 → parseFieldDescriptor (zT8 k).2.2.1 = some (zy8 k) := by decide +kernel
theorem znm8 : ∀ a, a < 12 → ∀ b, b < 12 → a ≠ b → (zT8 a).2.1 ≠ (zT8 b).2.1 := by decide +kernel
theorem zin9 : ∀ w ∈ u_ws "WarmWall$WallReader" zT9 2, w ∈ zws := fun w hw => List.mem_filter.mpr ((show ∀ w ∈ u_ws "WarmWall$WallReader" zT9 2, w ∈ lw_tbl ∧ goodWord w = true by decide +kernel) w hw)
theorem zty9 : ∀ k, k < 2 → parseFieldDescriptor (zT9 k).2.2.1 = some (zy9 k) := by decide +kernel
theorem znm9 : ∀ a, a < 2 → ∀ b, b < 2 → a ≠ b → (zT9 a).2.1 ≠ (zT9 b).2.1 := by decide +kernel
theorem zin10 : ∀ w ∈ u_ws "WarmWall" zT10 12, w ∈ zws := fun w hw => List.mem_filter.mpr ((show ∀ w ∈ u_ws "WarmWall" zT10 12, w ∈ lw_tbl ∧ goodWord w = true by decide +kernel) w hw)
theorem zty10 : ∀ k, k < 12 → parseFieldDescriptor (zT10 k).2.2.1 = some (zy10 k) := by decide +kernel
theorem znm10 : ∀ a, a < 12 → ∀ b, b < 12 → a ≠ b → (zT10 a).2.1 ≠ (zT10 b).2.1 := by decide +kernel
theorem zin11 : ∀ w ∈ u_ws "WarmWallModel" zT11 63, w ∈ zws := fun w hw => List.mem_filter.mpr ((show ∀ w ∈ u_ws "WarmWallModel" zT11 63, w ∈ lw_tbl ∧ goodWord w = true by decide +kernel) w hw)
theorem zty11 : ∀ k, k < 63 → parseFieldDescriptor (zT11 k).2.2.1 = some (zy11 k) := by decide +kernel
theorem znm11 : ∀ a, a < 63 → ∀ b, b < 63 → a ≠ b → (zT11 a).2.1 ≠ (zT11 b).2.1 := by decide +kernel
theorem zcl_ok : ∀ (ci : Nat) (r : vw_C), zcl[ci]? = some r → (∀ w ∈ u_ws r.1 r.2.1 r.2.2, w ∈ zws) ∧ (∃ ty : Nat → FieldType, ∀ k, k < r.2.2 → parseFieldDescriptor (r.2.1 k).2.2.1 = some (ty k)) ∧ (∀ a, a < r.2.2 → ∀ b, b < r.2.2 → a ≠ b → (r.2.1 a).2.1 ≠ (r.2.1 b).2.1) := by
  intro ci r h
  match ci, h with
  | 0, h => cases h; exact ⟨zin0, ⟨zy0, zty0⟩, znm0⟩
  | 1, h => cases h; exact ⟨zin1, ⟨zy1, zty1⟩, znm1⟩
  | 2, h => cases h; exact ⟨zin2, ⟨zy2, zty2⟩, znm2⟩
  | 3, h => cases h; exact ⟨zin3, ⟨zy3, zty3⟩, znm3⟩
  | 4, h => cases h; exact ⟨zin4, ⟨zy4, zty4⟩, znm4⟩
  | 5, h => cases h; exact ⟨zin5, ⟨zy5, zty5⟩, znm5⟩
  | 6, h => cases h; exact ⟨zin6, ⟨zy6, zty6⟩, znm6⟩
  | 7, h => cases h; exact ⟨zin7, ⟨zy7, zty7⟩, znm7⟩
  | 8, h => cases h; exact ⟨zin8, ⟨zy8, zty8⟩, znm8⟩
  | 9, h => cases h; exact ⟨zin9, ⟨zy9, zty9⟩, znm9⟩
  | 10, h => cases h; exact ⟨zin10, ⟨zy10, zty10⟩, znm10⟩
  | 11, h => cases h; exact ⟨zin11, ⟨zy11, zty11⟩, znm11⟩
  | k + 12, h => simp [zcl] at h
/-- of each cell, in the order in which they are made: what it is (a class by its place in zcl; 20 int[], 21 boolean[], 22 long[], 23 an array of laws), its length -/
def zTab : List (Nat × Nat) := [(10, 0), (6, 0), (20, 160), (9, 0), (3, 0), (5, 0), (23, 5), (20, 9216), (20, 4), (2, 0), (20, 160), (20, 161), (2, 0), (20, 160), (20, 161), (2, 0), (20, 160), (20, 161), (2, 0), (20, 160), (20, 161), (2, 0), (20, 160), (20, 161), (0, 0), (20, 24), (20, 24), (20, 24), (20, 3), (20, 3), (20, 24), (20, 24), (20, 24), (0, 0), (20, 24), (20, 24), (20, 24), (20, 3), (20, 3), (20, 24), (20, 24), (20, 24), (4, 0), (20, 1440), (20, 24), (7, 0), (20, 20), (20, 20), (20, 20), (20, 2400), (20, 504), (8, 0), (1, 0), (20, 12), (1, 0), (20, 15), (1, 0), (20, 10), (20, 24), (20, 4), (20, 24), (20, 24), (20, 24), (20, 96), (8, 0), (1, 0), (20, 12), (1, 0), (20, 15), (1, 0), (20, 10), (20, 24), (20, 4), (20, 24), (20, 24), (20, 24), (20, 96), (11, 0), (20, 160), (20, 1700), (20, 1700), (20, 5), (20, 5), (20, 450), (20, 450), (20, 450), (20, 5), (20, 80), (20, 12), (20, 15), (20, 10), (20, 36), (20, 4), (20, 12), (20, 15), (20, 10), (20, 36), (20, 36), (20, 36), (20, 36), (20, 36), (20, 36), (20, 2160), (20, 36), (21, 36), (20, 36), (20, 36), (20, 20), (20, 20), (20, 20), (20, 3600), (20, 36), (20, 756), (20, 36), (22, 1)]
/-- the static rows of Wall (-2 .. -10), by program -/
def zSTab : List (List Int) := [[0, 1, 0], [9, 99, 10], [3, 60, 3], [0, 0, 0, 0, 0], [3, 5, 23, 23, 20], [0, 0, 4, 7, 8], [0, 0], [99, 9], [5, 0]]
def zSNm : List String := ["STONE_LEAST", "STONE_MOST", "STONE_WITHOUT", "OVEN_LEAST", "OVEN_MOST", "OVEN_WITHOUT", "SLEEPER_LEAST", "SLEEPER_MOST", "SLEEPER_WITHOUT"]
/-- the three texts of letters (-11 .. -13) -/
def zLTab : List (List Int) := [[116, 104, 103], [114, 99, 102, 117, 104], [119, 102]]
/-- what a reference is to: 25 a static row, 26 a text, 27 the script, 28 a text's bytes (-31 .. -33) -/
def zCL (i : Int) : Nat := if 0 ≤ i then (zTab.getD i.toNat (99, 0)).1 else if i = -20 then 27 else if i ≤ -2 ∧ -10 ≤ i then 25 else if i ≤ -11 ∧ -13 ≤ i then 26 else if i ≤ -31 ∧ -33 ≤ i then 28 else 98
def zLN (i : Int) : Int := if 0 ≤ i then ((zTab.getD i.toNat (99, 0)).2 : Int) else if i ≤ -2 ∧ -10 ≤ i then ((zSTab.getD (-2 - i).toNat []).length : Int) else if i ≤ -31 ∧ -33 ≤ i then ((zLTab.getD (-31 - i).toNat []).length : Int) else 0
def zSA (i j : Int) : Int := (zSTab.getD (-2 - i).toNat []).getD j.toNat 0
def zLA (i j : Int) : Int := (zLTab.getD (-31 - i).toNat []).getD j.toNat 0
def zNF (c : Nat) : Nat := [9, 7, 4, 2, 6, 6, 2, 4, 12, 2, 12, 63].getD c 0
/-- tags of fields (0 a number, 2 a reference), by class and place -/
def zFTt : List (List Nat) := [[2, 2, 2, 2, 2, 2, 2, 2, 0], [0, 2, 2, 2, 2, 2, 0], [2, 2, 0, 0], [2, 0], [2, 2, 0, 0, 0, 0], [2, 2, 2, 0, 0, 0], [2, 0], [2, 2, 2, 0], [2, 2, 2, 2, 2, 2, 2, 2, 2, 0, 0, 0], [2, 0], [2, 2, 2, 2, 2, 2, 2, 2, 2, 2, 2, 2], [0, 2, 0, 0, 0, 0, 2, 2, 2, 2, 2, 2, 2, 0, 0, 2, 2, 2, 2, 2, 2, 2, 0, 0, 0, 0, 2, 2, 2, 2, 0, 0, 0, 0, 0, 2, 0, 0, 0, 0, 2, 2, 2, 2, 0, 2, 0, 2, 2, 0, 0, 2, 2, 2, 2, 2, 0, 2, 2, 2, 2, 0, 0]]
def zFT (c k : Nat) : Nat := (zFTt.getD c []).getD k 0
/-- final fields: 0 not final, 1 final: the value is the object's own number and an offset, 2 final: by a table of the kinds -/
def zFnt : List (List (Nat × Int)) := [[(1, 1), (1, 2), (1, 3), (1, 4), (1, 5), (1, 6), (1, 7), (1, 8), (0, 0)], [(2, 0), (2, 0), (2, 0), (2, 0), (2, 0), (1, 1), (0, 0)], [(1, 1), (1, 2), (0, 0), (0, 0)], [(1, -3), (0, 0)], [(1, 1), (1, 2), (0, 0), (0, 0), (0, 0), (0, 0)], [(1, 1), (1, 2), (1, 3), (0, 0), (0, 0), (0, 0)], [(1, 1), (0, 0)], [(1, 1), (1, 2), (1, 3), (0, 0)], [(1, 1), (1, 3), (1, 5), (1, 7), (1, 8), (1, 9), (1, 10), (1, 11), (1, 12), (0, 0), (0, 0), (0, 0)], [(1, -2), (0, 0)], [(1, 1), (1, 3), (1, 4), (1, 5), (1, 24), (1, 33), (1, 42), (1, 45), (1, 49), (1, 50), (0, 0), (0, 0)], [(0, 0), (1, 1), (0, 0), (0, 0), (0, 0), (0, 0), (1, 2), (1, 3), (1, 4), (1, 5), (1, 6), (1, 7), (1, 8), (0, 0), (0, 0), (1, 9), (1, 10), (1, 11), (1, 12), (1, 13), (1, 14), (1, 15), (0, 0), (0, 0), (0, 0), (0, 0), (1, 16), (1, 17), (1, 18), (1, 19), (0, 0), (0, 0), (0, 0), (0, 0), (0, 0), (1, 20), (0, 0), (0, 0), (0, 0), (0, 0), (1, 21), (1, 22), (1, 23), (1, 24), (0, 0), (1, 25), (0, 0), (1, 26), (1, 27), (0, 0), (0, 0), (1, 28), (1, 29), (1, 30), (1, 31), (1, 32), (0, 0), (1, 33), (1, 34), (1, 35), (1, 36), (0, 0), (0, 0)]]
def zFn (c k : Nat) : Nat × Int := (zFnt.getD c []).getD k (0, 0)
/-- a kind's own final fields: limit, letters, least, most, without -/
def zKd (o : Int) : Int := if o = 52 ∨ o = 65 then 0 else if o = 54 ∨ o = 67 then 1 else 2
def zKT (k : Nat) (o : Int) : Int := match k with
  | 0 => if zKd o = 0 then 4 else if zKd o = 1 then 3 else 5
  | 1 => -11 - zKd o
  | 2 => -2 - 3 * zKd o
  | 3 => -3 - 3 * zKd o
  | _ => -4 - 3 * zKd o
/-- what a final field holds, once its object is made -/
def zFK (i : Int) (k : Nat) : Int := if (zFn (zCL i) k).1 = 2 then zKT k i else i + (zFn (zCL i) k).2
/-- slots of the first n cells -/
def zSZ (n : Nat) : Nat := ((zTab.take n).map (fun q => if q.1 < 20 then zNF q.1 else q.2)).sum
end
section
/-! THE ABSTRACT MACHINE: whole numbers for values and cell numbers for references; a place in a method's code goes to a goal without any machine in it. -/
/-- a value: 0 a number, 1 a long, 2 a reference (a cell's number; below 0 what was there before), 3 nothing known, 5 an address as it is (0 null) -/
abbrev zV : Type := Nat × Int
abbrev zH : Type := Int → Int → Int
abbrev zG : Type := va_G × (Nat → ClassId) × Nat × (Int → Nat) × (Int → Int) × Int × Int
def zgD (G : zG) : va_G := G.1
def zgT (G : zG) : Nat → ClassId := G.2.1
def zgB (G : zG) : Nat := G.2.2.1
def zgA (G : zG) : Int → Nat := G.2.2.2.1
def zgS (G : zG) : Int → Int := G.2.2.2.2.1
def zgL (G : zG) : Int := G.2.2.2.2.2.1
def zgF (G : zG) : Int := G.2.2.2.2.2.2
/-- a method's head: its class, name, code, locals, type, arguments beside the receiver, tag of the answer (3 none), cells and slots that it makes, whether it is a constructor -/
abbrev zHdr : Type := String × MethodName × ByteArray × Nat × Option FieldType × Nat × Nat × Nat × Nat × Bool
def hO (h : zHdr) : String := h.1
def hY (h : zHdr) : MethodName := h.2.1
def hB (h : zHdr) : ByteArray := h.2.2.1
def hL (h : zHdr) : Nat := h.2.2.2.1
def hR (h : zHdr) : Option FieldType := h.2.2.2.2.1
def hN (h : zHdr) : Nat := h.2.2.2.2.2.1
def hT (h : zHdr) : Nat := h.2.2.2.2.2.2.1
def hMc (h : zHdr) : Nat := h.2.2.2.2.2.2.2.1
def hMs (h : zHdr) : Nat := h.2.2.2.2.2.2.2.2.1
def hK (h : zHdr) : Bool := h.2.2.2.2.2.2.2.2.2
/-- what an instruction means beyond its bytes: a number, three small ones, places (targets, or words of the tables), the method that is called -/
abbrev zRs : Type := Int × Nat × Nat × Nat × List Nat × zHdr
def rK (r : zRs) : Int := r.1
def rA (r : zRs) : Nat := r.2.1
def rB (r : zRs) : Nat := r.2.2.1
def rC (r : zRs) : Nat := r.2.2.2.1
def rW (r : zRs) : List Nat := r.2.2.2.2.1
def rH (r : zRs) : zHdr := r.2.2.2.2.2
/-- an instruction: its place, its pc, which locals live if it is a cut point, what it is, its length, what it means -/
abbrev zIns : Type := Nat × Nat × Option (List Bool) × Instr × Nat × zRs
def iP (e : zIns) : Nat := e.1
def iPc (e : zIns) : Nat := e.2.1
def iCut (e : zIns) : Option (List Bool) := e.2.2.1
def iI (e : zIns) : Instr := e.2.2.2.1
def iLen (e : zIns) : Nat := e.2.2.2.2.1
def iR (e : zIns) : zRs := e.2.2.2.2.2
def zh0 : zHdr := ("", ⟨"", "", ""⟩, ⟨#[]⟩, 0, none, 0, 0, 0, 0, false)
def zr0 : zRs := (0, 0, 0, 0, [], zh0)
def zrT (t : Nat) : zRs := (0, t, 0, 0, [], zh0)
def zrF (a b c : Nat) (w : List Nat) : zRs := (0, a, b, c, w, zh0)
def zrK (k : Int) (a b c : Nat) (w : List Nat) : zRs := (k, a, b, c, w, zh0)
def zrM (kind cls : Nat) (w : List Nat) (h : zHdr) : zRs := (0, kind, cls, 0, w, h)
-- ranges
def zI (x : Int) : Prop := -2147483648 ≤ x ∧ x ≤ 2147483647
def zLg (x : Int) : Prop := -9223372036854775808 ≤ x ∧ x ≤ 9223372036854775807
-- to the machine
def zad (G : zG) (x : Int) : Nat := if x < 0 then zgA G x else zgB G + x.toNat
def zc (G : zG) (q : zV) : Value := match q.1 with
  | 0 => .int (Int32.ofInt q.2)
  | 1 => .long (Int64.ofInt q.2)
  | 5 => if q.2 = 0 then .null else .ref q.2.toNat
  | _ => if q.2 = -1000 then .null else .ref (zad G q.2)
/-- what a field holds: a final one, once all is made (md 1), what the table says -/
def zfv (md : Nat) (v : zH) (i : Int) (k : Nat) : Int := if md = 1 ∧ (zFn (zCL i) k).1 ≠ 0 then zFK i k else v i k
def zE (G : zG) (md : Nat) (v : zH) (i : Nat) : va_E :=
  if zCL i = 20 then .inl (zgT G 0, (zLN i).toNat, .inl (fun j => Int32.ofInt (v i j)))
  else if zCL i = 21 then .inl (zgT G 1, (zLN i).toNat, .inl (fun j => Int32.ofInt (v i j)))
  else if zCL i = 22 then .inl (zgT G 2, (zLN i).toNat, .inr (.inl (fun j => Int64.ofInt (v i j))))
  else if zCL i = 23 then .inl (zgT G 3, (zLN i).toNat, .inr (.inr (.inr (.inr (fun j => if v i j = -1000 then none else some (zad G (v i j)))))))
  else .inr (zCL i, (List.range (zNF (zCL i))).map (fun k => zc G (zFT (zCL i) k, zfv md v i k)))
def zW (G : zG) (md : Nat) (v : zH) (n : Nat) : va_W := (List.range n).map (fun i => (zgB G + i, zE G md v i))
def zTys (G : zG) : List (ClassId × FieldType) := [(zgT G 0, .int), (zgT G 1, .boolean), (zgT G 2, .long), (zgT G 3, .object "WarmWall$Law")]
def zTg (i : Int) (k : Nat) : Nat := if zCL i = 20 ∨ zCL i = 21 then 0 else if zCL i = 22 then 1 else if zCL i = 23 then 2 else zFT (zCL i) k
def zRg (n t : Nat) (x : Int) : Prop := match t with
  | 0 => zI x
  | 1 => zLg x
  | 2 => -40 ≤ x ∧ x < n
  | _ => True
def zRn (n t : Nat) (x : Int) : Prop := (t = 2 ∧ x = -1000) ∨ zRg n t x
def zOk (md : Nat) (v : zH) (n : Nat) : Prop := ∀ i : Nat, i < n → ∀ k : Nat, zRn n (zTg i k) (zfv md v i k)
/-- the heap holds the picture -/
def zP (G : zG) (md : Nat) (v : zH) (n : Nat) (H : Heap) : Prop := va_P (zgD G) zcl (zW G md v n) H ∧ zgB G + n ≤ H.size ∧ zOk md v n
def zKt (G : zG) (U : State) : Prop := va_K (zgD G) zcl (zTys G) U
def zA (G : zG) : Nat → Prop := fun q => zgB G ≤ q
/-- constructors of classes in the nest, by class file and place -/
def zNst : List (String × Nat × MethodName) := [("WarmWall", 9, ⟨"WarmWall$Tape", "<init>", "()V"⟩), ("WarmWall$Sky", 28, ⟨"WarmWall$Law", "<init>", "()V"⟩), ("WarmWall", 41, ⟨"WarmWall$Course", "<init>", "()V"⟩), ("WarmWall", 51, ⟨"WarmWall$Past", "<init>", "()V"⟩), ("WarmWall", 58, ⟨"WarmWall$Touches", "<init>", "()V"⟩), ("WarmWall", 72, ⟨"WarmWall$Wall", "<init>", "()V"⟩)]
/-- what was there before, and stays: Wall's static rows, the three texts, the script, two statics of the JDK's -/
def zSt (G : zG) (U : State) (H : Heap) : Prop :=
  (∀ k : Nat, k < 9 → va_T .int (zgA G (-2 - (k : Int))) (zSTab.getD k []).length (fun j => .int (Int32.ofInt (zSA (-2 - (k : Int)) j))) (zA G) U H) ∧
  (∀ k : Nat, k < 9 → va_Z "WarmWall$Wall" (zSNm.getD k "") "[I" (.ref (zgA G (-2 - (k : Int)))) (zA G) U H) ∧
  (va_T .int (zgA G (-20)) (zgL G).toNat (fun j => .int (Int32.ofInt (zgS G j))) (zA G) U H ∧ 0 ≤ zgL G ∧ zgL G ≤ 3072 ∧ ∀ j : Nat, zI (zgS G j)) ∧
  (∀ k : Nat, k < 3 → va_O "java/lang/String" (zgA G (-11 - (k : Int))) (zA G) U H ∧ va_OF "java/lang/String" "coder" "B" (.int 0) (zgA G (-11 - (k : Int))) (zA G) U H ∧ va_OF "java/lang/String" "value" "[B" (.ref (zgA G (-31 - (k : Int)))) (zgA G (-11 - (k : Int))) (zA G) U H ∧ va_T .byte (zgA G (-31 - (k : Int))) (zLTab.getD k []).length (fun j => .int (Int32.ofInt (zLA (-31 - (k : Int)) j))) (zA G) U H) ∧
  (vk_R "WarmWall$Wall" 11 "thg" (zgA G (-11)) U ∧ vk_R "WarmWall$Wall" 32 "rcfuh" (zgA G (-12)) U ∧ vk_R "WarmWall$Wall" 46 "wf" (zgA G (-13)) U) ∧
  va_Z "java/lang/String" "COMPACT_STRINGS" "Z" (.int 1) (zA G) U H ∧
  va_Z "jdk/internal/util/Preconditions" "SIOOBE_FORMATTER" "Ljava/util/function/BiFunction;" (zc G (5, zgF G)) (zA G) U H ∧
  va_AO "WarmWall$Law" U ∧ ∀ q ∈ zNst, va_Nw (.methodLinkNest q.1 q.2.1 q.2.2 "WarmWall") U
def zStk (n : Nat) (st : List zV) : Prop := ∀ q ∈ st, zRg n q.1 q.2 ∧ q.1 ≠ 3
def zLs (G : zG) (n : Nat) (ls : Array Slot) (nL : Nat) (L : List zV) : Prop := ls.size = nL ∧ lv_wf ls ∧ ∀ (i : Nat) (t : Nat) (x : Int), L[i]? = some (t, x) → t ≠ 3 → ls[i]? = some (.val (zc G (t, x))) ∧ zRg n t x
-- contracts
def zWs (h : zHdr) : List Cond := Cond.code (hY h) (hB h) (hL h) (hR h) :: zws
def zPc (G : zG) (md : Nat) (As : List zV) (v : zH) (n : Nat) : Array Value → State → Prop := va_Pc (As.map (zc G)) (fun U => zP G md v n U.heap ∧ zKt G U ∧ zSt G U U.heap ∧ zStk n As ∧ (md = 0 → U.heap.size = zgB G + n))
def zRet (G : zG) (t : Nat) (r : Int) : Option Value := match t with
  | 3 => none
  | 4 => some (.int (Int32.ofInt r))
  | t => some (zc G (t, r))
def zRr (n t : Nat) (r : Int) : Prop := match t with
  | 3 => True
  | 4 => zI r
  | t => zRg n t r
def zQc (G : zG) (md : Nat) (h : zHdr) (n : Nat) (Q : Int → zH → Prop) : Array Value → State → Outcome → State → Prop := fun _ st oc t =>
  (∃ (r : Int) (v : zH), oc = .returned (zRet G (hT h) r) ∧ Q r v ∧ zP G md v (n + hMc h) t.heap ∧ zRr (n + hMc h) (hT h) r) ∧ va_F (zA G) st t
/-- a method's contract at depth d -/
def zC (l : Launch) (G : zG) (md d : Nat) (h : zHdr) (As : List zV) (v : zH) (n : Nat) (Q : Int → zH → Prop) : Prop :=
  Met l (hY h) (zWs h) { frames := d, cells := hMc h, slots := hMs h, locals := 60 * d } (zPc G md As v n) (zQc G md h n Q) (hMc h) (hMs h) (zA G)
-- one instruction
abbrev zGo : Type := List zIns → List zV → List zV → zH → Nat → Prop
def zmsk : List Bool → List zV → List zV
  | true :: m, q :: L => q :: zmsk m L
  | false :: m, _ :: L => (3, 0) :: zmsk m L
  | _, L => L.map (fun _ => (3, 0))
def zcut (K : Nat → List zV → List zV → zH → Nat → Prop) (f : zGo) : zGo := fun cs L st v n => match cs with
  | [] => False
  | (p, pc, cut, ins) :: cs' => match cut with
    | some m => K p (zmsk m L) st v n
    | none => f ((p, pc, none, ins) :: cs') L st v n
def zupd (v : zH) (a j x : Int) : zH := fun a' j' => if a' = a ∧ j' = j then x else v a' j'
def zcp (v : zH) (a sp b dp n : Int) : zH := fun a' j => if a' = b ∧ dp ≤ j ∧ j < dp + n then v a (sp + (j - dp)) else v a' j
def zborn (v : zH) (n : Nat) : zH := fun a j => if a = n then (if zTg a j.toNat = 2 then -1000 else 0) else v a j
def zpl (L : List zV) (i : Nat) : Bool := match i with
  | 0 => false
  | j + 1 => match L[j]? with
    | some (1, _) => true
    | _ => false
def zget (L : List zV) (i t : Nat) (k : Int → Prop) : Prop := match L[i]? with
  | some (t', x) => match Nat.beq t' t with
    | true => k x
    | false => False
  | none => False
def zput (L : List zV) (i : Nat) (q : zV) (k : List zV → Prop) : Prop := match zpl L i with
  | true => False
  | false => match Nat.blt i L.length with
    | true => k (L.set i q)
    | false => False
def zput2 (L : List zV) (i : Nat) (q : zV) (k : List zV → Prop) : Prop := match zpl L i with
  | true => False
  | false => match Nat.blt (i + 1) L.length with
    | true => k ((L.set i q).set (i + 1) (3, 0))
    | false => False
def zand (x y : Int) : Int := (Int32.ofInt x &&& Int32.ofInt y).toInt
def zor (x y : Int) : Int := (Int32.ofInt x ||| Int32.ofInt y).toInt
def zxor (x y : Int) : Int := (Int32.ofInt x ^^^ Int32.ofInt y).toInt
def zshl (x y : Int) : Int := (Int32.ofInt x <<< (Int32.ofInt y &&& 31)).toInt
def zshr (x y : Int) : Int := (Int32.ofInt x >>> (Int32.ofInt y &&& 31)).toInt
def zushr (x y : Int) : Int := (((Int32.ofInt x).toUInt32 >>> ((Int32.ofInt y).toUInt32 &&& Int32.toUInt32 31)).toInt32).toInt
def zcmp (x y : Int) : Int := if x < y then -1 else if x = y then 0 else 1
/-- two numbers off the stack -/
def z2 (st : List zV) (k : Int → Int → List zV → Prop) : Prop := match st with
  | (0, y) :: (0, x) :: r => k x y r
  | _ => False
def z2l (st : List zV) (k : Int → Int → List zV → Prop) : Prop := match st with
  | (1, y) :: (1, x) :: r => k x y r
  | _ => False
def z1 (st : List zV) (k : Int → List zV → Prop) : Prop := match st with
  | (0, x) :: r => k x r
  | _ => False
def z1l (st : List zV) (k : Int → List zV → Prop) : Prop := match st with
  | (1, x) :: r => k x r
  | _ => False
def z1r (st : List zV) (k : Int → List zV → Prop) : Prop := match st with
  | (2, x) :: r => k x r
  | _ => False
/-- a row's place: number over reference -/
def zix (st : List zV) (k : Int → Int → List zV → Prop) : Prop := match st with
  | (0, j) :: (2, a) :: r => k a j r
  | _ => False
def zixv (t : Nat) (st : List zV) (k : Int → Int → Int → List zV → Prop) : Prop := match st with
  | (t', x) :: (0, j) :: (2, a) :: r => match Nat.beq t' t with
    | true => k a j x r
    | false => False
  | _ => False
def zcnd (c : Jvm.ClassFile.Cond) (x y : Int) (a b : Prop) : Prop := match c with
  | .eq => (x = y → a) ∧ (¬ x = y → b)
  | .ne => (¬ x = y → a) ∧ (x = y → b)
  | .lt => (x < y → a) ∧ (y ≤ x → b)
  | .ge => (y ≤ x → a) ∧ (x < y → b)
  | .gt => (y < x → a) ∧ (x ≤ y → b)
  | .le => (x ≤ y → a) ∧ (y < x → b)
def zsw (x : Int) (f : Nat → Prop) (d : Nat) : Int → List Nat → Prop
  | lo, [] => (lo ≤ x → f d)
  | lo, t :: ts => (x = lo → f t) ∧ zsw x f d (lo + 1) ts
def zlk (x : Int) (f : Nat → Prop) (d : Nat) : List (Int × Int) → List Nat → Prop
  | p :: ps, t :: ts => (x = p.1 → f t) ∧ (¬ x = p.1 → zlk x f d ps ts)
  | _, _ => f d
def zcats (st : List zV) : Nat := match st with
  | [] => 0
  | (1, _) :: r => 2 + zcats r
  | _ :: r => 1 + zcats r
def zpsh (t : Nat) (r : Int) (st : List zV) : List zV := match t with
  | 3 => st
  | 4 => (0, r) :: st
  | t => (t, r) :: st
def znr (t : Option FieldType) (x : Int) : Prop := match t with
  | some .boolean => x = 0 ∨ x = 1
  | some .char => 0 ≤ x ∧ x ≤ 65535
  | some .byte => -128 ≤ x ∧ x ≤ 127
  | some .short => -32768 ≤ x ∧ x ≤ 32767
  | _ => True
def zrecv (st : List zV) (k : Int → Prop) : Prop := match st with
  | (2, o) :: _ => k o
  | _ => False
def zdp (d : Nat) (k : Nat → Prop) : Prop := match d with
  | 0 => False
  | d + 1 => k d
/-- a call: na values off the stack -/
def zcall (l : Launch) (G : zG) (md d : Nat) (h : zHdr) (na : Nat) (st : List zV) (v : zH) (n : Nat) (k : List zV → zH → Nat → Prop) : Prop :=
  match Nat.ble (zcats (st.drop na)) 8 with
  | false => False
  | true => match Nat.beq (st.take na).length na with
    | false => False
    | true => zdp d fun d' => zC l G md d' h (st.take na).reverse v n (fun r v' => k (zpsh (hT h) r (st.drop na)) v' (n + hMc h))
/-- what a call's receiver must be: a class by its number, or a text -/
def zrc (c : Nat) (As : List zV) (k : Prop) : Prop := zrecv As fun o => zCL o = c ∧ k
end
section
/-! ONE INSTRUCTION, a goal for what comes behind it; the walk; what a place owes; what is checked of a method's table. -/
/-- division by a written number above 0 -/
def zpos (y : Int) (k : Prop) : Prop := match y with
  | .ofNat (_ + 1) => k
  | _ => False
def zrtn (t : Option FieldType) (x : Int) (k : Prop) : Prop := match t with
  | some .int => k
  | t => znr t x ∧ k
/-- a method's end: a constructor has made all its cells -/
def zend (h : zHdr) (n0 n : Nat) (k : Prop) : Prop := match hMc h with
  | 0 => k
  | _ + 1 => n = n0 + hMc h ∧ k
/-- a call of a member that the machine has a row for -/
def zprim (d : Nat) (r : List zV) (k : Prop) : Prop := zdp d fun _ => match Nat.ble (zcats r) 8 with
  | true => k
  | false => False
def zbudget (h : zHdr) (n0 n : Nat) (mc ms : Nat) : Prop := n + mc ≤ n0 + hMc h ∧ zSZ (n + mc) ≤ zSZ n0 + hMs h ∧ zSZ (n + mc) = zSZ n + ms
/-- a call: na values off the stack -/
def zcall1 (l : Launch) (G : zG) (md d : Nat) (h0 : zHdr) (n0 : Nat) (h : zHdr) (na : Nat) (st : List zV) (v : zH) (n : Nat) (k : List zV → zH → Nat → Prop) : Prop :=
  match hMc h with
  | 0 => zcall l G md d h na st v n k
  | _ + 1 => zbudget h0 n0 n (hMc h) (hMs h) ∧ zcall l G md d h na st v n k
def zgetf (G : zG) (md : Nat) (R : zRs) (v : zH) (o : Int) (k : Int → Nat → Prop) : Prop := match rC R with
  | 0 => zCL o = rA R ∧ k (v o (rB R)) 0
  | 1 => zCL o = rA R ∧ v o (rB R) ≠ -1000 ∧ k (v o (rB R)) 2
  | 2 => match md with
    | 1 => zCL o = rA R ∧ k (o + rK R) (zFT (rA R) (rB R))
    | _ => zCL o = rA R ∧ v o (rB R) ≠ -1000 ∧ k (v o (rB R)) (zFT (rA R) (rB R))
  | 3 => match md with
    | 1 => zCL o = rA R ∧ k (zKT (rB R) o) (zFT (rA R) (rB R))
    | _ => zCL o = rA R ∧ v o (rB R) ≠ -1000 ∧ k (v o (rB R)) (zFT (rA R) (rB R))
  | 5 => zCL o = 26 ∧ k (o - 20) 2
  | _ => zCL o = 26 ∧ k 0 0
def zpf (st : List zV) (k : Nat → Int → Int → List zV → Prop) : Prop := match st with
  | (t, x) :: (2, o) :: r => k t x o r
  | _ => False
def zputf (md : Nat) (R : zRs) (t : Nat) (x : Int) (k : Prop) : Prop := match Nat.beq t (zFT (rA R) (rB R)) with
  | false => False
  | true => match rC R with
    | 0 => k
    | 1 => (x = 0 ∨ x = 1) ∧ k
    | 2 => k
    | _ => match md with
      | 0 => k
      | _ => False
def znew (h : zHdr) (md n0 n : Nat) (c : Nat) (k : Prop) : Prop := match md with
  | 0 => zCL n = c ∧ n + 1 ≤ n0 + hMc h ∧ zSZ (n + 1) ≤ zSZ n0 + hMs h ∧ k
  | _ => False
def zstep (l : Launch) (G : zG) (md d : Nat) (h : zHdr) (code : List zIns) (n0 : Nat) (Q : Int → zH → Prop) (QX : Nat → zH → Prop) (go : zGo) (e : zIns) (cs : List zIns) (L st : List zV) (v : zH) (n : Nat) : Prop :=
  match iI e with
  | .iconst k => go cs L ((0, k) :: st) v n
  | .bipush k => go cs L ((0, k) :: st) v n
  | .sipush k => go cs L ((0, k) :: st) v n
  | .ldc _ => match rC (iR e) with
    | 0 => go cs L ((0, rK (iR e)) :: st) v n
    | _ => go cs L ((2, rK (iR e)) :: st) v n
  | .ldc_w _ => go cs L ((0, rK (iR e)) :: st) v n
  | .ldc2_w _ => go cs L ((1, rK (iR e)) :: st) v n
  | .lconst f => go cs L ((1, ((f : Nat) : Int)) :: st) v n
  | .iload i => zget L i 0 fun x => go cs L ((0, x) :: st) v n
  | .iload_n i => zget L i 0 fun x => go cs L ((0, x) :: st) v n
  | .lload i => zget L i 1 fun x => go cs L ((1, x) :: st) v n
  | .lload_n i => zget L i 1 fun x => go cs L ((1, x) :: st) v n
  | .aload i => zget L i 2 fun x => go cs L ((2, x) :: st) v n
  | .aload_n i => zget L i 2 fun x => go cs L ((2, x) :: st) v n
  | .istore i => z1 st fun x r => zput L i (0, x) fun L' => go cs L' r v n
  | .istore_n i => z1 st fun x r => zput L i (0, x) fun L' => go cs L' r v n
  | .astore i => z1r st fun x r => zput L i (2, x) fun L' => go cs L' r v n
  | .astore_n i => z1r st fun x r => zput L i (2, x) fun L' => go cs L' r v n
  | .lstore i => z1l st fun x r => zput2 L i (1, x) fun L' => go cs L' r v n
  | .lstore_n i => z1l st fun x r => zput2 L i (1, x) fun L' => go cs L' r v n
  | .iinc i k => zget L i 0 fun x => zI (x + k) ∧ zput L i (0, x + k) fun L' => go cs L' st v n
  | .iadd => z2 st fun x y r => zI (x + y) ∧ go cs L ((0, x + y) :: r) v n
  | .isub => z2 st fun x y r => zI (x - y) ∧ go cs L ((0, x - y) :: r) v n
  | .imul => z2 st fun x y r => zI (x * y) ∧ go cs L ((0, x * y) :: r) v n
  | .idiv => z2 st fun x y r => match rC (iR e) with
    | 1 => zpos y (go cs L ((0, x.tdiv y) :: r) v n)
    | _ => ¬ y = 0 ∧ zI (x.tdiv y) ∧ go cs L ((0, x.tdiv y) :: r) v n
  | .irem => z2 st fun x y r => match rC (iR e) with
    | 1 => zpos y (go cs L ((0, x.tmod y) :: r) v n)
    | _ => ¬ y = 0 ∧ zI (x.tdiv y) ∧ go cs L ((0, x.tmod y) :: r) v n
  | .ineg => z1 st fun x r => zI (-x) ∧ go cs L ((0, -x) :: r) v n
  | .iand => z2 st fun x y r => go cs L ((0, zand x y) :: r) v n
  | .ior => z2 st fun x y r => go cs L ((0, zor x y) :: r) v n
  | .ixor => z2 st fun x y r => go cs L ((0, zxor x y) :: r) v n
  | .ishl => z2 st fun x y r => go cs L ((0, zshl x y) :: r) v n
  | .ishr => z2 st fun x y r => go cs L ((0, zshr x y) :: r) v n
  | .iushr => z2 st fun x y r => go cs L ((0, zushr x y) :: r) v n
  | .i2c => z1 st fun x r => (0 ≤ x ∧ x ≤ 65535) ∧ go cs L ((0, x) :: r) v n
  | .i2l => z1 st fun x r => go cs L ((1, x) :: r) v n
  | .l2i => z1l st fun x r => zI x ∧ go cs L ((0, x) :: r) v n
  | .ladd => z2l st fun x y r => zLg (x + y) ∧ go cs L ((1, x + y) :: r) v n
  | .lsub => z2l st fun x y r => zLg (x - y) ∧ go cs L ((1, x - y) :: r) v n
  | .lmul => z2l st fun x y r => zLg (x * y) ∧ go cs L ((1, x * y) :: r) v n
  | .ldiv => z2l st fun x y r => ¬ y = 0 ∧ zLg (x.tdiv y) ∧ go cs L ((1, x.tdiv y) :: r) v n
  | .lcmp => z2l st fun x y r => go cs L ((0, zcmp x y) :: r) v n
  | .dup => match st with
    | (t, x) :: r => match t with
      | 1 => False
      | _ => go cs L ((t, x) :: (t, x) :: r) v n
    | _ => False
  | .dup2 => match st with
    | (0, x) :: (2, y) :: r => go cs L ((0, x) :: (2, y) :: (0, x) :: (2, y) :: r) v n
    | _ => False
  | .pop => match st with
    | (0, _) :: r => go cs L r v n
    | _ => False
  | .ifCond c _ => z1 st fun x r => zcnd c x 0 (go (code.drop (rA (iR e))) L r v n) (go cs L r v n)
  | .if_icmp c _ => z2 st fun x y r => zcnd c x y (go (code.drop (rA (iR e))) L r v n) (go cs L r v n)
  | .goto _ => go (code.drop (rA (iR e))) L st v n
  | .tableswitch _ lo _ _ => z1 st fun x r => (x < lo → go (code.drop (rA (iR e))) L r v n) ∧ zsw x (fun t => go (code.drop t) L r v n) (rA (iR e)) lo (rW (iR e))
  | .lookupswitch _ ps => z1 st fun x r => zlk x (fun t => go (code.drop t) L r v n) (rA (iR e)) ps.toList (rW (iR e))
  | .getfield _ => z1r st fun o r => zgetf G md (iR e) v o fun x t => go cs L ((t, x) :: r) v n
  | .putfield _ => zpf st fun t x o r => zCL o = rA (iR e) ∧ zputf md (iR e) t x (go cs L r (zupd v o (rB (iR e)) x) n)
  | .getstatic _ => match rC (iR e) with
    | 0 => go cs L ((2, rK (iR e)) :: st) v n
    | 1 => go cs L ((5, zgF G) :: st) v n
    | _ => go cs L ((0, rK (iR e)) :: st) v n
  | .iaload => zix st fun a j r => match rC (iR e) with
    | 0 => zCL a = 20 ∧ (0 ≤ j ∧ j < zLN a) ∧ go cs L ((0, v a j) :: r) v n
    | 1 => zCL a = 25 ∧ (0 ≤ j ∧ j < zLN a) ∧ go cs L ((0, zSA a j) :: r) v n
    | _ => a = -20 ∧ (0 ≤ j ∧ j < zgL G) ∧ go cs L ((0, zgS G j) :: r) v n
  | .baload => zix st fun a j r => match rC (iR e) with
    | 0 => zCL a = 21 ∧ (0 ≤ j ∧ j < zLN a) ∧ go cs L ((0, v a j) :: r) v n
    | _ => zCL a = 28 ∧ (0 ≤ j ∧ j < zLN a) ∧ go cs L ((0, zLA a j) :: r) v n
  | .laload => zix st fun a j r => zCL a = 22 ∧ (0 ≤ j ∧ j < zLN a) ∧ go cs L ((1, v a j) :: r) v n
  | .aaload => zix st fun a j r => zCL a = 23 ∧ (0 ≤ j ∧ j < zLN a) ∧ v a j ≠ -1000 ∧ go cs L ((2, v a j) :: r) v n
  | .iastore => zixv 0 st fun a j x r => zCL a = 20 ∧ (0 ≤ j ∧ j < zLN a) ∧ go cs L r (zupd v a j x) n
  | .bastore => zixv 0 st fun a j x r => zCL a = 21 ∧ (0 ≤ j ∧ j < zLN a) ∧ (x = 0 ∨ x = 1) ∧ go cs L r (zupd v a j x) n
  | .lastore => zixv 1 st fun a j x r => zCL a = 22 ∧ (0 ≤ j ∧ j < zLN a) ∧ go cs L r (zupd v a j x) n
  | .aastore => zixv 2 st fun a j x r => zCL a = 23 ∧ (0 ≤ j ∧ j < zLN a) ∧ zCL x = 2 ∧ go cs L r (zupd v a j x) n
  | .arraylength => z1r st fun a r => match rC (iR e) with
    | 0 => (zCL a = 20 ∨ zCL a = 21) ∧ go cs L ((0, zLN a) :: r) v n
    | 1 => zCL a = 25 ∧ go cs L ((0, zLN a) :: r) v n
    | 2 => zCL a = 28 ∧ go cs L ((0, zLN a) :: r) v n
    | 3 => zCL a = 23 ∧ go cs L ((0, zLN a) :: r) v n
    | _ => a = -20 ∧ go cs L ((0, zgL G) :: r) v n
  | .new _ => match rC (iR e) with
    | 9 => st = [] ∧ n = n0 ∧ QX (iPc e) v
    | _ => znew h md n0 n (rA (iR e)) (go cs L ((2, (n : Int)) :: st) (zborn v n) (n + 1))
  | .newarray _ => z1 st fun x r => znew h md n0 n (rA (iR e)) (x = zLN n ∧ go cs L ((2, (n : Int)) :: r) (zborn v n) (n + 1))
  | .anewarray _ => z1 st fun x r => znew h md n0 n 23 (x = zLN n ∧ go cs L ((2, (n : Int)) :: r) (zborn v n) (n + 1))
  | .invokestatic _ => match rA (iR e) with
    | 6 => False
    | 7 => match st with
      | (0, c) :: (0, dp) :: (2, b) :: (0, sp) :: (2, a) :: r => (zCL a = 20 ∧ zCL b = 20) ∧ (0 ≤ sp ∧ 0 ≤ dp ∧ 0 ≤ c ∧ sp + c ≤ zLN a ∧ dp + c ≤ zLN b) ∧ zdp d fun _ => match Nat.ble (zcats r) 8 with
        | true => go cs L r (zcp v a sp b dp c) n
        | false => False
      | _ => False
    | 10 => z2 st fun x y r => zprim d r (go cs L ((0, max x y) :: r) v n)
    | 11 => z2 st fun x y r => zprim d r (go cs L ((0, min x y) :: r) v n)
    | 12 => z1 st fun x r => zI (-x) ∧ zprim d r (go cs L ((0, (x.natAbs : Int)) :: r) v n)
    | 13 => z2l st fun x y r => zprim d r (go cs L ((1, max x y) :: r) v n)
    | 14 => z2l st fun x y r => zprim d r (go cs L ((1, min x y) :: r) v n)
    | _ => zcall1 l G md d h n0 (rH (iR e)) (hN (rH (iR e))) st v n fun r v' n' => go cs L r v' n'
  | .invokevirtual _ => zrc (rB (iR e)) (st.drop (hN (rH (iR e)))) (zcall1 l G md d h n0 (rH (iR e)) (hN (rH (iR e)) + 1) st v n fun r v' n' => go cs L r v' n')
  | .invokespecial _ => match rA (iR e) with
    | 5 => z1r st fun _ r => zdp d fun _ => match Nat.ble (zcats r) 8 with
      | true => go cs L r v n
      | false => False
    | _ => zrecv (st.drop (hN (rH (iR e)))) fun _ => zcall1 l G md d h n0 (rH (iR e)) (hN (rH (iR e)) + 1) st v n fun r v' n' => go cs L r v' n'
  | .ireturn => match st with
    | [(0, x)] => zrtn (hR h) x (Q x v)
    | _ => False
  | .lreturn => match st with
    | [(1, x)] => Q x v
    | _ => False
  | .areturn => match st with
    | [(2, x)] => Q x v
    | _ => False
  | .return_ => match st with
    | [] => zend h n0 n (Q 0 v)
    | _ => False
  | _ => False
def zx (l : Launch) (G : zG) (md d : Nat) (h : zHdr) (code : List zIns) (n0 : Nat) (Q : Int → zH → Prop) (QX : Nat → zH → Prop) (K : Nat → List zV → List zV → zH → Nat → Prop) : Nat → zGo
  | 0 => fun _ _ _ _ _ => False
  | f + 1 => fun cs L st v n => match cs with
    | [] => False
    | e :: cs' => zstep l G md d h code n0 Q QX (zcut K (zx l G md d h code n0 Q QX K f)) e cs' L st v n
def zRi (t : Nat) : Instr := match t with
  | 0 => .ireturn
  | 1 => .lreturn
  | 2 => .areturn
  | 4 => .ireturn
  | _ => .return_
def zHR (l : Launch) (G : zG) (md : Nat) (h : zHdr) (n0 : Nat) (Q : Int → zH → Prop) (p : Program) (e : Env) (R : Room) (s : State) (m : MethodId) (args : Array Value) (below : List Frame) (meth : Method) (c : Code) (QW : State → Prop) : Prop :=
  ∀ (H : Heap) (locs : List Loc) (ls : Array Slot) (pc n : Nat) (r : Int) (v : zH), Q r v → zP G md v n H → va_S (zA G) s.heap H locs → zRr n (hT h) r → n = n0 + hMc h → decode (hB h) pc = .ok (zRi (hT h), 1) → (hT h = 0 ∨ hT h = 4 → znr (hR h) r) → W p l e R s m args below meth c H locs (hMc h) (hMs h) QW (F0 m pc ls ((zpsh (hT h) r []).map (zc G)))
def zHX (l : Launch) (G : zG) (md : Nat) (h : zHdr) (n0 : Nat) (QX : Nat → zH → Prop) (p : Program) (e : Env) (R : Room) (s : State) (m : MethodId) (args : Array Value) (below : List Frame) (meth : Method) (c : Code) (QW : State → Prop) : Prop :=
  ∀ (H : Heap) (locs : List Loc) (ls : Array Slot) (pc : Nat) (v : zH), QX pc v → zP G md v n0 H → va_S (zA G) s.heap H locs → ls.size = hL h → W p l e R s m args below meth c H locs 0 0 QW (F0 m pc ls [])
def zCtx (l : Launch) (G : zG) (md d : Nat) (h : zHdr) (n0 : Nat) (Q : Int → zH → Prop) (QX : Nat → zH → Prop) (p : Program) (e : Env) (R : Room) (s : State) (m : MethodId) (args : Array Value) (below : List Frame) (meth : Method) (c : Code) (QW : State → Prop) : Prop :=
  (p.tables.exec = Jvm.exec ∧ c.code = hB h ∧ c.maxLocals = hL h ∧ s.vm.findClass (hO h) = some m.cls ∧ ∀ w ∈ zws, w.before args s = true) ∧ (zKt G s ∧ zSt G s s.heap ∧ zgB G ≤ s.heap.size ∧ (md = 0 → s.heap.size = zgB G + n0)) ∧ (d ≤ R.frames ∧ 60 * d ≤ R.locals ∧ hMc h ≤ R.cells ∧ hMs h ≤ R.slots) ∧ (hK h = true → meth.name = "<init>") ∧ zHR l G md h n0 Q p e R s m args below meth c QW ∧ zHX l G md h n0 QX p e R s m args below meth c QW
def zpc (code : List zIns) (p : Nat) : Nat := match code[p]? with
  | some e => iPc e
  | none => 0
/-- what a pc of a method owes: from there, on every machine, the method comes to its end, and Q holds of answer and cells -/
def zJp (l : Launch) (G : zG) (md d : Nat) (h : zHdr) (n0 : Nat) (Q : Int → zH → Prop) (QX : Nat → zH → Prop) (pc : Nat) (L st : List zV) (v : zH) (n : Nat) : Prop :=
  ∀ (p : Program) (e : Env) (R : Room) (s : State) (m : MethodId) (args : Array Value) (below : List Frame) (meth : Method) (c : Code) (QW : State → Prop), zCtx l G md d h n0 Q QX p e R s m args below meth c QW →
  ∀ (H : Heap) (locs : List Loc) (ls : Array Slot), zP G md v n H → va_S (zA G) s.heap H locs → zLs G n ls (hL h) L → zStk n st → n0 ≤ n → n ≤ n0 + hMc h → zSZ n ≤ zSZ n0 + hMs h →
  W p l e R s m args below meth c H locs (n - n0) (zSZ n - zSZ n0) QW (F0 m pc ls (st.map (zc G)))
/-- a place in a method's code -/
def zJ (l : Launch) (G : zG) (md d : Nat) (h : zHdr) (code : List zIns) (n0 : Nat) (Q : Int → zH → Prop) (QX : Nat → zH → Prop) (pos : Nat) (L st : List zV) (v : zH) (n : Nat) : Prop :=
  zJp l G md d h n0 Q QX (zpc code pos) L st v n
-- the checks
def zchunk (k : Nat) : List Jvm.Cond := match k with
  | 0 => k2_sels lw_privs
  | 1 => tables_1_1
  | 2 => tables_1_2
  | 3 => tables_1_3
  | 4 => tables_1_4
  | 5 => tables_1_5
  | 6 => tables_1_6
  | _ => tables_1_7
def zat (i : Nat) : Option Jvm.Cond := (zchunk (i / 1000))[i % 1000]?
def zwd (i : Nat) (w : Cond) : Bool := decide (zat i = some w) && goodWord w
def zcr (ci : Nat) : vw_C := zcl.getD ci ("", fun _ => ("", "", "", false), 0)
def zfld (own : String) (idx ci k : Nat) (ws : List Nat) : Bool := decide (ci < 12) && decide (k < (zcr ci).2.2) && (match ws with
  | i :: is => match zat i with
    | some (.fieldLink o j ref nm ds) => decide (o = own) && decide (j = idx) && decide (nm = ((zcr ci).2.1 k).2.1) && decide (ds = ((zcr ci).2.1 k).2.2.1) && goodWord (.fieldLink o j ref nm ds) && (decide (ref = ((zcr ci).2.1 k).1) || (match is with
      | i2 :: _ => zwd i2 (.sameField ref ((zcr ci).2.1 k).1 nm ds)
      | [] => false))
    | _ => false
  | [] => false)
/-- a field's kind: 0 a number, 4 a truth, 2 a reference -/
def zfk (ci k : Nat) : Nat := match parseFieldDescriptor ((zcr ci).2.1 k).2.2.1 with
  | some .int => 0
  | some .boolean => 4
  | some (.object _) => 2
  | some (.array _) => 2
  | _ => 9
def zfin (ci k : Nat) : Bool := ((zcr ci).2.1 k).2.2.2
def zmok (hc : zHdr) : Bool := decide ((hY hc).cls ≠ "java/lang/invoke/MethodHandle") && decide ((hY hc).cls ≠ "java/lang/invoke/VarHandle") && decide ((parseMethodDescriptor (hY hc).desc).map (fun d => d.parameters.length) = some (hN hc)) && Nat.ble (hL hc) 41 && (Nat.blt 0 (hMc hc) || Nat.beq (hMs hc) 0) && Nat.ble (hT hc) 4
def zcode (i : Nat) (hc : zHdr) : Bool := zwd i (.code (hY hc) (hB hc) (hL hc) (hR hc))
/-- the class of a receiver, by its number -/
def zrcn (c : Nat) : String := if c = 26 then "java/lang/String" else (zcr c).1
def zinv (own : String) (idx : Nat) (R : zRs) : Bool := (Nat.blt 4 (rA R) || zmok (rH R)) && (match rA R, rW R with
  | 0, [i1, i2, i3, i4, i5] => zwd i1 (.methodLink own idx (hY (rH R))) && zwd i2 (.instanceMethod (hY (rH R))) && zwd i3 (.selects (zrcn (rB R)) (hY (rH R)) (hY (rH R))) && zwd i4 (.initialized (zrcn (rB R))) && zcode i5 (rH R) && decide ((hY (rH R)).cls = zrcn (rB R)) && (decide (rB R < 12) || decide (rB R = 26))
  | 1, [i1, i2, i3, i4, i5, i6] => (match zat i1 with
    | some (.methodLink o j x) => decide (o = own) && decide (j = idx) && goodWord (.methodLink o j x) && zwd i2 (.sameMethod x.cls (hY (rH R)).cls x.name x.desc) && zwd i3 (.selects (zrcn (rB R)) x (hY (rH R))) && decide (hY (rH R) = ⟨(hY (rH R)).cls, x.name, x.desc⟩) && decide ((parseMethodDescriptor x.desc).map (fun d => d.parameters.length) = some (hN (rH R)))
    | _ => false) && zwd i4 (.instanceMethod (hY (rH R))) && zwd i5 (.initialized (hY (rH R)).cls) && zcode i6 (rH R) && decide (rB R < 12)
  | 2, [i1, i2, i3, i4] => zwd i1 (.methodLink own idx (hY (rH R))) && zwd i2 (.static (hY (rH R))) && zwd i3 (.initialized (hY (rH R)).cls) && zcode i4 (rH R)
  | 3, [i1, i2, i3, i4] => zwd i1 (.methodLink own idx (hY (rH R))) && zwd i2 (.initialized (hY (rH R)).cls) && zwd i3 (.instanceMethod (hY (rH R))) && zcode i4 (rH R) && decide ((hY (rH R)).name = "<init>") && decide (hR (rH R) = none)
  | 4, [i2, i3, i4] => decide ((own, idx, hY (rH R)) ∈ zNst) && zwd i2 (.initialized (hY (rH R)).cls) && zwd i3 (.instanceMethod (hY (rH R))) && zcode i4 (rH R) && decide ((hY (rH R)).name = "<init>") && decide (hR (rH R) = none)
  | 5, [i1, i2, i3] => zwd i1 (.methodLink own idx Lib.objectInit) && zwd i2 (.instanceMethod Lib.objectInit) && zwd i3 (.code Lib.objectInit ⟨#[0xb1]⟩ 1 none)
  | 6, _ => true
  | 7, [i1, i2, i3, i4] => zwd i1 (.methodLink own idx arraycopyName) && zwd i2 (.native arraycopyName) && zwd i3 (.static arraycopyName) && zwd i4 (.initialized "java/lang/System")
  | 10, [i1, i2, i3, i4] => zwd i1 (.methodLink own idx Lib.Math.max.name) && zwd i2 (.static Lib.Math.max.name) && zwd i3 (.initialized "java/lang/Math") && zwd i4 (.code Lib.Math.max.name Lib.Math.max.code 2 (some .int))
  | 11, [i1, i2, i3, i4] => zwd i1 (.methodLink own idx Lib.Math.min.name) && zwd i2 (.static Lib.Math.min.name) && zwd i3 (.initialized "java/lang/Math") && zwd i4 (.code Lib.Math.min.name Lib.Math.min.code 2 (some .int))
  | 12, [i1, i2, i3, i4] => zwd i1 (.methodLink own idx Lib.Math.abs.name) && zwd i2 (.static Lib.Math.abs.name) && zwd i3 (.initialized "java/lang/Math") && zwd i4 (.code Lib.Math.abs.name Lib.Math.abs.code 1 (some .int))
  | 13, [i1, i2, i3, i4] => zwd i1 (.methodLink own idx Lib.MathLoose.max_long.x) && zwd i2 (.static Lib.MathLoose.max_long.x) && zwd i3 (.initialized "java/lang/Math") && zwd i4 (.code Lib.MathLoose.max_long.x Lib.MathLoose.max_long.code 4 (some .long))
  | 14, [i1, i2, i3, i4] => zwd i1 (.methodLink own idx Lib.MathLoose.min_long.x) && zwd i2 (.static Lib.MathLoose.min_long.x) && zwd i3 (.initialized "java/lang/Math") && zwd i4 (.code Lib.MathLoose.min_long.x Lib.MathLoose.min_long.code 4 (some .long))
  | _, _ => false)
/-- the next instruction's pc -/
def znx (code : List zIns) (p : Nat) (pc : Nat) : Bool := match code[p]? with
  | some e => Nat.beq (iPc e) pc
  | none => false
def ztg (code : List zIns) (t : Nat) (pc : Nat) (off : Int) : Bool := match code[t]? with
  | some e => decide ((pc : Int) + off = (iPc e : Int))
  | none => false
def zci (h : zHdr) (code : List zIns) (e : zIns) : Bool := match iI e with
  | .iconst k => decide (-2147483648 ≤ k) && decide (k ≤ 2147483647)
  | .bipush k => decide (-128 ≤ k) && decide (k ≤ 127)
  | .sipush k => decide (-32768 ≤ k) && decide (k ≤ 32767)
  | .ldc i => match rC (iR e) with
    | 0 => (match rW (iR e) with
      | [w] => zwd w (.constant (hO h) i (Int32.ofInt (rK (iR e)))) && decide (-2147483648 ≤ rK (iR e)) && decide (rK (iR e) ≤ 2147483647)
      | _ => false)
    | _ => decide (hO h = "WarmWall$Wall") && (decide (i = 11) && decide (rK (iR e) = -11) || decide (i = 32) && decide (rK (iR e) = -12) || decide (i = 46) && decide (rK (iR e) = -13))
  | .ldc_w i => (match rW (iR e) with
      | [w] => zwd w (.constant (hO h) i (Int32.ofInt (rK (iR e)))) && decide (-2147483648 ≤ rK (iR e)) && decide (rK (iR e) ≤ 2147483647)
      | _ => false)
  | .ldc2_w i => (match rW (iR e) with
      | [w] => zwd w (.constantLong (hO h) i (Int64.ofInt (rK (iR e)))) && decide (-2147483648 ≤ rK (iR e)) && decide (rK (iR e) ≤ 2147483647)
      | _ => false)
  | .ifCond _ off => ztg code (rA (iR e)) (iPc e) off
  | .if_icmp _ off => ztg code (rA (iR e)) (iPc e) off
  | .goto off => ztg code (rA (iR e)) (iPc e) off
  | .tableswitch dflt lo hi offs => ztg code (rA (iR e)) (iPc e) dflt && decide (hi - lo + 1 = ((rW (iR e)).length : Int)) && decide (offs.toList.length = (rW (iR e)).length) && (List.zip offs.toList (rW (iR e))).all (fun q => ztg code q.2 (iPc e) q.1) && decide (-2147483648 ≤ lo) && decide (hi ≤ 2147483647)
  | .lookupswitch dflt ps => ztg code (rA (iR e)) (iPc e) dflt && decide (ps.toList.length = (rW (iR e)).length) && (List.zip ps.toList (rW (iR e))).all (fun q => ztg code q.2 (iPc e) q.1.2) && (ps.toList.zip (ps.toList.drop 1)).all (fun (a, next) => a.1 < next.1)
  | .getfield i => match rC (iR e) with
    | 0 => zfld (hO h) i (rA (iR e)) (rB (iR e)) (rW (iR e)) && Nat.beq (zFT (rA (iR e)) (rB (iR e))) 0 && Nat.beq (zFn (rA (iR e)) (rB (iR e))).1 0
    | 1 => zfld (hO h) i (rA (iR e)) (rB (iR e)) (rW (iR e)) && Nat.beq (zFT (rA (iR e)) (rB (iR e))) 2 && Nat.beq (zFn (rA (iR e)) (rB (iR e))).1 0
    | 2 => zfld (hO h) i (rA (iR e)) (rB (iR e)) (rW (iR e)) && Nat.beq (zFn (rA (iR e)) (rB (iR e))).1 1 && decide ((zFn (rA (iR e)) (rB (iR e))).2 = rK (iR e))
    | 3 => zfld (hO h) i (rA (iR e)) (rB (iR e)) (rW (iR e)) && Nat.beq (zFn (rA (iR e)) (rB (iR e))).1 2
    | 5 => (match rW (iR e) with
      | [w] => zwd w (.fieldLink (hO h) i "java/lang/String" "value" "[B")
      | _ => false)
    | _ => (match rW (iR e) with
      | [w] => zwd w (.fieldLink (hO h) i "java/lang/String" "coder" "B")
      | _ => false)
  | .putfield i => zfld (hO h) i (rA (iR e)) (rB (iR e)) (rW (iR e)) && (match rC (iR e) with
    | 0 => Nat.beq (zfk (rA (iR e)) (rB (iR e))) 0 && Nat.beq (zFT (rA (iR e)) (rB (iR e))) 0 && !(zfin (rA (iR e)) (rB (iR e)))
    | 1 => Nat.beq (zfk (rA (iR e)) (rB (iR e))) 4 && Nat.beq (zFT (rA (iR e)) (rB (iR e))) 0 && !(zfin (rA (iR e)) (rB (iR e)))
    | 2 => Nat.beq (zfk (rA (iR e)) (rB (iR e))) 2 && Nat.beq (zFT (rA (iR e)) (rB (iR e))) 2 && !(zfin (rA (iR e)) (rB (iR e)))
    | 3 => Nat.beq (zfk (rA (iR e)) (rB (iR e))) 0 && Nat.beq (zFT (rA (iR e)) (rB (iR e))) 0 && zfin (rA (iR e)) (rB (iR e)) && hK h && decide (((zcr (rA (iR e))).2.1 (rB (iR e))).1 = hO h)
    | _ => Nat.beq (zfk (rA (iR e)) (rB (iR e))) 2 && Nat.beq (zFT (rA (iR e)) (rB (iR e))) 2 && zfin (rA (iR e)) (rB (iR e)) && hK h && decide (((zcr (rA (iR e))).2.1 (rB (iR e))).1 = hO h))
  | .getstatic i => (match rW (iR e) with
    | [w] => (match rC (iR e) with
      | 0 => decide (rB (iR e) < 9) && decide (rK (iR e) = -2 - (rB (iR e) : Int)) && zwd w (.fieldLink (hO h) i "WarmWall$Wall" (zSNm.getD (rB (iR e)) "") "[I")
      | 1 => zwd w (.fieldLink (hO h) i "jdk/internal/util/Preconditions" "SIOOBE_FORMATTER" "Ljava/util/function/BiFunction;")
      | _ => decide (rK (iR e) = 1) && zwd w (.fieldLink (hO h) i "java/lang/String" "COMPACT_STRINGS" "Z"))
    | _ => false)
  | .new i => match rC (iR e) with
    | 9 => true
    | _ => (match rW (iR e) with
      | [i1, i2, i3] => decide (rA (iR e) < 12) && zwd i1 (.classLink (hO h) i (zcr (rA (iR e))).1) && zwd i2 (.instantiable (zcr (rA (iR e))).1 (zcr (rA (iR e))).2.2) && zwd i3 (.initialized (zcr (rA (iR e))).1)
      | _ => false)
  | .newarray t => (match rW (iR e), rA (iR e), t with
    | [i1], 20, .int => zwd i1 (.arrayClass .int)
    | [i1], 21, .boolean => zwd i1 (.arrayClass .boolean)
    | [i1], 22, .long => zwd i1 (.arrayClass .long)
    | _, _, _ => false)
  | .anewarray i => (match rW (iR e) with
    | [i1] => zwd i1 (.classLink (hO h) i "WarmWall$Law")
    | _ => false)
  | .invokestatic i => (Nat.beq (rA (iR e)) 2 || Nat.blt 5 (rA (iR e))) && zinv (hO h) i (iR e)
  | .invokevirtual i => (Nat.beq (rA (iR e)) 0 || Nat.beq (rA (iR e)) 1) && zinv (hO h) i (iR e)
  | .invokespecial i => (Nat.beq (rA (iR e)) 3 || Nat.beq (rA (iR e)) 4 || Nat.beq (rA (iR e)) 5) && zinv (hO h) i (iR e)
  | .ireturn => (Nat.beq (hT h) 0 || Nat.beq (hT h) 4) && Nat.beq (hMc h) 0
  | .lreturn => Nat.beq (hT h) 1 && Nat.beq (hMc h) 0
  | .areturn => Nat.beq (hT h) 2 && Nat.beq (hMc h) 0
  | .return_ => Nat.beq (hT h) 3
  | _ => true
/-- does control go on to the next instruction -/
def zfall (i : Instr) : Bool := match i with
  | .goto _ => false
  | .tableswitch .. => false
  | .lookupswitch .. => false
  | .ireturn => false
  | .lreturn => false
  | .areturn => false
  | .return_ => false
  | _ => true
def zlen (i : Instr) : Nat := match i with
  | .bipush _ | .iload _ | .lload _ | .aload _ | .istore _ | .lstore _ | .astore _ | .ldc _ | .newarray _ => 2
  | .sipush _ | .ldc_w _ | .ldc2_w _ | .iinc .. | .ifCond .. | .if_icmp .. | .goto _ | .getfield _ | .putfield _ | .getstatic _ | .new _ | .anewarray _ | .invokestatic _ | .invokevirtual _ | .invokespecial _ => 3
  | .tableswitch .. => 0
  | .lookupswitch .. => 0
  | _ => 1
/-- the making of an exception: what comes behind is not walked -/
def zexc (i : Instr) (R : zRs) : Bool := match i with
  | .new _ => Nat.beq (rC R) 9
  | _ => false
def zce (h : zHdr) (code : List zIns) (p : Nat) (e : zIns) : Bool := Nat.beq (iP e) p && decide (decode (hB h) (iPc e) = .ok (iI e, iLen e)) && (Nat.beq (zlen (iI e)) 0 || Nat.beq (iLen e) (zlen (iI e))) && (!(zfall (iI e)) || znx code (p + 1) (iPc e + iLen e) || zexc (iI e) (iR e)) && zci h code e
def zck (h : zHdr) (code : List zIns) : Bool := (List.range code.length).all (fun p => match code[p]? with
  | some e => zce h code p e
  | none => true)
end
section
/-! numbers: from whole numbers to the machine's and back -/
theorem z32_toInt {x : Int} (h : zI x) : (Int32.ofInt x).toInt = x := Int32.toInt_ofInt_of_le (by have := h.1; simpa using this) (by have := h.2; omega)
theorem z32_of (x : Int32) : Int32.ofInt x.toInt = x := Int32.ofInt_toInt x
theorem z32_I (x : Int32) : zI x.toInt := ⟨by have := x.minValue_le_toInt; simpa using this, by have := x.toInt_lt; omega⟩
theorem z32_inj {x y : Int} (hx : zI x) (hy : zI y) : Int32.ofInt x = Int32.ofInt y ↔ x = y := ⟨fun h => by rw [← z32_toInt hx, ← z32_toInt hy, h], fun h => by rw [h]⟩
theorem z32_le {x y : Int} (hx : zI x) (hy : zI y) : Int32.ofInt x ≤ Int32.ofInt y ↔ x ≤ y := by rw [Int32.le_iff_toInt_le, z32_toInt hx, z32_toInt hy]
theorem z32_lt {x y : Int} (hx : zI x) (hy : zI y) : Int32.ofInt x < Int32.ofInt y ↔ x < y := by rw [Int32.lt_iff_toInt_lt, z32_toInt hx, z32_toInt hy]
theorem zI0 : zI 0 := ⟨by decide, by decide⟩
theorem z32_0 {x : Int} (hx : zI x) : Int32.ofInt x = 0 ↔ x = 0 := z32_inj hx zI0
theorem z32_le0 {x : Int} (hx : zI x) : Int32.ofInt x ≤ 0 ↔ x ≤ 0 := z32_le hx zI0
theorem z32_lt0 {x : Int} (hx : zI x) : Int32.ofInt x < 0 ↔ x < 0 := z32_lt hx zI0
theorem z32_ge0 {x : Int} (hx : zI x) : 0 ≤ Int32.ofInt x ↔ 0 ≤ x := z32_le zI0 hx
theorem z32_gt0 {x : Int} (hx : zI x) : 0 < Int32.ofInt x ↔ 0 < x := z32_lt zI0 hx
theorem z32_clamp {x : Int} (hx : zI x) : (Int32.ofInt x).toNatClampNeg = x.toNat := by
  show (Int32.ofInt x).toInt.toNat = _
  rw [z32_toInt hx]
theorem z64_toInt {x : Int} (h : zLg x) : (Int64.ofInt x).toInt = x := Int64.toInt_ofInt_of_le (by have := h.1; simpa using this) (by have := h.2; omega)
theorem z64_of (x : Int64) : Int64.ofInt x.toInt = x := Int64.ofInt_toInt x
theorem z64_lt {x y : Int} (hx : zLg x) (hy : zLg y) : Int64.ofInt x < Int64.ofInt y ↔ x < y := by rw [Int64.lt_iff_toInt_lt, z64_toInt hx, z64_toInt hy]
theorem z64_inj {x y : Int} (hx : zLg x) (hy : zLg y) : Int64.ofInt x = Int64.ofInt y ↔ x = y := ⟨fun h => by rw [← z64_toInt hx, ← z64_toInt hy, h], fun h => by rw [h]⟩
theorem z32_div {x y : Int} (hx : zI x) (hy : zI y) (hq : zI (x.tdiv y)) : Int32.ofInt x / Int32.ofInt y = Int32.ofInt (x.tdiv y) := by
  apply Int32.toInt_inj.mp
  rw [Int32.toInt_div, z32_toInt hx, z32_toInt hy, z32_toInt hq]
  exact Int.bmod_eq_of_le (by have := hq.1; simpa using this) (by have := hq.2; show x.tdiv y < _; simp; omega)
theorem z64_div {x y : Int} (hx : zLg x) (hy : zLg y) (hq : zLg (x.tdiv y)) : Int64.ofInt x / Int64.ofInt y = Int64.ofInt (x.tdiv y) := by
  apply Int64.toInt_inj.mp
  rw [Int64.toInt_div, z64_toInt hx, z64_toInt hy, z64_toInt hq]
  exact Int.bmod_eq_of_le (by have := hq.1; simpa using this) (by have := hq.2; show x.tdiv y < _; simp; omega)
theorem z32_rem {x y : Int} (hx : zI x) (hy : zI y) (hq : zI (x.tdiv y)) : Int32.ofInt x - Int32.ofInt x / Int32.ofInt y * Int32.ofInt y = Int32.ofInt (x.tmod y) := by
  rw [z32_div hx hy hq, ← Int32.ofInt_mul, ← Int32.ofInt_sub]
  congr 1
  have := Int.tmod_add_mul_tdiv x y
  have h2 : x.tdiv y * y = y * x.tdiv y := Int.mul_comm _ _
  omega
theorem zI_mod {x y : Int} (hx : zI x) (hq : ¬ y = 0) : zI (x.tmod y) := by
  have h1 := Int.tmod_add_mul_tdiv x y
  have h3 : (x.tmod y).natAbs ≤ x.natAbs := by
    rw [Int.natAbs_tmod]
    exact Nat.mod_le _ _
  have a := hx.1
  have b := hx.2
  by_cases h0 : 0 ≤ x
  · have : 0 ≤ x.tmod y := Int.tmod_nonneg y h0
    constructor <;> omega
  · constructor
    · omega
    · have : x.tmod y ≤ 0 := by
        have h5 := Int.neg_tmod x y
        have h6 : 0 ≤ (-x).tmod y := Int.tmod_nonneg y (by omega)
        omega
      omega
theorem zI_tdiv {x y : Int} (hx : zI x) (hy : 0 < y) : zI (x.tdiv y) := by
  have h3 : (x.tdiv y).natAbs ≤ x.natAbs := by
    rw [Int.natAbs_tdiv]
    exact Nat.div_le_self _ _
  have a := hx.1
  have b := hx.2
  by_cases h0 : 0 ≤ x
  · have : 0 ≤ x.tdiv y := Int.tdiv_nonneg h0 (by omega)
    constructor <;> omega
  · constructor
    · omega
    · have h6 : 0 ≤ (-x).tdiv y := Int.tdiv_nonneg (by omega) (by omega)
      rw [Int.neg_tdiv] at h6
      omega
theorem z_i2l {x : Int} (hx : zI x) : (Int32.ofInt x).toInt64 = Int64.ofInt x := by
  apply Int64.toInt_inj.mp
  rw [Int32.toInt_toInt64, z32_toInt hx, z64_toInt ⟨by have := hx.1; omega, by have := hx.2; omega⟩]
theorem z_l2i (x : Int) : (Int64.ofInt x).toInt32 = Int32.ofInt x := Int64.toInt32_ofInt
theorem z_i8 {k : Int} (h1 : -128 ≤ k) (h2 : k ≤ 127) : (Int8.ofInt k).toInt32 = Int32.ofInt k := by
  apply Int32.toInt_inj.mp
  rw [Int8.toInt_toInt32, Int8.toInt_ofInt_of_le (by simpa using h1) (by omega), z32_toInt ⟨by omega, by omega⟩]
theorem z_i16 {k : Int} (h1 : -32768 ≤ k) (h2 : k ≤ 32767) : (Int16.ofInt k).toInt32 = Int32.ofInt k := by
  apply Int32.toInt_inj.mp
  rw [Int16.toInt_toInt32, Int16.toInt_ofInt_of_le (by simpa using h1) (by omega), z32_toInt ⟨by omega, by omega⟩]
theorem z_i2c {x : Int} (h1 : 0 ≤ x) (h2 : x ≤ 65535) : ((Int32.ofInt x).toUInt32 % 65536).toInt32 = Int32.ofInt x := by
  obtain ⟨n, rfl⟩ : ∃ n : Nat, x = n := ⟨x.toNat, by omega⟩
  have := pk_char (nI n)
  have e : Int32.ofInt (n : Int) = nI n := by rfl
  rw [e, this]
  rw [pk_tn (by omega), Nat.mod_eq_of_lt (by omega)]
theorem z_in {x : Int} {n : Nat} {b : Int} (hb : b.toNat = n) (h0 : 0 ≤ x) (h1 : x < b) (hx : zI x) : vp_in (Int32.ofInt x) n := by
  intro h
  rcases h with h | h
  · exact absurd ((z32_lt0 hx).mp h) (by omega)
  · rw [z32_clamp hx] at h
    omega
theorem z_nat (n : Nat) : Int32.ofInt (n : Int) = Int32.ofNat n := rfl
end
section
/-! worlds: the list of cells, a read, a write, a new one -/
theorem zW_len {G : zG} {md : Nat} {v : zH} {n : Nat} : (zW G md v n).length = n := by simp [zW]
theorem zW_get {G : zG} {md : Nat} {v : zH} {n i : Nat} (h : i < n) : (zW G md v n)[i]? = some (zgB G + i, zE G md v i) := by
  simp [zW, List.getElem?_map, List.getElem?_range h]
theorem zW_get' {G : zG} {md : Nat} {v : zH} {n k : Nat} {q : Nat × va_E} (h : (zW G md v n)[k]? = some q) : k < n ∧ q = (zgB G + k, zE G md v k) := by
  have hk : k < n := by
    have := (List.getElem?_eq_some_iff.mp h).1
    rwa [zW_len] at this
  rw [zW_get hk] at h
  exact ⟨hk, (Option.some.inj h).symm⟩
theorem zW_D {G : zG} {md : Nat} {v : zH} {n : Nat} : va_D (zA G) (zW G md v n) := by
  refine ⟨fun i j p q hi hj hpq => ?_, fun k q hk => ?_⟩
  · obtain ⟨-, rfl⟩ := zW_get' hi
    obtain ⟨-, rfl⟩ := zW_get' hj
    have : zgB G + i = zgB G + j := hpq
    omega
  · obtain ⟨-, rfl⟩ := zW_get' hk
    exact Nat.le_add_right _ _
theorem zW_set {G : zG} {md : Nat} {v v' : zH} {n i : Nat} {e : va_E} (hi : i < n) (he : e = zE G md v' i) (ho : ∀ j : Nat, j < n → j ≠ i → zE G md v' j = zE G md v j) : (zW G md v n).set i (zgB G + i, e) = zW G md v' n := by
  apply List.ext_getElem?
  intro k
  by_cases hk : k < n
  · by_cases hki : k = i
    · subst hki
      rw [List.getElem?_set_self (by rw [zW_len]; exact hk), zW_get hk, he]
    · rw [List.getElem?_set_ne (Ne.symm hki), zW_get hk, zW_get hk, ho k hk hki]
  · rw [List.getElem?_eq_none (by rw [List.length_set, zW_len]; omega), List.getElem?_eq_none (by rw [zW_len]; omega)]
theorem zE_congr {G : zG} {md : Nat} {v v' : zH} {i : Nat} (h : ∀ j : Int, v' i j = v i j) : zE G md v' i = zE G md v i := by
  have e : v' (i : Int) = v (i : Int) := funext h
  unfold zE zfv
  simp only [e]
theorem zupd_o {v : zH} {a j x : Int} {a' j' : Int} (h : ¬ a' = a) : zupd v a j x a' j' = v a' j' := by simp [zupd, h]
theorem zupd_s {v : zH} {a j x : Int} : zupd v a j x a j = x := by simp [zupd]
theorem zupd_j {v : zH} {a j x : Int} {j' : Int} (h : ¬ j' = j) : zupd v a j x a j' = v a j' := by simp [zupd, h]
theorem zE_ne {G : zG} {md : Nat} {v : zH} {a j x : Int} {i : Nat} (h : ¬ (i : Int) = a) : zE G md (zupd v a j x) i = zE G md v i := zE_congr fun _ => zupd_o h
theorem zE_20 {G : zG} {md : Nat} {v : zH} {i : Nat} (h : zCL i = 20) : zE G md v i = .inl (zgT G 0, (zLN i).toNat, .inl (fun j => Int32.ofInt (v i j))) := by simp [zE, h]
theorem zE_21 {G : zG} {md : Nat} {v : zH} {i : Nat} (h : zCL i = 21) : zE G md v i = .inl (zgT G 1, (zLN i).toNat, .inl (fun j => Int32.ofInt (v i j))) := by simp [zE, h]
theorem zE_22 {G : zG} {md : Nat} {v : zH} {i : Nat} (h : zCL i = 22) : zE G md v i = .inl (zgT G 2, (zLN i).toNat, .inr (.inl (fun j => Int64.ofInt (v i j)))) := by simp [zE, h]
theorem zE_23 {G : zG} {md : Nat} {v : zH} {i : Nat} (h : zCL i = 23) : zE G md v i = .inl (zgT G 3, (zLN i).toNat, .inr (.inr (.inr (.inr (fun j => if v i j = -1000 then none else some (zad G (v i j))))))) := by simp [zE, h]
theorem zE_o {G : zG} {md : Nat} {v : zH} {i : Nat} {c : Nat} (h : zCL i = c) (hc : c < 12) : zE G md v i = .inr (c, (List.range (zNF c)).map (fun k => zc G (zFT c k, zfv md v i k))) := by
  unfold zE
  rw [h, if_neg (by omega), if_neg (by omega), if_neg (by omega), if_neg (by omega)]
theorem zupd_fun20 {v : zH} {i : Nat} {j x : Int} (h0 : 0 ≤ j) : (fun k : Nat => Int32.ofInt (zupd v i j x i k)) = upd (fun k : Nat => Int32.ofInt (v i k)) j.toNat (Int32.ofInt x) := by
  funext k
  unfold upd zupd
  by_cases hk : k = j.toNat
  · subst hk
    have : ((j.toNat : Nat) : Int) = j := by omega
    simp [this]
  · have : ¬ ((k : Nat) : Int) = j := by omega
    simp [this, hk]
theorem zupd_fun22 {v : zH} {i : Nat} {j x : Int} (h0 : 0 ≤ j) : (fun k : Nat => Int64.ofInt (zupd v i j x i k)) = vp_updL (fun k : Nat => Int64.ofInt (v i k)) j.toNat (Int64.ofInt x) := by
  funext k
  unfold vp_updL zupd
  by_cases hk : k = j.toNat
  · subst hk
    have : ((j.toNat : Nat) : Int) = j := by omega
    simp [this]
  · have : ¬ ((k : Nat) : Int) = j := by omega
    simp [this, hk]
theorem zupd_fun23 {G : zG} {v : zH} {i : Nat} {j x : Int} (h0 : 0 ≤ j) (hx : ¬ x = -1000) : (fun k : Nat => if zupd v i j x i k = -1000 then none else some (zad G (zupd v i j x i k))) = va_up (fun k : Nat => if v i k = -1000 then none else some (zad G (v i k))) j.toNat (some (zad G x)) := by
  funext k
  unfold va_up zupd
  by_cases hk : k = j.toNat
  · subst hk
    have : ((j.toNat : Nat) : Int) = j := by omega
    simp [this, hx]
  · have : ¬ ((k : Nat) : Int) = j := by omega
    simp [this, hk]
theorem zfv_o {md : Nat} {v : zH} {a j x : Int} {i : Int} {k : Nat} (h : ¬ i = a ∨ ¬ (k : Int) = j) : zfv md (zupd v a j x) i k = zfv md v i k := by
  unfold zfv
  split
  · rfl
  · unfold zupd
    rw [if_neg]
    rcases h with h | h
    · exact fun q => h q.1
    · exact fun q => h q.2
theorem zfv_s {md : Nat} {v : zH} {i x : Int} {k : Nat} (h : ¬ (md = 1 ∧ (zFn (zCL i) k).1 ≠ 0)) : zfv md (zupd v i k x) i k = x := by
  unfold zfv
  rw [if_neg h]
  exact zupd_s
theorem zfields_set {G : zG} {md : Nat} {v : zH} {i : Nat} {c k : Nat} {x : Int} (hc : zCL i = c) (hk : k < zNF c) (h : ¬ (md = 1 ∧ (zFn c k).1 ≠ 0)) : ((List.range (zNF c)).map (fun k => zc G (zFT c k, zfv md v i k))).set k (zc G (zFT c k, x)) = (List.range (zNF c)).map (fun k' => zc G (zFT c k', zfv md (zupd v i k x) i k')) := by
  apply List.ext_getElem?
  intro j
  by_cases hj : j < zNF c
  · by_cases hjk : j = k
    · subst hjk
      rw [List.getElem?_set_self (by simpa using hj), List.getElem?_map, List.getElem?_range hj]
      simp only [Option.map_some]
      rw [zfv_s (by rw [hc]; exact h)]
    · rw [List.getElem?_set_ne (Ne.symm hjk), List.getElem?_map, List.getElem?_map, List.getElem?_range hj]
      simp only [Option.map_some]
      rw [zfv_o (Or.inr (by omega))]
  · rw [List.getElem?_eq_none (by simpa using hj), List.getElem?_eq_none (by simpa using hj)]
theorem zOk_upd {md : Nat} {v : zH} {n : Nat} {i : Nat} {j : Nat} {x : Int} (h : zOk md v n) (hx : zRn n (zTg i j) x) : zOk md (zupd v i j x) n := by
  intro i' hi' k
  by_cases hh : (i' : Int) = i ∧ (k : Int) = j
  · have e1 : i' = i := by omega
    have e2 : k = j := by omega
    subst e1; subst e2
    by_cases hf : md = 1 ∧ (zFn (zCL (i' : Int)) k).1 ≠ 0
    · have := h i' hi' k
      unfold zfv at this ⊢
      rw [if_pos hf] at this ⊢
      exact this
    · rw [zfv_s hf]
      exact hx
  · rw [zfv_o (by by_cases q : (i' : Int) = i
                  · exact Or.inr fun z => hh ⟨q, z⟩
                  · exact Or.inl q)]
    exact h i' hi' k
theorem zP_lt {G : zG} {md : Nat} {v : zH} {n : Nat} {H : Heap} (h : va_P (zgD G) zcl (zW G md v n) H) (hn : 0 < n) : zgB G + n ≤ H.size := by
  have := (h (n - 1) _ (zW_get (show n - 1 < n by omega))).lt
  simp only at this
  omega
theorem zCL_le {a : Int} {c : Nat} (h : zCL a = c) (hc : c < 25) : 0 ≤ a := by
  unfold zCL at h
  split at h
  · assumption
  · split at h
    · omega
    · split at h
      · omega
      · split at h
        · omega
        · split at h <;> omega
theorem zLN_le (a : Int) : 0 ≤ zLN a := by
  unfold zLN
  split
  · omega
  · split
    · omega
    · split
      · omega
      · omega
theorem zLN_small_tab : ∀ q ∈ zTab, q.2 ≤ 10000 := by decide +kernel
theorem zLN_small {a : Int} (h : 0 ≤ a) : zLN a ≤ 10000 := by
  unfold zLN
  rw [if_pos h]
  rw [List.getD_eq_getElem?_getD]
  cases hq : zTab[a.toNat]? with
  | none => simp
  | some q =>
    have := zLN_small_tab q (List.mem_of_getElem? hq)
    simp only [Option.getD_some]
    omega
theorem zRn_mono {n n' t : Nat} {x : Int} (h : zRn n t x) (hn : n ≤ n') : zRn n' t x := by
  rcases h with h | h
  · exact Or.inl h
  · refine Or.inr ?_
    unfold zRg at h ⊢
    split <;> simp_all
    omega
theorem zRg_mono {n n' t : Nat} {x : Int} (h : zRg n t x) (hn : n ≤ n') : zRg n' t x := by
  unfold zRg at h ⊢
  split <;> simp_all
  omega
theorem zSZ_step (n : Nat) : zSZ n ≤ zSZ (n + 1) := by
  unfold zSZ
  by_cases h : n < zTab.length
  · rw [List.take_succ_eq_append_getElem h, List.map_append, List.sum_append]
    omega
  · rw [List.take_of_length_le (by omega), List.take_of_length_le (by omega)]
    exact Nat.le_refl _
theorem zSZ_mono {a b : Nat} (h : a ≤ b) : zSZ a ≤ zSZ b := by
  induction b with
  | zero => rw [show a = 0 by omega]; exact Nat.le_refl _
  | succ b ih =>
    by_cases e : a = b + 1
    · rw [e]; exact Nat.le_refl _
    · exact Nat.le_trans (ih (by omega)) (zSZ_step b)
theorem zcr_get {ci : Nat} (h : ci < 12) : zcl[ci]? = some (zcr ci) := by
  unfold zcr
  rw [List.getD_eq_getElem?_getD, List.getElem?_eq_getElem (show ci < zcl.length from h)]
  rfl
theorem zNF_ok : ∀ ci, ci < 12 → zNF ci = (zcr ci).2.2 := by decide +kernel
theorem zat_mem {i : Nat} {w : Jvm.Cond} (h : zat i = some w) : w ∈ lw_tbl := by
  have hm := List.mem_of_getElem? h
  unfold zchunk at hm
  show w ∈ k2_sels lw_privs ++ tables_1
  have e : tables_1 = tables_1_1 ++ (tables_1_2 ++ (tables_1_3 ++ (tables_1_4 ++ (tables_1_5 ++ (tables_1_6 ++ tables_1_7))))) := rfl
  rw [e]
  split at hm
  · exact List.mem_append_left _ hm
  · exact List.mem_append_right _ (List.mem_append_left _ hm)
  · exact List.mem_append_right _ (List.mem_append_right _ (List.mem_append_left _ hm))
  · exact List.mem_append_right _ (List.mem_append_right _ (List.mem_append_right _ (List.mem_append_left _ hm)))
  · exact List.mem_append_right _ (List.mem_append_right _ (List.mem_append_right _ (List.mem_append_right _ (List.mem_append_left _ hm))))
  · exact List.mem_append_right _ (List.mem_append_right _ (List.mem_append_right _ (List.mem_append_right _ (List.mem_append_right _ (List.mem_append_left _ hm)))))
  · exact List.mem_append_right _ (List.mem_append_right _ (List.mem_append_right _ (List.mem_append_right _ (List.mem_append_right _ (List.mem_append_right _ (List.mem_append_left _ hm))))))
  · exact List.mem_append_right _ (List.mem_append_right _ (List.mem_append_right _ (List.mem_append_right _ (List.mem_append_right _ (List.mem_append_right _ (List.mem_append_right _ hm))))))
/-- a word of the tables, by its place -/
theorem zwd_ok {i : Nat} {w : Jvm.Cond} (h : zwd i w = true) : w ∈ zws := by
  unfold zwd at h
  rw [Bool.and_eq_true, decide_eq_true_eq] at h
  exact List.mem_filter.mpr ⟨zat_mem h.1, h.2⟩
theorem zws_good : GoodIn zws zws := fun w hw => ⟨hw, good_of_word (List.mem_filter.mp hw).2⟩
theorem zWs_good {h : zHdr} {i : Nat} (hc : zcode i h = true) : GoodIn zws (zWs h) := by
  intro w hw
  rcases List.mem_cons.mp hw with rfl | hw
  · exact zws_good _ (zwd_ok hc)
  · exact zws_good _ hw
end
section
/-! one instruction after the other, over the machine -/
theorem zStk_c {n : Nat} {q : zV} {st : List zV} : zStk n (q :: st) ↔ (zRg n q.1 q.2 ∧ q.1 ≠ 3) ∧ zStk n st := List.forall_mem_cons
theorem zc_ref {G : zG} {x : Int} (h : ¬ x = -1000) : zc G (2, x) = .ref (zad G x) := by
  show (if x = -1000 then Value.null else Value.ref (zad G x)) = _
  rw [if_neg h]
theorem zRg_ref {n : Nat} {x : Int} (h : zRg n 2 x) : ¬ x = -1000 := by
  have := h.1
  omega
def zlist (G : zG) (L : List zV) : List (Nat × Value) := (List.range L.length).filterMap (fun i => match L[i]? with
  | some (3, _) => none
  | some q => some (i, zc G q)
  | none => none)
theorem zlist_mem {G : zG} {L : List zV} {i t : Nat} {x : Int} (h : L[i]? = some (t, x)) (ht : t ≠ 3) : (i, zc G (t, x)) ∈ zlist G L := by
  refine List.mem_filterMap.mpr ⟨i, List.mem_range.mpr (List.getElem?_eq_some_iff.mp h).1, ?_⟩
  rw [h]
  split
  · rename_i e; cases e; exact absurd rfl ht
  · rename_i e; cases e; rfl
  · rename_i e; cases e
theorem zlist_has {G : zG} {n nL : Nat} {ls : Array Slot} {L : List zV} (h : zLs G n ls nL L) : lv_has ls nL (zlist G L) := by
  refine ⟨h.1, h.2.1, fun q hq => ?_⟩
  obtain ⟨i, -, hi⟩ := List.mem_filterMap.mp hq
  split at hi
  · cases hi
  · rename_i q e1 e2
    cases hi
    obtain ⟨t, x⟩ := q
    exact (h.2.2 i t x e2 (fun z => by subst z; exact e1 x rfl)).1
  · cases hi
theorem zcat_1 {G : zG} {t : Nat} {x : Int} (h : t ≠ 3) : (zc G (t, x)).category = 2 → t = 1 := by
  intro hq
  unfold zc at hq
  split at hq
  · simp [Value.category] at hq
  · assumption
  · split at hq <;> simp [Value.category] at hq
  · split at hq <;> simp [Value.category] at hq
theorem zLs_set1 {G : zG} {n nL i t : Nat} {x : Int} {ls' : Array Slot} {L : List zV} {w : Value} (hp : zpl L i = false) (hi : i < L.length) (hx : zRg n t x) (hw : w = zc G (t, x)) {ls : Array Slot} (hL : zLs G n ls nL L)
    (h : lv_has ls' nL ((i, w) :: (zlist G L).filter (fun q => !(q.1 == i) && !(q.1 + 1 == i && q.2.category == 2)))) : zLs G n ls' nL (L.set i (t, x)) := by
  refine ⟨h.1, h.2.1, fun k u y hk hu => ?_⟩
  by_cases hki : k = i
  · subst hki
    rw [List.getElem?_set_self hi] at hk
    cases hk
    exact ⟨by rw [← hw]; exact h.2.2 _ List.mem_cons_self, hx⟩
  · rw [List.getElem?_set_ne (Ne.symm hki)] at hk
    refine ⟨h.2.2 (k, zc G (u, y)) (List.mem_cons_of_mem _ (List.mem_filter.mpr ⟨zlist_mem hk hu, ?_⟩)), (hL.2.2 k u y hk hu).2⟩
    have e1 : (k == i) = false := by simpa using hki
    simp only [e1, Bool.not_false, Bool.true_and, Bool.not_eq_true', Bool.and_eq_false_iff, beq_eq_false_iff_ne]
    by_cases h1 : k + 1 = i
    · right
      intro hc
      have ht := zcat_1 hu hc
      subst ht
      subst h1
      simp [zpl, hk] at hp
    · exact Or.inl h1
theorem zLs_set2 {G : zG} {n nL i : Nat} {x : Int} {ls' : Array Slot} {L : List zV} (hp : zpl L i = false) (hi : i + 1 < L.length) (hx : zRg n 1 x) {ls : Array Slot} (hL : zLs G n ls nL L)
    (h : lv_has ls' nL ((i, Value.long (Int64.ofInt x)) :: (zlist G L).filter (fun q => !(q.1 == i) && (!(q.1 == i + 1) && !(q.1 + 1 == i && q.2.category == 2))))) : zLs G n ls' nL ((L.set i (1, x)).set (i + 1) (3, 0)) := by
  refine ⟨h.1, h.2.1, fun k u y hk hu => ?_⟩
  by_cases hk1 : k = i + 1
  · subst hk1
    rw [List.getElem?_set_self (by simpa using hi)] at hk
    cases hk
    exact absurd rfl hu
  · rw [List.getElem?_set_ne (Ne.symm hk1)] at hk
    by_cases hki : k = i
    · subst hki
      rw [List.getElem?_set_self (by omega)] at hk
      cases hk
      exact ⟨h.2.2 _ List.mem_cons_self, hx⟩
    · rw [List.getElem?_set_ne (Ne.symm hki)] at hk
      refine ⟨h.2.2 (k, zc G (u, y)) (List.mem_cons_of_mem _ (List.mem_filter.mpr ⟨zlist_mem hk hu, ?_⟩)), (hL.2.2 k u y hk hu).2⟩
      have e1 : (k == i) = false := by simpa using hki
      have e2 : (k == i + 1) = false := by simpa using hk1
      simp only [e1, e2, Bool.not_false, Bool.true_and, Bool.not_eq_true', Bool.and_eq_false_iff, beq_eq_false_iff_ne]
      by_cases h1 : k + 1 = i
      · right
        intro hc
        have ht := zcat_1 hu hc
        subst ht
        subst h1
        simp [zpl, hk] at hp
      · exact Or.inl h1
theorem zs_iconst {l : Launch} {G : zG} {md d : Nat} {h : zHdr} {n0 : Nat} {Q : Int → zH → Prop} {QX : Nat → zH → Prop} {pc : Nat} {L st : List zV} {v : zH} {n : Nat} {x : Int} (hd : decode (hB h) pc = .ok (.iconst x, 1)) (hx0 : zI x) (k : zJp l G md d h n0 Q QX (pc + 1) L ((0, x) :: st) v n) : zJp l G md d h n0 Q QX pc L st v n := by
  intro p e R s m args below meth c QW C H locs ls hP hS hL hSt a1 a2 a3
  obtain ⟨⟨hx, hb, hml, hown, hts⟩, ⟨hKt, hZt, hB0, hB1⟩, ⟨hf1, hf2, hf3, hf4⟩, hin, hHR, hHX⟩ := id C
  refine lv_iconst (v := Int32.ofInt x) hx hb hd rfl ?_
  exact k p e R s m args below meth c QW C H locs ls hP hS hL (zStk_c.mpr ⟨⟨hx0, by simp⟩, hSt⟩) a1 a2 a3
theorem zs_bipush {l : Launch} {G : zG} {md d : Nat} {h : zHdr} {n0 : Nat} {Q : Int → zH → Prop} {QX : Nat → zH → Prop} {pc : Nat} {L st : List zV} {v : zH} {n : Nat} {x : Int} (hd : decode (hB h) pc = .ok (.bipush x, 2)) (h1 : -128 ≤ x) (h2 : x ≤ 127) (k : zJp l G md d h n0 Q QX (pc + 2) L ((0, x) :: st) v n) : zJp l G md d h n0 Q QX pc L st v n := by
  intro p e R s m args below meth c QW C H locs ls hP hS hL hSt a1 a2 a3
  obtain ⟨⟨hx, hb, hml, hown, hts⟩, ⟨hKt, hZt, hB0, hB1⟩, ⟨hf1, hf2, hf3, hf4⟩, hin, hHR, hHX⟩ := id C
  refine lv_bipush (v := Int32.ofInt x) hx hb hd (z_i8 h1 h2) ?_
  exact k p e R s m args below meth c QW C H locs ls hP hS hL (zStk_c.mpr ⟨⟨⟨by omega, by omega⟩, by simp⟩, hSt⟩) a1 a2 a3
theorem zs_sipush {l : Launch} {G : zG} {md d : Nat} {h : zHdr} {n0 : Nat} {Q : Int → zH → Prop} {QX : Nat → zH → Prop} {pc : Nat} {L st : List zV} {v : zH} {n : Nat} {x : Int} (hd : decode (hB h) pc = .ok (.sipush x, 3)) (h1 : -32768 ≤ x) (h2 : x ≤ 32767) (k : zJp l G md d h n0 Q QX (pc + 3) L ((0, x) :: st) v n) : zJp l G md d h n0 Q QX pc L st v n := by
  intro p e R s m args below meth c QW C H locs ls hP hS hL hSt a1 a2 a3
  obtain ⟨⟨hx, hb, hml, hown, hts⟩, ⟨hKt, hZt, hB0, hB1⟩, ⟨hf1, hf2, hf3, hf4⟩, hin, hHR, hHX⟩ := id C
  refine lv_sipush (v := Int32.ofInt x) hx hb hd (z_i16 h1 h2) ?_
  exact k p e R s m args below meth c QW C H locs ls hP hS hL (zStk_c.mpr ⟨⟨⟨by omega, by omega⟩, by simp⟩, hSt⟩) a1 a2 a3
theorem zs_lconst {l : Launch} {G : zG} {md d : Nat} {h : zHdr} {n0 : Nat} {Q : Int → zH → Prop} {QX : Nat → zH → Prop} {pc : Nat} {L st : List zV} {v : zH} {n : Nat} {f : Fin 2} (hd : decode (hB h) pc = .ok (.lconst f, 1)) (k : zJp l G md d h n0 Q QX (pc + 1) L ((1, ((f : Nat) : Int)) :: st) v n) : zJp l G md d h n0 Q QX pc L st v n := by
  intro p e R s m args below meth c QW C H locs ls hP hS hL hSt a1 a2 a3
  obtain ⟨⟨hx, hb, hml, hown, hts⟩, ⟨hKt, hZt, hB0, hB1⟩, ⟨hf1, hf2, hf3, hf4⟩, hin, hHR, hHX⟩ := id C
  refine lv_lconst (v := Int64.ofInt ((f : Nat) : Int)) hx hb hd rfl ?_
  exact k p e R s m args below meth c QW C H locs ls hP hS hL (zStk_c.mpr ⟨⟨⟨by omega, by omega⟩, by simp⟩, hSt⟩) a1 a2 a3
theorem zs_ldc {l : Launch} {G : zG} {md d : Nat} {h : zHdr} {n0 : Nat} {Q : Int → zH → Prop} {QX : Nat → zH → Prop} {pc : Nat} {L st : List zV} {v : zH} {n : Nat} {i : Nat} {x : Int} (hd : decode (hB h) pc = .ok (.ldc i, 2)) (hw : Jvm.Cond.constant (hO h) i (Int32.ofInt x) ∈ zws) (hx0 : zI x) (k : zJp l G md d h n0 Q QX (pc + 2) L ((0, x) :: st) v n) : zJp l G md d h n0 Q QX pc L st v n := by
  intro p e R s m args below meth c QW C H locs ls hP hS hL hSt a1 a2 a3
  obtain ⟨⟨hx, hb, hml, hown, hts⟩, ⟨hKt, hZt, hB0, hB1⟩, ⟨hf1, hf2, hf3, hf4⟩, hin, hHR, hHX⟩ := id C
  refine lv_ldc (v := Int32.ofInt x) hx hb hown (hts _ hw) hd ?_
  exact k p e R s m args below meth c QW C H locs ls hP hS hL (zStk_c.mpr ⟨⟨hx0, by simp⟩, hSt⟩) a1 a2 a3
theorem zs_ldcw {l : Launch} {G : zG} {md d : Nat} {h : zHdr} {n0 : Nat} {Q : Int → zH → Prop} {QX : Nat → zH → Prop} {pc : Nat} {L st : List zV} {v : zH} {n : Nat} {i : Nat} {x : Int} (hd : decode (hB h) pc = .ok (.ldc_w i, 3)) (hw : Jvm.Cond.constant (hO h) i (Int32.ofInt x) ∈ zws) (hx0 : zI x) (k : zJp l G md d h n0 Q QX (pc + 3) L ((0, x) :: st) v n) : zJp l G md d h n0 Q QX pc L st v n := by
  intro p e R s m args below meth c QW C H locs ls hP hS hL hSt a1 a2 a3
  obtain ⟨⟨hx, hb, hml, hown, hts⟩, ⟨hKt, hZt, hB0, hB1⟩, ⟨hf1, hf2, hf3, hf4⟩, hin, hHR, hHX⟩ := id C
  refine lv_ldcw (v := Int32.ofInt x) hx hb hown (hts _ hw) hd ?_
  exact k p e R s m args below meth c QW C H locs ls hP hS hL (zStk_c.mpr ⟨⟨hx0, by simp⟩, hSt⟩) a1 a2 a3
theorem zs_ldc2 {l : Launch} {G : zG} {md d : Nat} {h : zHdr} {n0 : Nat} {Q : Int → zH → Prop} {QX : Nat → zH → Prop} {pc : Nat} {L st : List zV} {v : zH} {n : Nat} {i : Nat} {x : Int} (hd : decode (hB h) pc = .ok (.ldc2_w i, 3)) (hw : Jvm.Cond.constantLong (hO h) i (Int64.ofInt x) ∈ zws) (hx0 : zI x) (k : zJp l G md d h n0 Q QX (pc + 3) L ((1, x) :: st) v n) : zJp l G md d h n0 Q QX pc L st v n := by
  intro p e R s m args below meth c QW C H locs ls hP hS hL hSt a1 a2 a3
  obtain ⟨⟨hx, hb, hml, hown, hts⟩, ⟨hKt, hZt, hB0, hB1⟩, ⟨hf1, hf2, hf3, hf4⟩, hin, hHR, hHX⟩ := id C
  refine lv_ldc2 (v := Int64.ofInt x) hx hb hown (hts _ hw) hd ?_
  exact k p e R s m args below meth c QW C H locs ls hP hS hL (zStk_c.mpr ⟨⟨⟨by have := hx0.1; omega, by have := hx0.2; omega⟩, by simp⟩, hSt⟩) a1 a2 a3
theorem zs_ldcS {l : Launch} {G : zG} {md d : Nat} {h : zHdr} {n0 : Nat} {Q : Int → zH → Prop} {QX : Nat → zH → Prop} {pc : Nat} {L st : List zV} {v : zH} {n : Nat} {i : Nat} {x : Int} {tx : String} (hd : decode (hB h) pc = .ok (.ldc i, 2)) (hZ : ∀ U H, zSt G U H → vk_R (hO h) i tx (zgA G x) U) (hx0 : -40 ≤ x ∧ x < 0) (k : zJp l G md d h n0 Q QX (pc + 2) L ((2, x) :: st) v n) : zJp l G md d h n0 Q QX pc L st v n := by
  intro p e R s m args below meth c QW C H locs ls hP hS hL hSt a1 a2 a3
  obtain ⟨⟨hx, hb, hml, hown, hts⟩, ⟨hKt, hZt, hB0, hB1⟩, ⟨hf1, hf2, hf3, hf4⟩, hin, hHR, hHX⟩ := id C
  refine va_ldcS (q := zgA G x) hx hb hown (hZ _ _ hZt) hd ?_
  rw [show (Value.ref (zgA G x)) = zc G (2, x) by rw [zc_ref (by omega)]; simp [zad, hx0.2]]
  exact k p e R s m args below meth c QW C H locs ls hP hS hL (zStk_c.mpr ⟨⟨⟨hx0.1, by omega⟩, by simp⟩, hSt⟩) a1 a2 a3
theorem zs_iload {l : Launch} {G : zG} {md d : Nat} {h : zHdr} {n0 : Nat} {Q : Int → zH → Prop} {QX : Nat → zH → Prop} {pc : Nat} {L st : List zV} {v : zH} {n : Nat} {i : Nat} {x : Int} (hd : decode (hB h) pc = .ok (.iload i, 2)) (hl : L[i]? = some (0, x)) (k : zJp l G md d h n0 Q QX (pc + 2) L ((0, x) :: st) v n) : zJp l G md d h n0 Q QX pc L st v n := by
  intro p e R s m args below meth c QW C H locs ls hP hS hL hSt a1 a2 a3
  obtain ⟨⟨hx, hb, hml, hown, hts⟩, ⟨hKt, hZt, hB0, hB1⟩, ⟨hf1, hf2, hf3, hf4⟩, hin, hHR, hHX⟩ := id C
  refine lv_iload hx hb hd (hL.2.2 i 0 x hl (by decide)).1 ?_
  exact k p e R s m args below meth c QW C H locs ls hP hS hL (zStk_c.mpr ⟨⟨(hL.2.2 i 0 x hl (by decide)).2, by simp⟩, hSt⟩) a1 a2 a3
theorem zs_iload_n {l : Launch} {G : zG} {md d : Nat} {h : zHdr} {n0 : Nat} {Q : Int → zH → Prop} {QX : Nat → zH → Prop} {pc : Nat} {L st : List zV} {v : zH} {n : Nat} {i : Fin 4} {x : Int} (hd : decode (hB h) pc = .ok (.iload_n i, 1)) (hl : L[(i : Nat)]? = some (0, x)) (k : zJp l G md d h n0 Q QX (pc + 1) L ((0, x) :: st) v n) : zJp l G md d h n0 Q QX pc L st v n := by
  intro p e R s m args below meth c QW C H locs ls hP hS hL hSt a1 a2 a3
  obtain ⟨⟨hx, hb, hml, hown, hts⟩, ⟨hKt, hZt, hB0, hB1⟩, ⟨hf1, hf2, hf3, hf4⟩, hin, hHR, hHX⟩ := id C
  refine lv_iload_n hx hb hd rfl (hL.2.2 i 0 x hl (by decide)).1 ?_
  exact k p e R s m args below meth c QW C H locs ls hP hS hL (zStk_c.mpr ⟨⟨(hL.2.2 i 0 x hl (by decide)).2, by simp⟩, hSt⟩) a1 a2 a3
theorem zs_lload {l : Launch} {G : zG} {md d : Nat} {h : zHdr} {n0 : Nat} {Q : Int → zH → Prop} {QX : Nat → zH → Prop} {pc : Nat} {L st : List zV} {v : zH} {n : Nat} {i : Nat} {x : Int} (hd : decode (hB h) pc = .ok (.lload i, 2)) (hl : L[i]? = some (1, x)) (k : zJp l G md d h n0 Q QX (pc + 2) L ((1, x) :: st) v n) : zJp l G md d h n0 Q QX pc L st v n := by
  intro p e R s m args below meth c QW C H locs ls hP hS hL hSt a1 a2 a3
  obtain ⟨⟨hx, hb, hml, hown, hts⟩, ⟨hKt, hZt, hB0, hB1⟩, ⟨hf1, hf2, hf3, hf4⟩, hin, hHR, hHX⟩ := id C
  refine lv_lload hx hb hd (hL.2.2 i 1 x hl (by decide)).1 ?_
  exact k p e R s m args below meth c QW C H locs ls hP hS hL (zStk_c.mpr ⟨⟨(hL.2.2 i 1 x hl (by decide)).2, by simp⟩, hSt⟩) a1 a2 a3
theorem zs_lload_n {l : Launch} {G : zG} {md d : Nat} {h : zHdr} {n0 : Nat} {Q : Int → zH → Prop} {QX : Nat → zH → Prop} {pc : Nat} {L st : List zV} {v : zH} {n : Nat} {i : Fin 4} {x : Int} (hd : decode (hB h) pc = .ok (.lload_n i, 1)) (hl : L[(i : Nat)]? = some (1, x)) (k : zJp l G md d h n0 Q QX (pc + 1) L ((1, x) :: st) v n) : zJp l G md d h n0 Q QX pc L st v n := by
  intro p e R s m args below meth c QW C H locs ls hP hS hL hSt a1 a2 a3
  obtain ⟨⟨hx, hb, hml, hown, hts⟩, ⟨hKt, hZt, hB0, hB1⟩, ⟨hf1, hf2, hf3, hf4⟩, hin, hHR, hHX⟩ := id C
  refine lv_lload_n hx hb hd rfl (hL.2.2 i 1 x hl (by decide)).1 ?_
  exact k p e R s m args below meth c QW C H locs ls hP hS hL (zStk_c.mpr ⟨⟨(hL.2.2 i 1 x hl (by decide)).2, by simp⟩, hSt⟩) a1 a2 a3
theorem zs_aload {l : Launch} {G : zG} {md d : Nat} {h : zHdr} {n0 : Nat} {Q : Int → zH → Prop} {QX : Nat → zH → Prop} {pc : Nat} {L st : List zV} {v : zH} {n : Nat} {i : Nat} {x : Int} (hd : decode (hB h) pc = .ok (.aload i, 2)) (hl : L[i]? = some (2, x)) (k : zJp l G md d h n0 Q QX (pc + 2) L ((2, x) :: st) v n) : zJp l G md d h n0 Q QX pc L st v n := by
  intro p e R s m args below meth c QW C H locs ls hP hS hL hSt a1 a2 a3
  obtain ⟨⟨hx, hb, hml, hown, hts⟩, ⟨hKt, hZt, hB0, hB1⟩, ⟨hf1, hf2, hf3, hf4⟩, hin, hHR, hHX⟩ := id C
  have hg := hL.2.2 i 2 x hl (by decide)
  rw [zc_ref (zRg_ref hg.2)] at hg
  refine lv_aload hx hb hd hg.1 ?_
  rw [← zc_ref (G := G) (zRg_ref hg.2)]
  exact k p e R s m args below meth c QW C H locs ls hP hS hL (zStk_c.mpr ⟨⟨hg.2, by simp⟩, hSt⟩) a1 a2 a3
theorem zs_aload_n {l : Launch} {G : zG} {md d : Nat} {h : zHdr} {n0 : Nat} {Q : Int → zH → Prop} {QX : Nat → zH → Prop} {pc : Nat} {L st : List zV} {v : zH} {n : Nat} {i : Fin 4} {x : Int} (hd : decode (hB h) pc = .ok (.aload_n i, 1)) (hl : L[(i : Nat)]? = some (2, x)) (k : zJp l G md d h n0 Q QX (pc + 1) L ((2, x) :: st) v n) : zJp l G md d h n0 Q QX pc L st v n := by
  intro p e R s m args below meth c QW C H locs ls hP hS hL hSt a1 a2 a3
  obtain ⟨⟨hx, hb, hml, hown, hts⟩, ⟨hKt, hZt, hB0, hB1⟩, ⟨hf1, hf2, hf3, hf4⟩, hin, hHR, hHX⟩ := id C
  have hg := hL.2.2 i 2 x hl (by decide)
  rw [zc_ref (zRg_ref hg.2)] at hg
  refine lv_aload_n hx hb hd rfl hg.1 ?_
  rw [← zc_ref (G := G) (zRg_ref hg.2)]
  exact k p e R s m args below meth c QW C H locs ls hP hS hL (zStk_c.mpr ⟨⟨hg.2, by simp⟩, hSt⟩) a1 a2 a3
theorem zs_istore {l : Launch} {G : zG} {md d : Nat} {h : zHdr} {n0 : Nat} {Q : Int → zH → Prop} {QX : Nat → zH → Prop} {pc : Nat} {L r : List zV} {v : zH} {n : Nat} {i : Nat} {x : Int} (hd : decode (hB h) pc = .ok (.istore i, 2)) (hlen : i < L.length) (hLL : L.length = hL h) (hp : zpl L i = false) (k : zJp l G md d h n0 Q QX (pc + 2) (L.set i (0, x)) r v n) : zJp l G md d h n0 Q QX pc L ((0, x) :: r) v n := by
  intro p e R s m args below meth c QW C H locs ls hP hS hL hSt a1 a2 a3
  obtain ⟨⟨hx, hb, hml, hown, hts⟩, ⟨hKt, hZt, hB0, hB1⟩, ⟨hf1, hf2, hf3, hf4⟩, hin, hHR, hHX⟩ := id C
  have hq := (zStk_c.mp hSt).1.1
  show W p l e R s m args below meth c H locs (n - n0) (zSZ n - zSZ n0) QW (F0 m pc ls (.int (Int32.ofInt x) :: r.map (zc G)))
  refine lv_istore hx hb hd (zlist_has hL) (by have := hlen; omega) rfl (fun ls2 h2 => ?_)
  have hL2 := zLs_set1 hp (by have := hlen; omega) hq (rfl) hL h2
  exact k p e R s m args below meth c QW C H locs ls2 hP hS hL2 (zStk_c.mp hSt).2 a1 a2 a3
theorem zs_istore_n {l : Launch} {G : zG} {md d : Nat} {h : zHdr} {n0 : Nat} {Q : Int → zH → Prop} {QX : Nat → zH → Prop} {pc : Nat} {L r : List zV} {v : zH} {n : Nat} {i : Fin 4} {x : Int} (hd : decode (hB h) pc = .ok (.istore_n i, 1)) (hlen : (i : Nat) < L.length) (hLL : L.length = hL h) (hp : zpl L (i : Nat) = false) (k : zJp l G md d h n0 Q QX (pc + 1) (L.set (i : Nat) (0, x)) r v n) : zJp l G md d h n0 Q QX pc L ((0, x) :: r) v n := by
  intro p e R s m args below meth c QW C H locs ls hP hS hL hSt a1 a2 a3
  obtain ⟨⟨hx, hb, hml, hown, hts⟩, ⟨hKt, hZt, hB0, hB1⟩, ⟨hf1, hf2, hf3, hf4⟩, hin, hHR, hHX⟩ := id C
  have hq := (zStk_c.mp hSt).1.1
  show W p l e R s m args below meth c H locs (n - n0) (zSZ n - zSZ n0) QW (F0 m pc ls (.int (Int32.ofInt x) :: r.map (zc G)))
  refine lv_istore_n hx hb hd rfl (zlist_has hL) (by have := hlen; omega) rfl (fun ls2 h2 => ?_)
  have hL2 := zLs_set1 hp (by have := hlen; omega) hq (rfl) hL h2
  exact k p e R s m args below meth c QW C H locs ls2 hP hS hL2 (zStk_c.mp hSt).2 a1 a2 a3
theorem zs_astore {l : Launch} {G : zG} {md d : Nat} {h : zHdr} {n0 : Nat} {Q : Int → zH → Prop} {QX : Nat → zH → Prop} {pc : Nat} {L r : List zV} {v : zH} {n : Nat} {i : Nat} {x : Int} (hd : decode (hB h) pc = .ok (.astore i, 2)) (hlen : i < L.length) (hLL : L.length = hL h) (hp : zpl L i = false) (k : zJp l G md d h n0 Q QX (pc + 2) (L.set i (2, x)) r v n) : zJp l G md d h n0 Q QX pc L ((2, x) :: r) v n := by
  intro p e R s m args below meth c QW C H locs ls hP hS hL hSt a1 a2 a3
  obtain ⟨⟨hx, hb, hml, hown, hts⟩, ⟨hKt, hZt, hB0, hB1⟩, ⟨hf1, hf2, hf3, hf4⟩, hin, hHR, hHX⟩ := id C
  have hq := (zStk_c.mp hSt).1.1
  show W p l e R s m args below meth c H locs (n - n0) (zSZ n - zSZ n0) QW (F0 m pc ls (zc G (2, x) :: r.map (zc G)))
  rw [zc_ref (zRg_ref hq)]
  refine lv_astore hx hb hd (zlist_has hL) (by have := hlen; omega) rfl (fun ls2 h2 => ?_)
  have hL2 := zLs_set1 hp (by have := hlen; omega) hq ((zc_ref (zRg_ref hq)).symm) hL h2
  exact k p e R s m args below meth c QW C H locs ls2 hP hS hL2 (zStk_c.mp hSt).2 a1 a2 a3
theorem zs_astore_n {l : Launch} {G : zG} {md d : Nat} {h : zHdr} {n0 : Nat} {Q : Int → zH → Prop} {QX : Nat → zH → Prop} {pc : Nat} {L r : List zV} {v : zH} {n : Nat} {i : Fin 4} {x : Int} (hd : decode (hB h) pc = .ok (.astore_n i, 1)) (hlen : (i : Nat) < L.length) (hLL : L.length = hL h) (hp : zpl L (i : Nat) = false) (k : zJp l G md d h n0 Q QX (pc + 1) (L.set (i : Nat) (2, x)) r v n) : zJp l G md d h n0 Q QX pc L ((2, x) :: r) v n := by
  intro p e R s m args below meth c QW C H locs ls hP hS hL hSt a1 a2 a3
  obtain ⟨⟨hx, hb, hml, hown, hts⟩, ⟨hKt, hZt, hB0, hB1⟩, ⟨hf1, hf2, hf3, hf4⟩, hin, hHR, hHX⟩ := id C
  have hq := (zStk_c.mp hSt).1.1
  show W p l e R s m args below meth c H locs (n - n0) (zSZ n - zSZ n0) QW (F0 m pc ls (zc G (2, x) :: r.map (zc G)))
  rw [zc_ref (zRg_ref hq)]
  refine lv_astore_n hx hb hd rfl (zlist_has hL) (by have := hlen; omega) rfl (fun ls2 h2 => ?_)
  have hL2 := zLs_set1 hp (by have := hlen; omega) hq ((zc_ref (zRg_ref hq)).symm) hL h2
  exact k p e R s m args below meth c QW C H locs ls2 hP hS hL2 (zStk_c.mp hSt).2 a1 a2 a3
theorem zs_lstore {l : Launch} {G : zG} {md d : Nat} {h : zHdr} {n0 : Nat} {Q : Int → zH → Prop} {QX : Nat → zH → Prop} {pc : Nat} {L r : List zV} {v : zH} {n : Nat} {i : Nat} {x : Int} (hd : decode (hB h) pc = .ok (.lstore i, 2)) (hlen : i + 1 < L.length) (hLL : L.length = hL h) (hp : zpl L i = false) (k : zJp l G md d h n0 Q QX (pc + 2) ((L.set i (1, x)).set (i + 1) (3, 0)) r v n) : zJp l G md d h n0 Q QX pc L ((1, x) :: r) v n := by
  intro p e R s m args below meth c QW C H locs ls hP hS hL hSt a1 a2 a3
  obtain ⟨⟨hx, hb, hml, hown, hts⟩, ⟨hKt, hZt, hB0, hB1⟩, ⟨hf1, hf2, hf3, hf4⟩, hin, hHR, hHX⟩ := id C
  have hq := (zStk_c.mp hSt).1.1
  show W p l e R s m args below meth c H locs (n - n0) (zSZ n - zSZ n0) QW (F0 m pc ls (.long (Int64.ofInt x) :: r.map (zc G)))
  refine lv_lstore hx hb hd (zlist_has hL) (by have := hlen; omega) rfl (fun ls2 h2 => ?_)
  have hL2 := zLs_set2 hp (by have := hlen; omega) hq hL h2
  exact k p e R s m args below meth c QW C H locs ls2 hP hS hL2 (zStk_c.mp hSt).2 a1 a2 a3
theorem zs_lstore_n {l : Launch} {G : zG} {md d : Nat} {h : zHdr} {n0 : Nat} {Q : Int → zH → Prop} {QX : Nat → zH → Prop} {pc : Nat} {L r : List zV} {v : zH} {n : Nat} {i : Fin 4} {x : Int} (hd : decode (hB h) pc = .ok (.lstore_n i, 1)) (hlen : (i : Nat) + 1 < L.length) (hLL : L.length = hL h) (hp : zpl L (i : Nat) = false) (k : zJp l G md d h n0 Q QX (pc + 1) ((L.set (i : Nat) (1, x)).set ((i : Nat) + 1) (3, 0)) r v n) : zJp l G md d h n0 Q QX pc L ((1, x) :: r) v n := by
  intro p e R s m args below meth c QW C H locs ls hP hS hL hSt a1 a2 a3
  obtain ⟨⟨hx, hb, hml, hown, hts⟩, ⟨hKt, hZt, hB0, hB1⟩, ⟨hf1, hf2, hf3, hf4⟩, hin, hHR, hHX⟩ := id C
  have hq := (zStk_c.mp hSt).1.1
  show W p l e R s m args below meth c H locs (n - n0) (zSZ n - zSZ n0) QW (F0 m pc ls (.long (Int64.ofInt x) :: r.map (zc G)))
  refine lv_lstore_n hx hb hd rfl (zlist_has hL) (by have := hlen; omega) rfl (fun ls2 h2 => ?_)
  have hL2 := zLs_set2 hp (by have := hlen; omega) hq hL h2
  exact k p e R s m args below meth c QW C H locs ls2 hP hS hL2 (zStk_c.mp hSt).2 a1 a2 a3
theorem zs_iinc {l : Launch} {G : zG} {md d : Nat} {h : zHdr} {n0 : Nat} {Q : Int → zH → Prop} {QX : Nat → zH → Prop} {pc : Nat} {L st : List zV} {v : zH} {n : Nat} {i : Nat} {x b : Int} (hd : decode (hB h) pc = .ok (.iinc i b, 3)) (hl : L[i]? = some (0, x)) (hLL : L.length = hL h) (hp : zpl L i = false) (hx0 : zI (x + b)) (k : zJp l G md d h n0 Q QX (pc + 3) (L.set i (0, x + b)) st v n) : zJp l G md d h n0 Q QX pc L st v n := by
  intro p e R s m args below meth c QW C H locs ls hP hS hL hSt a1 a2 a3
  obtain ⟨⟨hx, hb, hml, hown, hts⟩, ⟨hKt, hZt, hB0, hB1⟩, ⟨hf1, hf2, hf3, hf4⟩, hin, hHR, hHX⟩ := id C
  have hlen := (List.getElem?_eq_some_iff.mp hl).1
  obtain ⟨k0, hk0⟩ := List.getElem?_of_mem (zlist_mem (G := G) hl (by decide))
  refine lv_iinc (v := Int32.ofInt (x + b)) (k := k0) (x := Int32.ofInt x) hx hb hd (zlist_has hL) hk0 (by rw [Int32.ofInt_add]) (by omega) rfl (fun ls2 h2 => ?_)
  have hL2 := zLs_set1 (t := 0) hp hlen hx0 rfl hL h2
  exact k p e R s m args below meth c QW C H locs ls2 hP hS hL2 hSt a1 a2 a3
theorem zs_iadd {l : Launch} {G : zG} {md d : Nat} {h : zHdr} {n0 : Nat} {Q : Int → zH → Prop} {QX : Nat → zH → Prop} {pc : Nat} {L r : List zV} {v : zH} {n : Nat} {x y : Int} (hd : decode (hB h) pc = .ok (.iadd, 1)) (hq0 : zI (x + y)) (k : zJp l G md d h n0 Q QX (pc + 1) L ((0, x + y) :: r) v n) : zJp l G md d h n0 Q QX pc L ((0, y) :: (0, x) :: r) v n := by
  intro p e R s m args below meth c QW C H locs ls hP hS hL hSt a1 a2 a3
  obtain ⟨⟨hx, hb, hml, hown, hts⟩, ⟨hKt, hZt, hB0, hB1⟩, ⟨hf1, hf2, hf3, hf4⟩, hin, hHR, hHX⟩ := id C
  obtain ⟨⟨hy, -⟩, hSt1⟩ := zStk_c.mp hSt
  obtain ⟨⟨hxx, -⟩, hSt2⟩ := zStk_c.mp hSt1
  show W p l e R s m args below meth c H locs (n - n0) (zSZ n - zSZ n0) QW (F0 m pc ls (.int (Int32.ofInt y) :: .int (Int32.ofInt x) :: r.map (zc G)))
  refine lv_iadd hx hb hd ?_
  rw [← Int32.ofInt_add]
  exact k p e R s m args below meth c QW C H locs ls hP hS hL (zStk_c.mpr ⟨⟨hq0, by simp⟩, hSt2⟩) a1 a2 a3
theorem zs_isub {l : Launch} {G : zG} {md d : Nat} {h : zHdr} {n0 : Nat} {Q : Int → zH → Prop} {QX : Nat → zH → Prop} {pc : Nat} {L r : List zV} {v : zH} {n : Nat} {x y : Int} (hd : decode (hB h) pc = .ok (.isub, 1)) (hq0 : zI (x - y)) (k : zJp l G md d h n0 Q QX (pc + 1) L ((0, x - y) :: r) v n) : zJp l G md d h n0 Q QX pc L ((0, y) :: (0, x) :: r) v n := by
  intro p e R s m args below meth c QW C H locs ls hP hS hL hSt a1 a2 a3
  obtain ⟨⟨hx, hb, hml, hown, hts⟩, ⟨hKt, hZt, hB0, hB1⟩, ⟨hf1, hf2, hf3, hf4⟩, hin, hHR, hHX⟩ := id C
  obtain ⟨⟨hy, -⟩, hSt1⟩ := zStk_c.mp hSt
  obtain ⟨⟨hxx, -⟩, hSt2⟩ := zStk_c.mp hSt1
  show W p l e R s m args below meth c H locs (n - n0) (zSZ n - zSZ n0) QW (F0 m pc ls (.int (Int32.ofInt y) :: .int (Int32.ofInt x) :: r.map (zc G)))
  refine lv_isub hx hb hd ?_
  rw [← Int32.ofInt_sub]
  exact k p e R s m args below meth c QW C H locs ls hP hS hL (zStk_c.mpr ⟨⟨hq0, by simp⟩, hSt2⟩) a1 a2 a3
theorem zs_imul {l : Launch} {G : zG} {md d : Nat} {h : zHdr} {n0 : Nat} {Q : Int → zH → Prop} {QX : Nat → zH → Prop} {pc : Nat} {L r : List zV} {v : zH} {n : Nat} {x y : Int} (hd : decode (hB h) pc = .ok (.imul, 1)) (hq0 : zI (x * y)) (k : zJp l G md d h n0 Q QX (pc + 1) L ((0, x * y) :: r) v n) : zJp l G md d h n0 Q QX pc L ((0, y) :: (0, x) :: r) v n := by
  intro p e R s m args below meth c QW C H locs ls hP hS hL hSt a1 a2 a3
  obtain ⟨⟨hx, hb, hml, hown, hts⟩, ⟨hKt, hZt, hB0, hB1⟩, ⟨hf1, hf2, hf3, hf4⟩, hin, hHR, hHX⟩ := id C
  obtain ⟨⟨hy, -⟩, hSt1⟩ := zStk_c.mp hSt
  obtain ⟨⟨hxx, -⟩, hSt2⟩ := zStk_c.mp hSt1
  show W p l e R s m args below meth c H locs (n - n0) (zSZ n - zSZ n0) QW (F0 m pc ls (.int (Int32.ofInt y) :: .int (Int32.ofInt x) :: r.map (zc G)))
  refine lv_imul hx hb hd ?_
  rw [← Int32.ofInt_mul]
  exact k p e R s m args below meth c QW C H locs ls hP hS hL (zStk_c.mpr ⟨⟨hq0, by simp⟩, hSt2⟩) a1 a2 a3
theorem zs_ladd {l : Launch} {G : zG} {md d : Nat} {h : zHdr} {n0 : Nat} {Q : Int → zH → Prop} {QX : Nat → zH → Prop} {pc : Nat} {L r : List zV} {v : zH} {n : Nat} {x y : Int} (hd : decode (hB h) pc = .ok (.ladd, 1)) (hq0 : zLg (x + y)) (k : zJp l G md d h n0 Q QX (pc + 1) L ((1, x + y) :: r) v n) : zJp l G md d h n0 Q QX pc L ((1, y) :: (1, x) :: r) v n := by
  intro p e R s m args below meth c QW C H locs ls hP hS hL hSt a1 a2 a3
  obtain ⟨⟨hx, hb, hml, hown, hts⟩, ⟨hKt, hZt, hB0, hB1⟩, ⟨hf1, hf2, hf3, hf4⟩, hin, hHR, hHX⟩ := id C
  obtain ⟨⟨hy, -⟩, hSt1⟩ := zStk_c.mp hSt
  obtain ⟨⟨hxx, -⟩, hSt2⟩ := zStk_c.mp hSt1
  show W p l e R s m args below meth c H locs (n - n0) (zSZ n - zSZ n0) QW (F0 m pc ls (.long (Int64.ofInt y) :: .long (Int64.ofInt x) :: r.map (zc G)))
  refine lv_ladd hx hb hd ?_
  rw [← Int64.ofInt_add]
  exact k p e R s m args below meth c QW C H locs ls hP hS hL (zStk_c.mpr ⟨⟨hq0, by simp⟩, hSt2⟩) a1 a2 a3
theorem zs_lsub {l : Launch} {G : zG} {md d : Nat} {h : zHdr} {n0 : Nat} {Q : Int → zH → Prop} {QX : Nat → zH → Prop} {pc : Nat} {L r : List zV} {v : zH} {n : Nat} {x y : Int} (hd : decode (hB h) pc = .ok (.lsub, 1)) (hq0 : zLg (x - y)) (k : zJp l G md d h n0 Q QX (pc + 1) L ((1, x - y) :: r) v n) : zJp l G md d h n0 Q QX pc L ((1, y) :: (1, x) :: r) v n := by
  intro p e R s m args below meth c QW C H locs ls hP hS hL hSt a1 a2 a3
  obtain ⟨⟨hx, hb, hml, hown, hts⟩, ⟨hKt, hZt, hB0, hB1⟩, ⟨hf1, hf2, hf3, hf4⟩, hin, hHR, hHX⟩ := id C
  obtain ⟨⟨hy, -⟩, hSt1⟩ := zStk_c.mp hSt
  obtain ⟨⟨hxx, -⟩, hSt2⟩ := zStk_c.mp hSt1
  show W p l e R s m args below meth c H locs (n - n0) (zSZ n - zSZ n0) QW (F0 m pc ls (.long (Int64.ofInt y) :: .long (Int64.ofInt x) :: r.map (zc G)))
  refine lv_lsub hx hb hd ?_
  rw [← Int64.ofInt_sub]
  exact k p e R s m args below meth c QW C H locs ls hP hS hL (zStk_c.mpr ⟨⟨hq0, by simp⟩, hSt2⟩) a1 a2 a3
theorem zs_lmul {l : Launch} {G : zG} {md d : Nat} {h : zHdr} {n0 : Nat} {Q : Int → zH → Prop} {QX : Nat → zH → Prop} {pc : Nat} {L r : List zV} {v : zH} {n : Nat} {x y : Int} (hd : decode (hB h) pc = .ok (.lmul, 1)) (hq0 : zLg (x * y)) (k : zJp l G md d h n0 Q QX (pc + 1) L ((1, x * y) :: r) v n) : zJp l G md d h n0 Q QX pc L ((1, y) :: (1, x) :: r) v n := by
  intro p e R s m args below meth c QW C H locs ls hP hS hL hSt a1 a2 a3
  obtain ⟨⟨hx, hb, hml, hown, hts⟩, ⟨hKt, hZt, hB0, hB1⟩, ⟨hf1, hf2, hf3, hf4⟩, hin, hHR, hHX⟩ := id C
  obtain ⟨⟨hy, -⟩, hSt1⟩ := zStk_c.mp hSt
  obtain ⟨⟨hxx, -⟩, hSt2⟩ := zStk_c.mp hSt1
  show W p l e R s m args below meth c H locs (n - n0) (zSZ n - zSZ n0) QW (F0 m pc ls (.long (Int64.ofInt y) :: .long (Int64.ofInt x) :: r.map (zc G)))
  refine lv_lmul hx hb hd ?_
  rw [← Int64.ofInt_mul]
  exact k p e R s m args below meth c QW C H locs ls hP hS hL (zStk_c.mpr ⟨⟨hq0, by simp⟩, hSt2⟩) a1 a2 a3
theorem zs_idiv {l : Launch} {G : zG} {md d : Nat} {h : zHdr} {n0 : Nat} {Q : Int → zH → Prop} {QX : Nat → zH → Prop} {pc : Nat} {L r : List zV} {v : zH} {n : Nat} {x y : Int} (hd : decode (hB h) pc = .ok (.idiv, 1)) (hne : ¬ y = 0) (hq0 : zI (x.tdiv y)) (k : zJp l G md d h n0 Q QX (pc + 1) L ((0, x.tdiv y) :: r) v n) : zJp l G md d h n0 Q QX pc L ((0, y) :: (0, x) :: r) v n := by
  intro p e R s m args below meth c QW C H locs ls hP hS hL hSt a1 a2 a3
  obtain ⟨⟨hx, hb, hml, hown, hts⟩, ⟨hKt, hZt, hB0, hB1⟩, ⟨hf1, hf2, hf3, hf4⟩, hin, hHR, hHX⟩ := id C
  obtain ⟨⟨hy, -⟩, hSt1⟩ := zStk_c.mp hSt
  obtain ⟨⟨hxx, -⟩, hSt2⟩ := zStk_c.mp hSt1
  show W p l e R s m args below meth c H locs (n - n0) (zSZ n - zSZ n0) QW (F0 m pc ls (.int (Int32.ofInt y) :: .int (Int32.ofInt x) :: r.map (zc G)))
  refine lv_idiv hx hb hd (fun z => hne ((z32_0 hy).mp z)) ?_
  rw [z32_div hxx hy hq0]
  exact k p e R s m args below meth c QW C H locs ls hP hS hL (zStk_c.mpr ⟨⟨hq0, by simp⟩, hSt2⟩) a1 a2 a3
theorem zs_irem {l : Launch} {G : zG} {md d : Nat} {h : zHdr} {n0 : Nat} {Q : Int → zH → Prop} {QX : Nat → zH → Prop} {pc : Nat} {L r : List zV} {v : zH} {n : Nat} {x y : Int} (hd : decode (hB h) pc = .ok (.irem, 1)) (hne : ¬ y = 0) (hq0 : zI (x.tdiv y)) (k : zJp l G md d h n0 Q QX (pc + 1) L ((0, x.tmod y) :: r) v n) : zJp l G md d h n0 Q QX pc L ((0, y) :: (0, x) :: r) v n := by
  intro p e R s m args below meth c QW C H locs ls hP hS hL hSt a1 a2 a3
  obtain ⟨⟨hx, hb, hml, hown, hts⟩, ⟨hKt, hZt, hB0, hB1⟩, ⟨hf1, hf2, hf3, hf4⟩, hin, hHR, hHX⟩ := id C
  obtain ⟨⟨hy, -⟩, hSt1⟩ := zStk_c.mp hSt
  obtain ⟨⟨hxx, -⟩, hSt2⟩ := zStk_c.mp hSt1
  show W p l e R s m args below meth c H locs (n - n0) (zSZ n - zSZ n0) QW (F0 m pc ls (.int (Int32.ofInt y) :: .int (Int32.ofInt x) :: r.map (zc G)))
  refine lv_irem hx hb hd (fun z => hne ((z32_0 hy).mp z)) ?_
  rw [z32_rem hxx hy hq0]
  exact k p e R s m args below meth c QW C H locs ls hP hS hL (zStk_c.mpr ⟨⟨zI_mod hxx hne, by simp⟩, hSt2⟩) a1 a2 a3
theorem zs_ldiv {l : Launch} {G : zG} {md d : Nat} {h : zHdr} {n0 : Nat} {Q : Int → zH → Prop} {QX : Nat → zH → Prop} {pc : Nat} {L r : List zV} {v : zH} {n : Nat} {x y : Int} (hd : decode (hB h) pc = .ok (.ldiv, 1)) (hne : ¬ y = 0) (hq0 : zLg (x.tdiv y)) (k : zJp l G md d h n0 Q QX (pc + 1) L ((1, x.tdiv y) :: r) v n) : zJp l G md d h n0 Q QX pc L ((1, y) :: (1, x) :: r) v n := by
  intro p e R s m args below meth c QW C H locs ls hP hS hL hSt a1 a2 a3
  obtain ⟨⟨hx, hb, hml, hown, hts⟩, ⟨hKt, hZt, hB0, hB1⟩, ⟨hf1, hf2, hf3, hf4⟩, hin, hHR, hHX⟩ := id C
  obtain ⟨⟨hy, -⟩, hSt1⟩ := zStk_c.mp hSt
  obtain ⟨⟨hxx, -⟩, hSt2⟩ := zStk_c.mp hSt1
  show W p l e R s m args below meth c H locs (n - n0) (zSZ n - zSZ n0) QW (F0 m pc ls (.long (Int64.ofInt y) :: .long (Int64.ofInt x) :: r.map (zc G)))
  refine lv_ldiv hx hb hd (fun z => hne ((z64_inj (x := y) (y := 0) hy ⟨by omega, by omega⟩).mp (z.trans rfl))) ?_
  rw [z64_div hxx hy hq0]
  exact k p e R s m args below meth c QW C H locs ls hP hS hL (zStk_c.mpr ⟨⟨hq0, by simp⟩, hSt2⟩) a1 a2 a3
theorem zs_iand {l : Launch} {G : zG} {md d : Nat} {h : zHdr} {n0 : Nat} {Q : Int → zH → Prop} {QX : Nat → zH → Prop} {pc : Nat} {L r : List zV} {v : zH} {n : Nat} {x y : Int} (hd : decode (hB h) pc = .ok (.iand, 1)) (k : zJp l G md d h n0 Q QX (pc + 1) L ((0, zand x y) :: r) v n) : zJp l G md d h n0 Q QX pc L ((0, y) :: (0, x) :: r) v n := by
  intro p e R s m args below meth c QW C H locs ls hP hS hL hSt a1 a2 a3
  obtain ⟨⟨hx, hb, hml, hown, hts⟩, ⟨hKt, hZt, hB0, hB1⟩, ⟨hf1, hf2, hf3, hf4⟩, hin, hHR, hHX⟩ := id C
  obtain ⟨⟨hy, -⟩, hSt1⟩ := zStk_c.mp hSt
  obtain ⟨⟨hxx, -⟩, hSt2⟩ := zStk_c.mp hSt1
  show W p l e R s m args below meth c H locs (n - n0) (zSZ n - zSZ n0) QW (F0 m pc ls (.int (Int32.ofInt y) :: .int (Int32.ofInt x) :: r.map (zc G)))
  refine lv_iand hx hb hd ?_
  rw [← z32_of (Int32.ofInt x &&& Int32.ofInt y)]
  exact k p e R s m args below meth c QW C H locs ls hP hS hL (zStk_c.mpr ⟨⟨z32_I _, by simp⟩, hSt2⟩) a1 a2 a3
theorem zs_ior {l : Launch} {G : zG} {md d : Nat} {h : zHdr} {n0 : Nat} {Q : Int → zH → Prop} {QX : Nat → zH → Prop} {pc : Nat} {L r : List zV} {v : zH} {n : Nat} {x y : Int} (hd : decode (hB h) pc = .ok (.ior, 1)) (k : zJp l G md d h n0 Q QX (pc + 1) L ((0, zor x y) :: r) v n) : zJp l G md d h n0 Q QX pc L ((0, y) :: (0, x) :: r) v n := by
  intro p e R s m args below meth c QW C H locs ls hP hS hL hSt a1 a2 a3
  obtain ⟨⟨hx, hb, hml, hown, hts⟩, ⟨hKt, hZt, hB0, hB1⟩, ⟨hf1, hf2, hf3, hf4⟩, hin, hHR, hHX⟩ := id C
  obtain ⟨⟨hy, -⟩, hSt1⟩ := zStk_c.mp hSt
  obtain ⟨⟨hxx, -⟩, hSt2⟩ := zStk_c.mp hSt1
  show W p l e R s m args below meth c H locs (n - n0) (zSZ n - zSZ n0) QW (F0 m pc ls (.int (Int32.ofInt y) :: .int (Int32.ofInt x) :: r.map (zc G)))
  refine lv_ior hx hb hd ?_
  rw [← z32_of (Int32.ofInt x ||| Int32.ofInt y)]
  exact k p e R s m args below meth c QW C H locs ls hP hS hL (zStk_c.mpr ⟨⟨z32_I _, by simp⟩, hSt2⟩) a1 a2 a3
theorem zs_ixor {l : Launch} {G : zG} {md d : Nat} {h : zHdr} {n0 : Nat} {Q : Int → zH → Prop} {QX : Nat → zH → Prop} {pc : Nat} {L r : List zV} {v : zH} {n : Nat} {x y : Int} (hd : decode (hB h) pc = .ok (.ixor, 1)) (k : zJp l G md d h n0 Q QX (pc + 1) L ((0, zxor x y) :: r) v n) : zJp l G md d h n0 Q QX pc L ((0, y) :: (0, x) :: r) v n := by
  intro p e R s m args below meth c QW C H locs ls hP hS hL hSt a1 a2 a3
  obtain ⟨⟨hx, hb, hml, hown, hts⟩, ⟨hKt, hZt, hB0, hB1⟩, ⟨hf1, hf2, hf3, hf4⟩, hin, hHR, hHX⟩ := id C
  obtain ⟨⟨hy, -⟩, hSt1⟩ := zStk_c.mp hSt
  obtain ⟨⟨hxx, -⟩, hSt2⟩ := zStk_c.mp hSt1
  show W p l e R s m args below meth c H locs (n - n0) (zSZ n - zSZ n0) QW (F0 m pc ls (.int (Int32.ofInt y) :: .int (Int32.ofInt x) :: r.map (zc G)))
  refine lv_ixor hx hb hd ?_
  rw [← z32_of (Int32.ofInt x ^^^ Int32.ofInt y)]
  exact k p e R s m args below meth c QW C H locs ls hP hS hL (zStk_c.mpr ⟨⟨z32_I _, by simp⟩, hSt2⟩) a1 a2 a3
theorem zs_ishl {l : Launch} {G : zG} {md d : Nat} {h : zHdr} {n0 : Nat} {Q : Int → zH → Prop} {QX : Nat → zH → Prop} {pc : Nat} {L r : List zV} {v : zH} {n : Nat} {x y : Int} (hd : decode (hB h) pc = .ok (.ishl, 1)) (k : zJp l G md d h n0 Q QX (pc + 1) L ((0, zshl x y) :: r) v n) : zJp l G md d h n0 Q QX pc L ((0, y) :: (0, x) :: r) v n := by
  intro p e R s m args below meth c QW C H locs ls hP hS hL hSt a1 a2 a3
  obtain ⟨⟨hx, hb, hml, hown, hts⟩, ⟨hKt, hZt, hB0, hB1⟩, ⟨hf1, hf2, hf3, hf4⟩, hin, hHR, hHX⟩ := id C
  obtain ⟨⟨hy, -⟩, hSt1⟩ := zStk_c.mp hSt
  obtain ⟨⟨hxx, -⟩, hSt2⟩ := zStk_c.mp hSt1
  show W p l e R s m args below meth c H locs (n - n0) (zSZ n - zSZ n0) QW (F0 m pc ls (.int (Int32.ofInt y) :: .int (Int32.ofInt x) :: r.map (zc G)))
  refine lv_ishl hx hb hd ?_
  rw [← z32_of (Int32.ofInt x <<< (Int32.ofInt y &&& 31))]
  exact k p e R s m args below meth c QW C H locs ls hP hS hL (zStk_c.mpr ⟨⟨z32_I _, by simp⟩, hSt2⟩) a1 a2 a3
theorem zs_ishr {l : Launch} {G : zG} {md d : Nat} {h : zHdr} {n0 : Nat} {Q : Int → zH → Prop} {QX : Nat → zH → Prop} {pc : Nat} {L r : List zV} {v : zH} {n : Nat} {x y : Int} (hd : decode (hB h) pc = .ok (.ishr, 1)) (k : zJp l G md d h n0 Q QX (pc + 1) L ((0, zshr x y) :: r) v n) : zJp l G md d h n0 Q QX pc L ((0, y) :: (0, x) :: r) v n := by
  intro p e R s m args below meth c QW C H locs ls hP hS hL hSt a1 a2 a3
  obtain ⟨⟨hx, hb, hml, hown, hts⟩, ⟨hKt, hZt, hB0, hB1⟩, ⟨hf1, hf2, hf3, hf4⟩, hin, hHR, hHX⟩ := id C
  obtain ⟨⟨hy, -⟩, hSt1⟩ := zStk_c.mp hSt
  obtain ⟨⟨hxx, -⟩, hSt2⟩ := zStk_c.mp hSt1
  show W p l e R s m args below meth c H locs (n - n0) (zSZ n - zSZ n0) QW (F0 m pc ls (.int (Int32.ofInt y) :: .int (Int32.ofInt x) :: r.map (zc G)))
  refine lv_ishr hx hb hd ?_
  rw [← z32_of (Int32.ofInt x >>> (Int32.ofInt y &&& 31))]
  exact k p e R s m args below meth c QW C H locs ls hP hS hL (zStk_c.mpr ⟨⟨z32_I _, by simp⟩, hSt2⟩) a1 a2 a3
theorem zs_iushr {l : Launch} {G : zG} {md d : Nat} {h : zHdr} {n0 : Nat} {Q : Int → zH → Prop} {QX : Nat → zH → Prop} {pc : Nat} {L r : List zV} {v : zH} {n : Nat} {x y : Int} (hd : decode (hB h) pc = .ok (.iushr, 1)) (k : zJp l G md d h n0 Q QX (pc + 1) L ((0, zushr x y) :: r) v n) : zJp l G md d h n0 Q QX pc L ((0, y) :: (0, x) :: r) v n := by
  intro p e R s m args below meth c QW C H locs ls hP hS hL hSt a1 a2 a3
  obtain ⟨⟨hx, hb, hml, hown, hts⟩, ⟨hKt, hZt, hB0, hB1⟩, ⟨hf1, hf2, hf3, hf4⟩, hin, hHR, hHX⟩ := id C
  obtain ⟨⟨hy, -⟩, hSt1⟩ := zStk_c.mp hSt
  obtain ⟨⟨hxx, -⟩, hSt2⟩ := zStk_c.mp hSt1
  show W p l e R s m args below meth c H locs (n - n0) (zSZ n - zSZ n0) QW (F0 m pc ls (.int (Int32.ofInt y) :: .int (Int32.ofInt x) :: r.map (zc G)))
  refine lv_iushr (v := Int32.ofInt (zushr x y)) hx hb hd (z32_of _).symm ?_
  exact k p e R s m args below meth c QW C H locs ls hP hS hL (zStk_c.mpr ⟨⟨z32_I _, by simp⟩, hSt2⟩) a1 a2 a3
theorem zlcmp {x y : Int} (hx : zLg x) (hy : zLg y) : lg_cmp (Int64.ofInt x) (Int64.ofInt y) = Int32.ofInt (zcmp x y) := by
  unfold zcmp
  by_cases h1 : x < y
  · have e : Int64.ofInt x < Int64.ofInt y := (z64_lt hx hy).mpr h1
    have e2 : ¬ Int64.ofInt x = Int64.ofInt y := fun q => by have := (z64_inj hx hy).mp q; omega
    have e3 : ¬ Int64.ofInt y < Int64.ofInt x := fun q => by have := (z64_lt hy hx).mp q; omega
    rw [if_pos h1]
    first | (simp [lg_cmp, e, e2, e3]; done) | (unfold lg_cmp; simp [e, e2, e3]; rfl)
  · by_cases h2 : x = y
    · subst h2
      rw [if_neg h1, if_pos rfl]
      have e : ¬ Int64.ofInt x < Int64.ofInt x := fun q => by have := (z64_lt hx hx).mp q; omega
      first | (simp [lg_cmp, e]; done) | (unfold lg_cmp; simp [e]; rfl)
    · have e : ¬ Int64.ofInt x < Int64.ofInt y := fun q => h1 ((z64_lt hx hy).mp q)
      have e2 : ¬ Int64.ofInt x = Int64.ofInt y := fun q => h2 ((z64_inj hx hy).mp q)
      have e3 : Int64.ofInt y < Int64.ofInt x := (z64_lt hy hx).mpr (by omega)
      rw [if_neg h1, if_neg h2]
      first | (simp [lg_cmp, e, e2, e3]; done) | (unfold lg_cmp; simp [e, e2, e3]; rfl)
theorem zs_lcmp {l : Launch} {G : zG} {md d : Nat} {h : zHdr} {n0 : Nat} {Q : Int → zH → Prop} {QX : Nat → zH → Prop} {pc : Nat} {L r : List zV} {v : zH} {n : Nat} {x y : Int} (hd : decode (hB h) pc = .ok (.lcmp, 1)) (k : zJp l G md d h n0 Q QX (pc + 1) L ((0, zcmp x y) :: r) v n) : zJp l G md d h n0 Q QX pc L ((1, y) :: (1, x) :: r) v n := by
  intro p e R s m args below meth c QW C H locs ls hP hS hL hSt a1 a2 a3
  obtain ⟨⟨hx, hb, hml, hown, hts⟩, ⟨hKt, hZt, hB0, hB1⟩, ⟨hf1, hf2, hf3, hf4⟩, hin, hHR, hHX⟩ := id C
  obtain ⟨⟨hy, -⟩, hSt1⟩ := zStk_c.mp hSt
  obtain ⟨⟨hxx, -⟩, hSt2⟩ := zStk_c.mp hSt1
  show W p l e R s m args below meth c H locs (n - n0) (zSZ n - zSZ n0) QW (F0 m pc ls (.long (Int64.ofInt y) :: .long (Int64.ofInt x) :: r.map (zc G)))
  refine W.lcmp hx hb hd ?_
  rw [zlcmp hxx hy]
  exact k p e R s m args below meth c QW C H locs ls hP hS hL (zStk_c.mpr ⟨⟨⟨by unfold zcmp; split <;> (try split) <;> omega, by unfold zcmp; split <;> (try split) <;> omega⟩, by simp⟩, hSt2⟩) a1 a2 a3
theorem zs_ineg {l : Launch} {G : zG} {md d : Nat} {h : zHdr} {n0 : Nat} {Q : Int → zH → Prop} {QX : Nat → zH → Prop} {pc : Nat} {L r : List zV} {v : zH} {n : Nat} {x : Int} (hd : decode (hB h) pc = .ok (.ineg, 1)) (hq0 : zI (-x)) (k : zJp l G md d h n0 Q QX (pc + 1) L ((0, -x) :: r) v n) : zJp l G md d h n0 Q QX pc L ((0, x) :: r) v n := by
  intro p e R s m args below meth c QW C H locs ls hP hS hL hSt a1 a2 a3
  obtain ⟨⟨hx, hb, hml, hown, hts⟩, ⟨hKt, hZt, hB0, hB1⟩, ⟨hf1, hf2, hf3, hf4⟩, hin, hHR, hHX⟩ := id C
  obtain ⟨⟨hxx, -⟩, hSt2⟩ := zStk_c.mp hSt
  show W p l e R s m args below meth c H locs (n - n0) (zSZ n - zSZ n0) QW (F0 m pc ls (.int (Int32.ofInt x) :: r.map (zc G)))
  refine lv_ineg hx hb hd ?_
  rw [← Int32.ofInt_neg]
  exact k p e R s m args below meth c QW C H locs ls hP hS hL (zStk_c.mpr ⟨⟨hq0, by simp⟩, hSt2⟩) a1 a2 a3
theorem zs_i2c {l : Launch} {G : zG} {md d : Nat} {h : zHdr} {n0 : Nat} {Q : Int → zH → Prop} {QX : Nat → zH → Prop} {pc : Nat} {L r : List zV} {v : zH} {n : Nat} {x : Int} (hd : decode (hB h) pc = .ok (.i2c, 1)) (hq0 : 0 ≤ x ∧ x ≤ 65535) (k : zJp l G md d h n0 Q QX (pc + 1) L ((0, x) :: r) v n) : zJp l G md d h n0 Q QX pc L ((0, x) :: r) v n := by
  intro p e R s m args below meth c QW C H locs ls hP hS hL hSt a1 a2 a3
  obtain ⟨⟨hx, hb, hml, hown, hts⟩, ⟨hKt, hZt, hB0, hB1⟩, ⟨hf1, hf2, hf3, hf4⟩, hin, hHR, hHX⟩ := id C
  obtain ⟨⟨hxx, -⟩, hSt2⟩ := zStk_c.mp hSt
  show W p l e R s m args below meth c H locs (n - n0) (zSZ n - zSZ n0) QW (F0 m pc ls (.int (Int32.ofInt x) :: r.map (zc G)))
  refine lv_i2c (v := Int32.ofInt x) hx hb hd (z_i2c hq0.1 hq0.2) ?_
  exact k p e R s m args below meth c QW C H locs ls hP hS hL (zStk_c.mpr ⟨⟨hxx, by simp⟩, hSt2⟩) a1 a2 a3
theorem zs_i2l {l : Launch} {G : zG} {md d : Nat} {h : zHdr} {n0 : Nat} {Q : Int → zH → Prop} {QX : Nat → zH → Prop} {pc : Nat} {L r : List zV} {v : zH} {n : Nat} {x : Int} (hd : decode (hB h) pc = .ok (.i2l, 1)) (k : zJp l G md d h n0 Q QX (pc + 1) L ((1, x) :: r) v n) : zJp l G md d h n0 Q QX pc L ((0, x) :: r) v n := by
  intro p e R s m args below meth c QW C H locs ls hP hS hL hSt a1 a2 a3
  obtain ⟨⟨hx, hb, hml, hown, hts⟩, ⟨hKt, hZt, hB0, hB1⟩, ⟨hf1, hf2, hf3, hf4⟩, hin, hHR, hHX⟩ := id C
  obtain ⟨⟨hxx, -⟩, hSt2⟩ := zStk_c.mp hSt
  show W p l e R s m args below meth c H locs (n - n0) (zSZ n - zSZ n0) QW (F0 m pc ls (.int (Int32.ofInt x) :: r.map (zc G)))
  refine lv_i2l (v := Int64.ofInt x) hx hb hd (z_i2l hxx) ?_
  exact k p e R s m args below meth c QW C H locs ls hP hS hL (zStk_c.mpr ⟨⟨⟨by have := hxx.1; omega, by have := hxx.2; omega⟩, by simp⟩, hSt2⟩) a1 a2 a3
theorem zs_l2i {l : Launch} {G : zG} {md d : Nat} {h : zHdr} {n0 : Nat} {Q : Int → zH → Prop} {QX : Nat → zH → Prop} {pc : Nat} {L r : List zV} {v : zH} {n : Nat} {x : Int} (hd : decode (hB h) pc = .ok (.l2i, 1)) (hq0 : zI x) (k : zJp l G md d h n0 Q QX (pc + 1) L ((0, x) :: r) v n) : zJp l G md d h n0 Q QX pc L ((1, x) :: r) v n := by
  intro p e R s m args below meth c QW C H locs ls hP hS hL hSt a1 a2 a3
  obtain ⟨⟨hx, hb, hml, hown, hts⟩, ⟨hKt, hZt, hB0, hB1⟩, ⟨hf1, hf2, hf3, hf4⟩, hin, hHR, hHX⟩ := id C
  obtain ⟨⟨hxx, -⟩, hSt2⟩ := zStk_c.mp hSt
  show W p l e R s m args below meth c H locs (n - n0) (zSZ n - zSZ n0) QW (F0 m pc ls (.long (Int64.ofInt x) :: r.map (zc G)))
  refine lv_l2i (v := Int32.ofInt x) hx hb hd (z_l2i x) ?_
  exact k p e R s m args below meth c QW C H locs ls hP hS hL (zStk_c.mpr ⟨⟨hq0, by simp⟩, hSt2⟩) a1 a2 a3
theorem zcat1 {G : zG} {t : Nat} {x : Int} (h : t ≠ 1) : (zc G (t, x)).category = 1 := by
  unfold zc
  split
  · rfl
  · rename_i e; exact absurd e h
  · split <;> rfl
  · split <;> rfl
theorem zs_dup {l : Launch} {G : zG} {md d : Nat} {h : zHdr} {n0 : Nat} {Q : Int → zH → Prop} {QX : Nat → zH → Prop} {pc : Nat} {L r : List zV} {v : zH} {n : Nat} {t : Nat} {x : Int} (hd : decode (hB h) pc = .ok (.dup, 1)) (ht : t ≠ 1) (k : zJp l G md d h n0 Q QX (pc + 1) L ((t, x) :: (t, x) :: r) v n) : zJp l G md d h n0 Q QX pc L ((t, x) :: r) v n := by
  intro p e R s m args below meth c QW C H locs ls hP hS hL hSt a1 a2 a3
  obtain ⟨⟨hx, hb, hml, hown, hts⟩, ⟨hKt, hZt, hB0, hB1⟩, ⟨hf1, hf2, hf3, hf4⟩, hin, hHR, hHX⟩ := id C
  show W p l e R s m args below meth c H locs (n - n0) (zSZ n - zSZ n0) QW (F0 m pc ls (zc G (t, x) :: r.map (zc G)))
  refine lv_dup hx hb hd (zcat1 ht) ?_
  exact k p e R s m args below meth c QW C H locs ls hP hS hL (zStk_c.mpr ⟨(zStk_c.mp hSt).1, hSt⟩) a1 a2 a3
theorem zs_dup2 {l : Launch} {G : zG} {md d : Nat} {h : zHdr} {n0 : Nat} {Q : Int → zH → Prop} {QX : Nat → zH → Prop} {pc : Nat} {L r : List zV} {v : zH} {n : Nat} {x y : Int} (hd : decode (hB h) pc = .ok (.dup2, 1)) (k : zJp l G md d h n0 Q QX (pc + 1) L ((0, x) :: (2, y) :: (0, x) :: (2, y) :: r) v n) : zJp l G md d h n0 Q QX pc L ((0, x) :: (2, y) :: r) v n := by
  intro p e R s m args below meth c QW C H locs ls hP hS hL hSt a1 a2 a3
  obtain ⟨⟨hx, hb, hml, hown, hts⟩, ⟨hKt, hZt, hB0, hB1⟩, ⟨hf1, hf2, hf3, hf4⟩, hin, hHR, hHX⟩ := id C
  show W p l e R s m args below meth c H locs (n - n0) (zSZ n - zSZ n0) QW (F0 m pc ls (zc G (0, x) :: zc G (2, y) :: r.map (zc G)))
  refine lv_dup2_11 hx hb hd (zcat1 (by decide)) (zcat1 (by decide)) ?_
  exact k p e R s m args below meth c QW C H locs ls hP hS hL (zStk_c.mpr ⟨(zStk_c.mp hSt).1, zStk_c.mpr ⟨(zStk_c.mp (zStk_c.mp hSt).2).1, hSt⟩⟩) a1 a2 a3
theorem zs_pop {l : Launch} {G : zG} {md d : Nat} {h : zHdr} {n0 : Nat} {Q : Int → zH → Prop} {QX : Nat → zH → Prop} {pc : Nat} {L r : List zV} {v : zH} {n : Nat} {x : Int} (hd : decode (hB h) pc = .ok (.pop, 1)) (k : zJp l G md d h n0 Q QX (pc + 1) L r v n) : zJp l G md d h n0 Q QX pc L ((0, x) :: r) v n := by
  intro p e R s m args below meth c QW C H locs ls hP hS hL hSt a1 a2 a3
  obtain ⟨⟨hx, hb, hml, hown, hts⟩, ⟨hKt, hZt, hB0, hB1⟩, ⟨hf1, hf2, hf3, hf4⟩, hin, hHR, hHX⟩ := id C
  show W p l e R s m args below meth c H locs (n - n0) (zSZ n - zSZ n0) QW (F0 m pc ls (zc G (0, x) :: r.map (zc G)))
  refine lv_pop hx hb hd (zcat1 (by decide)) ?_
  exact k p e R s m args below meth c QW C H locs ls hP hS hL (zStk_c.mp hSt).2 a1 a2 a3
theorem zs_icmp_eq {l : Launch} {G : zG} {md d : Nat} {h : zHdr} {n0 : Nat} {Q : Int → zH → Prop} {QX : Nat → zH → Prop} {pc : Nat} {L r : List zV} {v : zH} {n : Nat} {x y : Int} {off : Int} {tgt : Nat} (hd : decode (hB h) pc = .ok (.if_icmp .eq off, 3)) (ht : (pc : Int) + off = (tgt : Int)) (kt : x = y → zJp l G md d h n0 Q QX tgt L r v n) (kf : ¬ x = y → zJp l G md d h n0 Q QX (pc + 3) L r v n) : zJp l G md d h n0 Q QX pc L ((0, y) :: (0, x) :: r) v n := by
  intro p e R s m args below meth c QW C H locs ls hP hS hL hSt a1 a2 a3
  obtain ⟨⟨hx, hb, hml, hown, hts⟩, ⟨hKt, hZt, hB0, hB1⟩, ⟨hf1, hf2, hf3, hf4⟩, hin, hHR, hHX⟩ := id C
  obtain ⟨⟨hy, -⟩, hSt1⟩ := zStk_c.mp hSt
  obtain ⟨⟨hxx, -⟩, hSt2⟩ := zStk_c.mp hSt1
  show W p l e R s m args below meth c H locs (n - n0) (zSZ n - zSZ n0) QW (F0 m pc ls (.int (Int32.ofInt y) :: .int (Int32.ofInt x) :: r.map (zc G)))
  refine lv_icmp_eq hx hb hd ht (fun hh => ?_) (fun hh => ?_)
  · exact kt ((z32_inj hxx hy).mp hh) p e R s m args below meth c QW C H locs ls hP hS hL hSt2 a1 a2 a3
  · exact kf (fun q => hh ((z32_inj hxx hy).mpr q)) p e R s m args below meth c QW C H locs ls hP hS hL hSt2 a1 a2 a3
theorem zs_icmp_ne {l : Launch} {G : zG} {md d : Nat} {h : zHdr} {n0 : Nat} {Q : Int → zH → Prop} {QX : Nat → zH → Prop} {pc : Nat} {L r : List zV} {v : zH} {n : Nat} {x y : Int} {off : Int} {tgt : Nat} (hd : decode (hB h) pc = .ok (.if_icmp .ne off, 3)) (ht : (pc : Int) + off = (tgt : Int)) (kt : ¬ x = y → zJp l G md d h n0 Q QX tgt L r v n) (kf : x = y → zJp l G md d h n0 Q QX (pc + 3) L r v n) : zJp l G md d h n0 Q QX pc L ((0, y) :: (0, x) :: r) v n := by
  intro p e R s m args below meth c QW C H locs ls hP hS hL hSt a1 a2 a3
  obtain ⟨⟨hx, hb, hml, hown, hts⟩, ⟨hKt, hZt, hB0, hB1⟩, ⟨hf1, hf2, hf3, hf4⟩, hin, hHR, hHX⟩ := id C
  obtain ⟨⟨hy, -⟩, hSt1⟩ := zStk_c.mp hSt
  obtain ⟨⟨hxx, -⟩, hSt2⟩ := zStk_c.mp hSt1
  show W p l e R s m args below meth c H locs (n - n0) (zSZ n - zSZ n0) QW (F0 m pc ls (.int (Int32.ofInt y) :: .int (Int32.ofInt x) :: r.map (zc G)))
  refine lv_icmp_ne hx hb hd ht (fun hh => ?_) (fun hh => ?_)
  · exact kt (fun q => hh ((z32_inj hxx hy).mpr q)) p e R s m args below meth c QW C H locs ls hP hS hL hSt2 a1 a2 a3
  · exact kf (by first | exact (z32_inj hxx hy).mp hh | exact (z32_inj hxx hy).mp (Classical.not_not.mp hh)) p e R s m args below meth c QW C H locs ls hP hS hL hSt2 a1 a2 a3
theorem zs_icmp_lt {l : Launch} {G : zG} {md d : Nat} {h : zHdr} {n0 : Nat} {Q : Int → zH → Prop} {QX : Nat → zH → Prop} {pc : Nat} {L r : List zV} {v : zH} {n : Nat} {x y : Int} {off : Int} {tgt : Nat} (hd : decode (hB h) pc = .ok (.if_icmp .lt off, 3)) (ht : (pc : Int) + off = (tgt : Int)) (kt : x < y → zJp l G md d h n0 Q QX tgt L r v n) (kf : y ≤ x → zJp l G md d h n0 Q QX (pc + 3) L r v n) : zJp l G md d h n0 Q QX pc L ((0, y) :: (0, x) :: r) v n := by
  intro p e R s m args below meth c QW C H locs ls hP hS hL hSt a1 a2 a3
  obtain ⟨⟨hx, hb, hml, hown, hts⟩, ⟨hKt, hZt, hB0, hB1⟩, ⟨hf1, hf2, hf3, hf4⟩, hin, hHR, hHX⟩ := id C
  obtain ⟨⟨hy, -⟩, hSt1⟩ := zStk_c.mp hSt
  obtain ⟨⟨hxx, -⟩, hSt2⟩ := zStk_c.mp hSt1
  show W p l e R s m args below meth c H locs (n - n0) (zSZ n - zSZ n0) QW (F0 m pc ls (.int (Int32.ofInt y) :: .int (Int32.ofInt x) :: r.map (zc G)))
  refine lv_icmp_lt hx hb hd ht (fun hh => ?_) (fun hh => ?_)
  · exact kt ((z32_lt hxx hy).mp hh) p e R s m args below meth c QW C H locs ls hP hS hL hSt2 a1 a2 a3
  · exact kf (Int.not_lt.mp (fun z => hh ((z32_lt hxx hy).mpr z))) p e R s m args below meth c QW C H locs ls hP hS hL hSt2 a1 a2 a3
theorem zs_icmp_ge {l : Launch} {G : zG} {md d : Nat} {h : zHdr} {n0 : Nat} {Q : Int → zH → Prop} {QX : Nat → zH → Prop} {pc : Nat} {L r : List zV} {v : zH} {n : Nat} {x y : Int} {off : Int} {tgt : Nat} (hd : decode (hB h) pc = .ok (.if_icmp .ge off, 3)) (ht : (pc : Int) + off = (tgt : Int)) (kt : y ≤ x → zJp l G md d h n0 Q QX tgt L r v n) (kf : x < y → zJp l G md d h n0 Q QX (pc + 3) L r v n) : zJp l G md d h n0 Q QX pc L ((0, y) :: (0, x) :: r) v n := by
  intro p e R s m args below meth c QW C H locs ls hP hS hL hSt a1 a2 a3
  obtain ⟨⟨hx, hb, hml, hown, hts⟩, ⟨hKt, hZt, hB0, hB1⟩, ⟨hf1, hf2, hf3, hf4⟩, hin, hHR, hHX⟩ := id C
  obtain ⟨⟨hy, -⟩, hSt1⟩ := zStk_c.mp hSt
  obtain ⟨⟨hxx, -⟩, hSt2⟩ := zStk_c.mp hSt1
  show W p l e R s m args below meth c H locs (n - n0) (zSZ n - zSZ n0) QW (F0 m pc ls (.int (Int32.ofInt y) :: .int (Int32.ofInt x) :: r.map (zc G)))
  refine lv_icmp_ge hx hb hd ht (fun hh => ?_) (fun hh => ?_)
  · exact kt ((z32_le hy hxx).mp hh) p e R s m args below meth c QW C H locs ls hP hS hL hSt2 a1 a2 a3
  · exact kf (Int.not_le.mp (fun z => hh ((z32_le hy hxx).mpr z))) p e R s m args below meth c QW C H locs ls hP hS hL hSt2 a1 a2 a3
theorem zs_icmp_gt {l : Launch} {G : zG} {md d : Nat} {h : zHdr} {n0 : Nat} {Q : Int → zH → Prop} {QX : Nat → zH → Prop} {pc : Nat} {L r : List zV} {v : zH} {n : Nat} {x y : Int} {off : Int} {tgt : Nat} (hd : decode (hB h) pc = .ok (.if_icmp .gt off, 3)) (ht : (pc : Int) + off = (tgt : Int)) (kt : y < x → zJp l G md d h n0 Q QX tgt L r v n) (kf : x ≤ y → zJp l G md d h n0 Q QX (pc + 3) L r v n) : zJp l G md d h n0 Q QX pc L ((0, y) :: (0, x) :: r) v n := by
  intro p e R s m args below meth c QW C H locs ls hP hS hL hSt a1 a2 a3
  obtain ⟨⟨hx, hb, hml, hown, hts⟩, ⟨hKt, hZt, hB0, hB1⟩, ⟨hf1, hf2, hf3, hf4⟩, hin, hHR, hHX⟩ := id C
  obtain ⟨⟨hy, -⟩, hSt1⟩ := zStk_c.mp hSt
  obtain ⟨⟨hxx, -⟩, hSt2⟩ := zStk_c.mp hSt1
  show W p l e R s m args below meth c H locs (n - n0) (zSZ n - zSZ n0) QW (F0 m pc ls (.int (Int32.ofInt y) :: .int (Int32.ofInt x) :: r.map (zc G)))
  refine lv_icmp_gt hx hb hd ht (fun hh => ?_) (fun hh => ?_)
  · exact kt ((z32_lt hy hxx).mp hh) p e R s m args below meth c QW C H locs ls hP hS hL hSt2 a1 a2 a3
  · exact kf (Int.not_lt.mp (fun z => hh ((z32_lt hy hxx).mpr z))) p e R s m args below meth c QW C H locs ls hP hS hL hSt2 a1 a2 a3
theorem zs_icmp_le {l : Launch} {G : zG} {md d : Nat} {h : zHdr} {n0 : Nat} {Q : Int → zH → Prop} {QX : Nat → zH → Prop} {pc : Nat} {L r : List zV} {v : zH} {n : Nat} {x y : Int} {off : Int} {tgt : Nat} (hd : decode (hB h) pc = .ok (.if_icmp .le off, 3)) (ht : (pc : Int) + off = (tgt : Int)) (kt : x ≤ y → zJp l G md d h n0 Q QX tgt L r v n) (kf : y < x → zJp l G md d h n0 Q QX (pc + 3) L r v n) : zJp l G md d h n0 Q QX pc L ((0, y) :: (0, x) :: r) v n := by
  intro p e R s m args below meth c QW C H locs ls hP hS hL hSt a1 a2 a3
  obtain ⟨⟨hx, hb, hml, hown, hts⟩, ⟨hKt, hZt, hB0, hB1⟩, ⟨hf1, hf2, hf3, hf4⟩, hin, hHR, hHX⟩ := id C
  obtain ⟨⟨hy, -⟩, hSt1⟩ := zStk_c.mp hSt
  obtain ⟨⟨hxx, -⟩, hSt2⟩ := zStk_c.mp hSt1
  show W p l e R s m args below meth c H locs (n - n0) (zSZ n - zSZ n0) QW (F0 m pc ls (.int (Int32.ofInt y) :: .int (Int32.ofInt x) :: r.map (zc G)))
  refine lv_icmp_le hx hb hd ht (fun hh => ?_) (fun hh => ?_)
  · exact kt ((z32_le hxx hy).mp hh) p e R s m args below meth c QW C H locs ls hP hS hL hSt2 a1 a2 a3
  · exact kf (Int.not_le.mp (fun z => hh ((z32_le hxx hy).mpr z))) p e R s m args below meth c QW C H locs ls hP hS hL hSt2 a1 a2 a3
theorem zs_if_eq {l : Launch} {G : zG} {md d : Nat} {h : zHdr} {n0 : Nat} {Q : Int → zH → Prop} {QX : Nat → zH → Prop} {pc : Nat} {L r : List zV} {v : zH} {n : Nat} {x : Int} {off : Int} {tgt : Nat} (hd : decode (hB h) pc = .ok (.ifCond .eq off, 3)) (ht : (pc : Int) + off = (tgt : Int)) (kt : x = 0 → zJp l G md d h n0 Q QX tgt L r v n) (kf : ¬ x = 0 → zJp l G md d h n0 Q QX (pc + 3) L r v n) : zJp l G md d h n0 Q QX pc L ((0, x) :: r) v n := by
  intro p e R s m args below meth c QW C H locs ls hP hS hL hSt a1 a2 a3
  obtain ⟨⟨hx, hb, hml, hown, hts⟩, ⟨hKt, hZt, hB0, hB1⟩, ⟨hf1, hf2, hf3, hf4⟩, hin, hHR, hHX⟩ := id C
  obtain ⟨⟨hxx, -⟩, hSt2⟩ := zStk_c.mp hSt
  show W p l e R s m args below meth c H locs (n - n0) (zSZ n - zSZ n0) QW (F0 m pc ls (.int (Int32.ofInt x) :: r.map (zc G)))
  refine lv_if_eq hx hb hd ht (fun hh => ?_) (fun hh => ?_)
  · exact kt ((z32_0 hxx).mp hh) p e R s m args below meth c QW C H locs ls hP hS hL hSt2 a1 a2 a3
  · exact kf (fun q => hh ((z32_0 hxx).mpr q)) p e R s m args below meth c QW C H locs ls hP hS hL hSt2 a1 a2 a3
theorem zs_if_ne {l : Launch} {G : zG} {md d : Nat} {h : zHdr} {n0 : Nat} {Q : Int → zH → Prop} {QX : Nat → zH → Prop} {pc : Nat} {L r : List zV} {v : zH} {n : Nat} {x : Int} {off : Int} {tgt : Nat} (hd : decode (hB h) pc = .ok (.ifCond .ne off, 3)) (ht : (pc : Int) + off = (tgt : Int)) (kt : ¬ x = 0 → zJp l G md d h n0 Q QX tgt L r v n) (kf : x = 0 → zJp l G md d h n0 Q QX (pc + 3) L r v n) : zJp l G md d h n0 Q QX pc L ((0, x) :: r) v n := by
  intro p e R s m args below meth c QW C H locs ls hP hS hL hSt a1 a2 a3
  obtain ⟨⟨hx, hb, hml, hown, hts⟩, ⟨hKt, hZt, hB0, hB1⟩, ⟨hf1, hf2, hf3, hf4⟩, hin, hHR, hHX⟩ := id C
  obtain ⟨⟨hxx, -⟩, hSt2⟩ := zStk_c.mp hSt
  show W p l e R s m args below meth c H locs (n - n0) (zSZ n - zSZ n0) QW (F0 m pc ls (.int (Int32.ofInt x) :: r.map (zc G)))
  refine lv_if_ne hx hb hd ht (fun hh => ?_) (fun hh => ?_)
  · exact kt (fun q => hh ((z32_0 hxx).mpr q)) p e R s m args below meth c QW C H locs ls hP hS hL hSt2 a1 a2 a3
  · exact kf (by first | exact (z32_0 hxx).mp hh | exact (z32_0 hxx).mp (Classical.not_not.mp hh)) p e R s m args below meth c QW C H locs ls hP hS hL hSt2 a1 a2 a3
theorem zs_if_lt {l : Launch} {G : zG} {md d : Nat} {h : zHdr} {n0 : Nat} {Q : Int → zH → Prop} {QX : Nat → zH → Prop} {pc : Nat} {L r : List zV} {v : zH} {n : Nat} {x : Int} {off : Int} {tgt : Nat} (hd : decode (hB h) pc = .ok (.ifCond .lt off, 3)) (ht : (pc : Int) + off = (tgt : Int)) (kt : x < 0 → zJp l G md d h n0 Q QX tgt L r v n) (kf : 0 ≤ x → zJp l G md d h n0 Q QX (pc + 3) L r v n) : zJp l G md d h n0 Q QX pc L ((0, x) :: r) v n := by
  intro p e R s m args below meth c QW C H locs ls hP hS hL hSt a1 a2 a3
  obtain ⟨⟨hx, hb, hml, hown, hts⟩, ⟨hKt, hZt, hB0, hB1⟩, ⟨hf1, hf2, hf3, hf4⟩, hin, hHR, hHX⟩ := id C
  obtain ⟨⟨hxx, -⟩, hSt2⟩ := zStk_c.mp hSt
  show W p l e R s m args below meth c H locs (n - n0) (zSZ n - zSZ n0) QW (F0 m pc ls (.int (Int32.ofInt x) :: r.map (zc G)))
  refine lv_if_lt hx hb hd ht (fun hh => ?_) (fun hh => ?_)
  · exact kt ((z32_lt0 hxx).mp hh) p e R s m args below meth c QW C H locs ls hP hS hL hSt2 a1 a2 a3
  · exact kf (Int.not_lt.mp (fun z => hh ((z32_lt0 hxx).mpr z))) p e R s m args below meth c QW C H locs ls hP hS hL hSt2 a1 a2 a3
theorem zs_if_ge {l : Launch} {G : zG} {md d : Nat} {h : zHdr} {n0 : Nat} {Q : Int → zH → Prop} {QX : Nat → zH → Prop} {pc : Nat} {L r : List zV} {v : zH} {n : Nat} {x : Int} {off : Int} {tgt : Nat} (hd : decode (hB h) pc = .ok (.ifCond .ge off, 3)) (ht : (pc : Int) + off = (tgt : Int)) (kt : 0 ≤ x → zJp l G md d h n0 Q QX tgt L r v n) (kf : x < 0 → zJp l G md d h n0 Q QX (pc + 3) L r v n) : zJp l G md d h n0 Q QX pc L ((0, x) :: r) v n := by
  intro p e R s m args below meth c QW C H locs ls hP hS hL hSt a1 a2 a3
  obtain ⟨⟨hx, hb, hml, hown, hts⟩, ⟨hKt, hZt, hB0, hB1⟩, ⟨hf1, hf2, hf3, hf4⟩, hin, hHR, hHX⟩ := id C
  obtain ⟨⟨hxx, -⟩, hSt2⟩ := zStk_c.mp hSt
  show W p l e R s m args below meth c H locs (n - n0) (zSZ n - zSZ n0) QW (F0 m pc ls (.int (Int32.ofInt x) :: r.map (zc G)))
  refine lv_if_ge hx hb hd ht (fun hh => ?_) (fun hh => ?_)
  · exact kt ((z32_ge0 hxx).mp hh) p e R s m args below meth c QW C H locs ls hP hS hL hSt2 a1 a2 a3
  · exact kf (Int.not_le.mp (fun z => hh ((z32_ge0 hxx).mpr z))) p e R s m args below meth c QW C H locs ls hP hS hL hSt2 a1 a2 a3
theorem zs_if_gt {l : Launch} {G : zG} {md d : Nat} {h : zHdr} {n0 : Nat} {Q : Int → zH → Prop} {QX : Nat → zH → Prop} {pc : Nat} {L r : List zV} {v : zH} {n : Nat} {x : Int} {off : Int} {tgt : Nat} (hd : decode (hB h) pc = .ok (.ifCond .gt off, 3)) (ht : (pc : Int) + off = (tgt : Int)) (kt : 0 < x → zJp l G md d h n0 Q QX tgt L r v n) (kf : x ≤ 0 → zJp l G md d h n0 Q QX (pc + 3) L r v n) : zJp l G md d h n0 Q QX pc L ((0, x) :: r) v n := by
  intro p e R s m args below meth c QW C H locs ls hP hS hL hSt a1 a2 a3
  obtain ⟨⟨hx, hb, hml, hown, hts⟩, ⟨hKt, hZt, hB0, hB1⟩, ⟨hf1, hf2, hf3, hf4⟩, hin, hHR, hHX⟩ := id C
  obtain ⟨⟨hxx, -⟩, hSt2⟩ := zStk_c.mp hSt
  show W p l e R s m args below meth c H locs (n - n0) (zSZ n - zSZ n0) QW (F0 m pc ls (.int (Int32.ofInt x) :: r.map (zc G)))
  refine lv_if_gt hx hb hd ht (fun hh => ?_) (fun hh => ?_)
  · exact kt ((z32_gt0 hxx).mp hh) p e R s m args below meth c QW C H locs ls hP hS hL hSt2 a1 a2 a3
  · exact kf (Int.not_lt.mp (fun z => hh ((z32_gt0 hxx).mpr z))) p e R s m args below meth c QW C H locs ls hP hS hL hSt2 a1 a2 a3
theorem zs_if_le {l : Launch} {G : zG} {md d : Nat} {h : zHdr} {n0 : Nat} {Q : Int → zH → Prop} {QX : Nat → zH → Prop} {pc : Nat} {L r : List zV} {v : zH} {n : Nat} {x : Int} {off : Int} {tgt : Nat} (hd : decode (hB h) pc = .ok (.ifCond .le off, 3)) (ht : (pc : Int) + off = (tgt : Int)) (kt : x ≤ 0 → zJp l G md d h n0 Q QX tgt L r v n) (kf : 0 < x → zJp l G md d h n0 Q QX (pc + 3) L r v n) : zJp l G md d h n0 Q QX pc L ((0, x) :: r) v n := by
  intro p e R s m args below meth c QW C H locs ls hP hS hL hSt a1 a2 a3
  obtain ⟨⟨hx, hb, hml, hown, hts⟩, ⟨hKt, hZt, hB0, hB1⟩, ⟨hf1, hf2, hf3, hf4⟩, hin, hHR, hHX⟩ := id C
  obtain ⟨⟨hxx, -⟩, hSt2⟩ := zStk_c.mp hSt
  show W p l e R s m args below meth c H locs (n - n0) (zSZ n - zSZ n0) QW (F0 m pc ls (.int (Int32.ofInt x) :: r.map (zc G)))
  refine lv_if_le hx hb hd ht (fun hh => ?_) (fun hh => ?_)
  · exact kt ((z32_le0 hxx).mp hh) p e R s m args below meth c QW C H locs ls hP hS hL hSt2 a1 a2 a3
  · exact kf (Int.not_le.mp (fun z => hh ((z32_le0 hxx).mpr z))) p e R s m args below meth c QW C H locs ls hP hS hL hSt2 a1 a2 a3
theorem zs_goto {l : Launch} {G : zG} {md d : Nat} {h : zHdr} {n0 : Nat} {Q : Int → zH → Prop} {QX : Nat → zH → Prop} {pc : Nat} {L st : List zV} {v : zH} {n : Nat} {off : Int} {tgt : Nat} (hd : decode (hB h) pc = .ok (.goto off, 3)) (ht : (pc : Int) + off = (tgt : Int)) (k : zJp l G md d h n0 Q QX tgt L st v n) : zJp l G md d h n0 Q QX pc L st v n := by
  intro p e R s m args below meth c QW C H locs ls hP hS hL hSt a1 a2 a3
  obtain ⟨⟨hx, hb, hml, hown, hts⟩, ⟨hKt, hZt, hB0, hB1⟩, ⟨hf1, hf2, hf3, hf4⟩, hin, hHR, hHX⟩ := id C
  exact lv_goto hx hb hd ht (k p e R s m args below meth c QW C H locs ls hP hS hL hSt a1 a2 a3)
end
section
/-! fields, rows, new cells, calls, ends -/
theorem zfld_ok {own : String} {idx ci k : Nat} {ws : List Nat} (h : zfld own idx ci k ws = true) : ci < 12 ∧ k < (zcr ci).2.2 ∧ ∃ ref : String, Jvm.Cond.fieldLink own idx ref ((zcr ci).2.1 k).2.1 ((zcr ci).2.1 k).2.2.1 ∈ zws ∧ ∀ (s : State) (args : Array Value), (∀ w ∈ zws, w.before args s = true) → ∀ x, s.fieldFound? ((zcr ci).2.1 k).1 ((zcr ci).2.1 k).2.1 ((zcr ci).2.1 k).2.2.1 = some x → s.fieldFound? ref ((zcr ci).2.1 k).2.1 ((zcr ci).2.1 k).2.2.1 = some x := by
  unfold zfld at h
  simp only [Bool.and_eq_true, decide_eq_true_eq] at h
  obtain ⟨⟨h1, h2⟩, h3⟩ := h
  refine ⟨h1, h2, ?_⟩
  split at h3
  · rename_i i is
    split at h3
    · rename_i o j ref nm ds e
      simp only [Bool.and_eq_true, decide_eq_true_eq, Bool.or_eq_true] at h3
      obtain ⟨⟨⟨⟨⟨rfl, rfl⟩, rfl⟩, rfl⟩, hg⟩, h4⟩ := h3
      refine ⟨ref, List.mem_filter.mpr ⟨zat_mem e, hg⟩, fun s args hts x hx => ?_⟩
      rcases h4 with h4 | h4
      · rw [h4]; exact hx
      · split at h4
        · exact u_same (hts _ (zwd_ok h4)) x hx
        · cases h4
    · cases h3
  · cases h3
theorem zfs_get {G : zG} {md : Nat} {v : zH} {i c k : Nat} (hk : k < zNF c) : ((List.range (zNF c)).map (fun k => zc G (zFT c k, zfv md v i k)))[k]? = some (zc G (zFT c k, zfv md v i k)) := by
  rw [List.getElem?_map, List.getElem?_range hk]
  rfl
/-- a reference to a cell: its number -/
theorem zcell {n : Nat} {a : Int} {c : Nat} (hr : zRg n 2 a) (hc : zCL a = c) (h25 : c < 25) : ∃ i : Nat, a = i ∧ i < n ∧ zCL (i : Int) = c := by
  have h0 := zCL_le hc h25
  have h1 := hr.2
  refine ⟨a.toNat, by omega, by omega, ?_⟩
  rw [show ((a.toNat : Nat) : Int) = a by omega]
  exact hc
theorem zad_n {G : zG} {i : Nat} : zad G (i : Int) = zgB G + i := by
  unfold zad
  rw [if_neg (by omega)]
  rfl
theorem zs_getf {l : Launch} {G : zG} {md d : Nat} {h : zHdr} {n0 : Nat} {Q : Int → zH → Prop} {QX : Nat → zH → Prop} {pc : Nat} {L r : List zV} {v : zH} {n : Nat} {idx ci k : Nat} {o x : Int} {t : Nat} (hd : decode (hB h) pc = .ok (.getfield idx, 3)) {ws : List Nat} (hf : zfld (hO h) idx ci k ws = true) (hcl : zCL o = ci) (ht : zFT ci k = t) (hv : ∀ i : Nat, o = i → zfv md v i k = x) (ht3 : t = 0 ∨ t = 2) (hx0 : ¬ x = -1000 ∨ t = 0)
    (kk : zJp l G md d h n0 Q QX (pc + 3) L ((t, x) :: r) v n) : zJp l G md d h n0 Q QX pc L ((2, o) :: r) v n := by
  intro p e R s m args below meth c QW C H locs ls hP hS hL hSt a1 a2 a3
  obtain ⟨⟨hx, hb, hml, hown, hts⟩, ⟨hKt, hZt, hB0, hB1⟩, ⟨hf1, hf2, hf3, hf4⟩, hin, hHR, hHX⟩ := id C
  obtain ⟨⟨hor, -⟩, hSt1⟩ := zStk_c.mp hSt
  obtain ⟨h12, hk, ref, hlink, hsame⟩ := zfld_ok hf
  obtain ⟨i, rfl, hi, hci⟩ := zcell hor hcl (by omega)
  have hkN : k < zNF ci := by rw [zNF_ok ci h12]; exact hk
  show W p l e R s m args below meth c H locs (n - n0) (zSZ n - zSZ n0) QW (F0 m pc ls (zc G (2, (i : Int)) :: r.map (zc G)))
  rw [zc_ref (by omega), zad_n]
  have hok := zcl_ok ci (zcr ci) (zcr_get h12)
  refine va_get (D := zgD G) (ci := ci) (C := (zcr ci).1) (T := (zcr ci).2.1) (N := (zcr ci).2.2) hx hb hts hok.1 hown hKt hP.1 i (by rw [zW_get hi, zE_o hci h12]) (zcr_get h12) k hk (hts _ hlink) (hsame s args hts) (zfs_get hkN) hd ?_
  have hv1 := hv i rfl
  rw [hv1, ht]
  refine kk p e R s m args below meth c QW C H locs ls hP hS hL (zStk_c.mpr ⟨⟨?_, by rcases ht3 with q | q <;> rw [q] <;> simp⟩, hSt1⟩) a1 a2 a3
  have h7 := hP.2.2 i hi k
  rw [hv1] at h7
  have h8 : zTg (i : Int) k = t := by
    unfold zTg
    rw [hci, if_neg (by omega), if_neg (by omega), if_neg (by omega), ht]
  rw [h8] at h7
  rcases h7 with ⟨q1, q2⟩ | h7
  · rcases hx0 with q | q
    · exact absurd q2 q
    · omega
  · exact h7
theorem zput_ok {G : zG} {md : Nat} {v : zH} {n : Nat} {H H1 : Heap} {i j : Nat} {x : Int} (hP : zP G md v n H) (hi : i < n) (hx : zRn n (zTg i j) x) (hQ : va_P (zgD G) zcl (zW G md (zupd v i j x) n) H1) : zP G md (zupd v i j x) n H1 :=
  ⟨hQ, zP_lt hQ (by omega), zOk_upd hP.2.2 hx⟩
theorem zty {ci k : Nat} {x : Int} {t : Nat} {G : zG} (hft : zfk ci k = 0 ∧ t = 0 ∨ zfk ci k = 4 ∧ t = 0 ∧ (x = 0 ∨ x = 1) ∨ zfk ci k = 2 ∧ t = 2) : ∃ ty, parseFieldDescriptor ((zcr ci).2.1 k).2.2.1 = some ty ∧ narrow ty (zc G (t, x)) = zc G (t, x) ∧ fits ty (zc G (t, x)) = true := by
  unfold zfk at hft
  split at hft
  · rename_i e
    rcases hft with ⟨-, rfl⟩ | ⟨h, -⟩ | ⟨h, -⟩
    · exact ⟨_, e, rfl, rfl⟩
    · cases h
    · cases h
  · rename_i e
    rcases hft with ⟨h, -⟩ | ⟨-, rfl, hx⟩ | ⟨h, -⟩
    · cases h
    · rcases hx with rfl | rfl
      · exact ⟨_, e, rfl, rfl⟩
      · exact ⟨_, e, rfl, rfl⟩
    · cases h
  · rename_i e
    rcases hft with ⟨h, -⟩ | ⟨h, -⟩ | ⟨-, rfl⟩
    · cases h
    · cases h
    · refine ⟨_, e, ?_, ?_⟩ <;> unfold zc <;> simp only <;> split <;> rfl
  · rename_i e
    rcases hft with ⟨h, -⟩ | ⟨h, -⟩ | ⟨-, rfl⟩
    · cases h
    · cases h
    · refine ⟨_, e, ?_, ?_⟩ <;> unfold zc <;> simp only <;> split <;> rfl
  · rcases hft with ⟨h, -⟩ | ⟨h, -⟩ | ⟨h, -⟩ <;> cases h
theorem zs_putf {l : Launch} {G : zG} {md d : Nat} {h : zHdr} {n0 : Nat} {Q : Int → zH → Prop} {QX : Nat → zH → Prop} {pc : Nat} {L r : List zV} {v : zH} {n : Nat} {idx ci k : Nat} {o x : Int} {t : Nat} (hd : decode (hB h) pc = .ok (.putfield idx, 3)) {ws : List Nat} (hf : zfld (hO h) idx ci k ws = true) (hcl : zCL o = ci) (ht : zFT ci k = t)
    (hft : zfk ci k = 0 ∧ t = 0 ∨ zfk ci k = 4 ∧ t = 0 ∧ (x = 0 ∨ x = 1) ∨ zfk ci k = 2 ∧ t = 2) (hfn : zfin ci k = false ∨ zfin ci k = true ∧ hK h = true ∧ ((zcr ci).2.1 k).1 = hO h) (hnf : ¬ (md = 1 ∧ (zFn ci k).1 ≠ 0))
    (kk : zJp l G md d h n0 Q QX (pc + 3) L r (zupd v o k x) n) : zJp l G md d h n0 Q QX pc L ((t, x) :: (2, o) :: r) v n := by
  intro p e R s m args below meth c QW C H locs ls hP hS hL hSt a1 a2 a3
  obtain ⟨⟨hx, hb, hml, hown, hts⟩, ⟨hKt, hZt, hB0, hB1⟩, ⟨hf1, hf2, hf3, hf4⟩, hin, hHR, hHX⟩ := id C
  obtain ⟨⟨hxr, -⟩, hSt0⟩ := zStk_c.mp hSt
  obtain ⟨⟨hor, -⟩, hSt1⟩ := zStk_c.mp hSt0
  obtain ⟨h12, hk, ref, hlink, hsame⟩ := zfld_ok hf
  obtain ⟨i, rfl, hi, hci⟩ := zcell hor hcl (by omega)
  have hkN : k < zNF ci := by rw [zNF_ok ci h12]; exact hk
  show W p l e R s m args below meth c H locs (n - n0) (zSZ n - zSZ n0) QW (F0 m pc ls (zc G (t, x) :: zc G (2, (i : Int)) :: r.map (zc G)))
  rw [zc_ref (by omega), zad_n]
  obtain ⟨hok1, ⟨ty0, hty0⟩, hnm⟩ := zcl_ok ci (zcr ci) (zcr_get h12)
  obtain ⟨ty, hd1, hd2, hd3⟩ := zty (G := G) hft
  have he : (zW G md v n)[i]? = some (zgB G + i, .inr (ci, (List.range (zNF ci)).map (fun k => zc G (zFT ci k, zfv md v i k)))) := by rw [zW_get hi, zE_o hci h12]
  have hset : (zW G md v n).set i (zgB G + i, .inr (ci, ((List.range (zNF ci)).map (fun k => zc G (zFT ci k, zfv md v i k))).set k (zc G (t, x)))) = zW G md (zupd v i k x) n := by
    refine zW_set hi ?_ (fun j _ hji => zE_ne (by omega))
    rw [zE_o hci h12, ← ht, zfields_set hci hkN hnf]
  have hxn : zRn n (zTg i k) x := by
    have h8 : zTg (i : Int) k = t := by
      unfold zTg
      rw [hci, if_neg (by omega), if_neg (by omega), if_neg (by omega), ht]
    rw [h8]
    exact Or.inr hxr
  rcases hfn with hfn | ⟨hfn, hKK, hdecl⟩
  · refine va_put (D := zgD G) (ci := ci) (C := (zcr ci).1) (T := (zcr ci).2.1) (N := (zcr ci).2.2) hx hb hts hok1 ty0 hty0 hnm hown hKt hP.1 zW_D hS i he (zcr_get h12) k hk (hts _ hlink) (hsame s args hts) hfn hd1 hd2 hd3 (by simpa using hkN) hd (fun H1 locs1 q1 q2 q3 => ?_)
    rw [hset] at q1
    exact kk p e R s m args below meth c QW C H1 locs1 ls (zput_ok hP hi hxn q1) q3 hL hSt1 a1 a2 a3
  · refine va_putF (D := zgD G) (ci := ci) (C := (zcr ci).1) (T := (zcr ci).2.1) (N := (zcr ci).2.2) hx hb hts hok1 ty0 hty0 hnm hown hKt hP.1 zW_D hS i he (zcr_get h12) k hk (hts _ hlink) (hsame s args hts) hfn (hin hKK) hdecl hd1 hd2 hd3 (by simpa using hkN) hd (fun H1 locs1 q1 q2 q3 => ?_)
    rw [hset] at q1
    exact kk p e R s m args below meth c QW C H1 locs1 ls (zput_ok hP hi hxn q1) q3 hL hSt1 a1 a2 a3
theorem z_inA {j : Int} {a : Int} (hj : 0 ≤ j ∧ j < zLN a) (hjr : zI j) : vp_in (Int32.ofInt j) (zLN a).toNat := z_in rfl hj.1 hj.2 hjr
theorem z_idx {j : Int} (h0 : 0 ≤ j) (hjr : zI j) : (((Int32.ofInt j).toNatClampNeg : Nat) : Int) = j := by
  rw [z32_clamp hjr]
  omega
theorem zTg20 {i : Int} {k : Nat} (h : zCL i = 20) : zTg i k = 0 := by simp [zTg, h]
theorem zTg21 {i : Int} {k : Nat} (h : zCL i = 21) : zTg i k = 0 := by simp [zTg, h]
theorem zTg22 {i : Int} {k : Nat} (h : zCL i = 22) : zTg i k = 1 := by simp [zTg, h]
theorem zTg23 {i : Int} {k : Nat} (h : zCL i = 23) : zTg i k = 2 := by simp [zTg, h]
theorem zFn_big : ∀ c, 12 ≤ c → ∀ k, (zFn c k).1 = 0 := by
  intro c hc k
  have : zFnt.getD c [] = [] := by
    rw [List.getD_eq_getElem?_getD, List.getElem?_eq_none (show zFnt.length ≤ c from hc)]
    rfl
  unfold zFn
  rw [this]
  rfl
theorem zfv_big {md : Nat} {v : zH} {i : Int} {k : Nat} (h : 12 ≤ zCL i) : zfv md v i k = v i k := by
  unfold zfv
  rw [if_neg]
  intro q
  exact q.2 (zFn_big _ h k)
theorem zrow_rg {md : Nat} {v : zH} {n i : Nat} {j : Int} {t : Nat} (hok : zOk md v n) (hi : i < n) (hc : 12 ≤ zCL (i : Int)) (h0 : 0 ≤ j) (ht : ∀ k : Nat, zTg i k = t) : zRn n t (v i j) := by
  have h1 := hok i hi j.toNat
  rw [ht, zfv_big hc, show ((j.toNat : Nat) : Int) = j by omega] at h1
  exact h1
theorem zs_iald {l : Launch} {G : zG} {md d : Nat} {h : zHdr} {n0 : Nat} {Q : Int → zH → Prop} {QX : Nat → zH → Prop} {pc : Nat} {L r : List zV} {v : zH} {n : Nat} {a j : Int} (hd : decode (hB h) pc = .ok (.iaload, 1)) (hcl : zCL a = 20) (hj : 0 ≤ j ∧ j < zLN a) (kk : zJp l G md d h n0 Q QX (pc + 1) L ((0, v a j) :: r) v n) : zJp l G md d h n0 Q QX pc L ((0, j) :: (2, a) :: r) v n := by
  intro p e R s m args below meth c QW C H locs ls hP hS hL hSt a1 a2 a3
  obtain ⟨⟨hx, hb, hml, hown, hts⟩, ⟨hKt, hZt, hB0, hB1⟩, ⟨hf1, hf2, hf3, hf4⟩, hin, hHR, hHX⟩ := id C
  obtain ⟨⟨hjr, -⟩, hSt0⟩ := zStk_c.mp hSt
  obtain ⟨⟨hor, -⟩, hSt1⟩ := zStk_c.mp hSt0
  obtain ⟨i, rfl, hi, hci⟩ := zcell hor hcl (by omega)
  show W p l e R s m args below meth c H locs (n - n0) (zSZ n - zSZ n0) QW (F0 m pc ls (.int (Int32.ofInt j) :: zc G (2, (i : Int)) :: r.map (zc G)))
  rw [zc_ref (by omega), zad_n]
  have hrg := zrow_rg hP.2.2 hi (by omega) hj.1 (fun k => zTg20 (k := k) hci)
  refine va_iald hx hb hKt hP.1 i 0 (by rw [zW_get hi, zE_20 hci]) rfl (z_inA hj hjr) hd ?_
  have e1 := z_idx hj.1 hjr
  rw [e1]
  refine kk p e R s m args below meth c QW C H locs ls hP hS hL (zStk_c.mpr ⟨⟨?_, by simp⟩, hSt1⟩) a1 a2 a3
  rcases hrg with ⟨q, -⟩ | q
  · cases q
  · exact q
theorem zs_zald {l : Launch} {G : zG} {md d : Nat} {h : zHdr} {n0 : Nat} {Q : Int → zH → Prop} {QX : Nat → zH → Prop} {pc : Nat} {L r : List zV} {v : zH} {n : Nat} {a j : Int} (hd : decode (hB h) pc = .ok (.baload, 1)) (hcl : zCL a = 21) (hj : 0 ≤ j ∧ j < zLN a) (kk : zJp l G md d h n0 Q QX (pc + 1) L ((0, v a j) :: r) v n) : zJp l G md d h n0 Q QX pc L ((0, j) :: (2, a) :: r) v n := by
  intro p e R s m args below meth c QW C H locs ls hP hS hL hSt a1 a2 a3
  obtain ⟨⟨hx, hb, hml, hown, hts⟩, ⟨hKt, hZt, hB0, hB1⟩, ⟨hf1, hf2, hf3, hf4⟩, hin, hHR, hHX⟩ := id C
  obtain ⟨⟨hjr, -⟩, hSt0⟩ := zStk_c.mp hSt
  obtain ⟨⟨hor, -⟩, hSt1⟩ := zStk_c.mp hSt0
  obtain ⟨i, rfl, hi, hci⟩ := zcell hor hcl (by omega)
  show W p l e R s m args below meth c H locs (n - n0) (zSZ n - zSZ n0) QW (F0 m pc ls (.int (Int32.ofInt j) :: zc G (2, (i : Int)) :: r.map (zc G)))
  rw [zc_ref (by omega), zad_n]
  have hrg := zrow_rg hP.2.2 hi (by omega) hj.1 (fun k => zTg21 (k := k) hci)
  refine va_zald hx hb hKt hP.1 i 1 (by rw [zW_get hi, zE_21 hci]) rfl (z_inA hj hjr) hd ?_
  have e1 := z_idx hj.1 hjr
  rw [e1]
  refine kk p e R s m args below meth c QW C H locs ls hP hS hL (zStk_c.mpr ⟨⟨?_, by simp⟩, hSt1⟩) a1 a2 a3
  rcases hrg with ⟨q, -⟩ | q
  · cases q
  · exact q
theorem zs_lald {l : Launch} {G : zG} {md d : Nat} {h : zHdr} {n0 : Nat} {Q : Int → zH → Prop} {QX : Nat → zH → Prop} {pc : Nat} {L r : List zV} {v : zH} {n : Nat} {a j : Int} (hd : decode (hB h) pc = .ok (.laload, 1)) (hcl : zCL a = 22) (hj : 0 ≤ j ∧ j < zLN a) (kk : zJp l G md d h n0 Q QX (pc + 1) L ((1, v a j) :: r) v n) : zJp l G md d h n0 Q QX pc L ((0, j) :: (2, a) :: r) v n := by
  intro p e R s m args below meth c QW C H locs ls hP hS hL hSt a1 a2 a3
  obtain ⟨⟨hx, hb, hml, hown, hts⟩, ⟨hKt, hZt, hB0, hB1⟩, ⟨hf1, hf2, hf3, hf4⟩, hin, hHR, hHX⟩ := id C
  obtain ⟨⟨hjr, -⟩, hSt0⟩ := zStk_c.mp hSt
  obtain ⟨⟨hor, -⟩, hSt1⟩ := zStk_c.mp hSt0
  obtain ⟨i, rfl, hi, hci⟩ := zcell hor hcl (by omega)
  show W p l e R s m args below meth c H locs (n - n0) (zSZ n - zSZ n0) QW (F0 m pc ls (.int (Int32.ofInt j) :: zc G (2, (i : Int)) :: r.map (zc G)))
  rw [zc_ref (by omega), zad_n]
  have hrg := zrow_rg hP.2.2 hi (by omega) hj.1 (fun k => zTg22 (k := k) hci)
  refine va_lald hx hb hKt hP.1 i 2 (by rw [zW_get hi, zE_22 hci]) rfl (z_inA hj hjr) hd ?_
  have e1 := z_idx hj.1 hjr
  rw [e1]
  refine kk p e R s m args below meth c QW C H locs ls hP hS hL (zStk_c.mpr ⟨⟨?_, by simp⟩, hSt1⟩) a1 a2 a3
  rcases hrg with ⟨q, -⟩ | q
  · cases q
  · exact q
theorem zs_aald {l : Launch} {G : zG} {md d : Nat} {h : zHdr} {n0 : Nat} {Q : Int → zH → Prop} {QX : Nat → zH → Prop} {pc : Nat} {L r : List zV} {v : zH} {n : Nat} {a j : Int} (hd : decode (hB h) pc = .ok (.aaload, 1)) (hcl : zCL a = 23) (hj : 0 ≤ j ∧ j < zLN a) (hnn : v a j ≠ -1000) (kk : zJp l G md d h n0 Q QX (pc + 1) L ((2, v a j) :: r) v n) : zJp l G md d h n0 Q QX pc L ((0, j) :: (2, a) :: r) v n := by
  intro p e R s m args below meth c QW C H locs ls hP hS hL hSt a1 a2 a3
  obtain ⟨⟨hx, hb, hml, hown, hts⟩, ⟨hKt, hZt, hB0, hB1⟩, ⟨hf1, hf2, hf3, hf4⟩, hin, hHR, hHX⟩ := id C
  obtain ⟨⟨hjr, -⟩, hSt0⟩ := zStk_c.mp hSt
  obtain ⟨⟨hor, -⟩, hSt1⟩ := zStk_c.mp hSt0
  obtain ⟨i, rfl, hi, hci⟩ := zcell hor hcl (by omega)
  show W p l e R s m args below meth c H locs (n - n0) (zSZ n - zSZ n0) QW (F0 m pc ls (.int (Int32.ofInt j) :: zc G (2, (i : Int)) :: r.map (zc G)))
  rw [zc_ref (by omega), zad_n]
  have hrg := zrow_rg hP.2.2 hi (by omega) hj.1 (fun k => zTg23 (k := k) hci)
  refine va_aldq hx hb hKt hP.1 i 3 (by rw [zW_get hi, zE_23 hci]) rfl (z_inA hj hjr) hd ?_
  have e1 := z_idx hj.1 hjr
  rw [e1, if_neg hnn]
  show W p l e R s m args below meth c H locs (n - n0) (zSZ n - zSZ n0) QW (F0 m (pc + 1) ls (.ref (zad G (v i j)) :: r.map (zc G)))
  rw [← zc_ref hnn]
  refine kk p e R s m args below meth c QW C H locs ls hP hS hL (zStk_c.mpr ⟨⟨?_, by simp⟩, hSt1⟩) a1 a2 a3
  rcases hrg with ⟨-, q⟩ | q
  · exact absurd q hnn
  · exact q
theorem zs_iast {l : Launch} {G : zG} {md d : Nat} {h : zHdr} {n0 : Nat} {Q : Int → zH → Prop} {QX : Nat → zH → Prop} {pc : Nat} {L r : List zV} {v : zH} {n : Nat} {a j x : Int} (hd : decode (hB h) pc = .ok (.iastore, 1)) (hcl : zCL a = 20) (hj : 0 ≤ j ∧ j < zLN a) (kk : zJp l G md d h n0 Q QX (pc + 1) L r (zupd v a j x) n) : zJp l G md d h n0 Q QX pc L ((0, x) :: (0, j) :: (2, a) :: r) v n := by
  intro p e R s m args below meth c QW C H locs ls hP hS hL hSt a1 a2 a3
  obtain ⟨⟨hx, hb, hml, hown, hts⟩, ⟨hKt, hZt, hB0, hB1⟩, ⟨hf1, hf2, hf3, hf4⟩, hin, hHR, hHX⟩ := id C
  obtain ⟨⟨hxr, -⟩, hStx⟩ := zStk_c.mp hSt
  obtain ⟨⟨hjr, -⟩, hSt0⟩ := zStk_c.mp hStx
  obtain ⟨⟨hor, -⟩, hSt1⟩ := zStk_c.mp hSt0
  obtain ⟨i, rfl, hi, hci⟩ := zcell hor hcl (by omega)
  show W p l e R s m args below meth c H locs (n - n0) (zSZ n - zSZ n0) QW (F0 m pc ls (.int (Int32.ofInt x) :: .int (Int32.ofInt j) :: zc G (2, (i : Int)) :: r.map (zc G)))
  rw [zc_ref (by omega), zad_n]
  refine va_iast hx hb hKt hP.1 zW_D hS i 0 (by rw [zW_get hi, zE_20 hci]) rfl (z_inA hj hjr) hd (fun H1 locs1 q1 q2 q3 => ?_)
  rw [z32_clamp hjr, zW_set (v' := zupd v i j x) hi (by rw [zE_20 hci, zupd_fun20 hj.1]) (fun j' _ hji => zE_ne (by omega))] at q1
  have hxn : zRn n (zTg i j.toNat) x := by
    rw [zTg20 hci]
    exact Or.inr hxr
  have q1' := zput_ok (j := j.toNat) hP hi hxn (by rw [show ((j.toNat : Nat) : Int) = j by omega]; exact q1)
  rw [show ((j.toNat : Nat) : Int) = j by omega] at q1'
  exact kk p e R s m args below meth c QW C H1 locs1 ls q1' q3 hL hSt1 a1 a2 a3
theorem zs_zast {l : Launch} {G : zG} {md d : Nat} {h : zHdr} {n0 : Nat} {Q : Int → zH → Prop} {QX : Nat → zH → Prop} {pc : Nat} {L r : List zV} {v : zH} {n : Nat} {a j x : Int} (hd : decode (hB h) pc = .ok (.bastore, 1)) (hcl : zCL a = 21) (hj : 0 ≤ j ∧ j < zLN a) (hx01 : x = 0 ∨ x = 1) (kk : zJp l G md d h n0 Q QX (pc + 1) L r (zupd v a j x) n) : zJp l G md d h n0 Q QX pc L ((0, x) :: (0, j) :: (2, a) :: r) v n := by
  intro p e R s m args below meth c QW C H locs ls hP hS hL hSt a1 a2 a3
  obtain ⟨⟨hx, hb, hml, hown, hts⟩, ⟨hKt, hZt, hB0, hB1⟩, ⟨hf1, hf2, hf3, hf4⟩, hin, hHR, hHX⟩ := id C
  obtain ⟨⟨hxr, -⟩, hStx⟩ := zStk_c.mp hSt
  obtain ⟨⟨hjr, -⟩, hSt0⟩ := zStk_c.mp hStx
  obtain ⟨⟨hor, -⟩, hSt1⟩ := zStk_c.mp hSt0
  obtain ⟨i, rfl, hi, hci⟩ := zcell hor hcl (by omega)
  show W p l e R s m args below meth c H locs (n - n0) (zSZ n - zSZ n0) QW (F0 m pc ls (.int (Int32.ofInt x) :: .int (Int32.ofInt j) :: zc G (2, (i : Int)) :: r.map (zc G)))
  rw [zc_ref (by omega), zad_n]
  refine va_zast hx hb hKt hP.1 zW_D hS i 1 (by rw [zW_get hi, zE_21 hci]) rfl (z_inA hj hjr) hd (fun H1 locs1 q1 q2 q3 => ?_)
  have hnar : vp_nar .boolean (Int32.ofInt x) = Int32.ofInt x := by rcases hx01 with rfl | rfl <;> rfl
  rw [hnar] at q1
  rw [z32_clamp hjr, zW_set (v' := zupd v i j x) hi (by rw [zE_21 hci, zupd_fun20 hj.1]) (fun j' _ hji => zE_ne (by omega))] at q1
  have hxn : zRn n (zTg i j.toNat) x := by
    rw [zTg21 hci]
    exact Or.inr hxr
  have q1' := zput_ok (j := j.toNat) hP hi hxn (by rw [show ((j.toNat : Nat) : Int) = j by omega]; exact q1)
  rw [show ((j.toNat : Nat) : Int) = j by omega] at q1'
  exact kk p e R s m args below meth c QW C H1 locs1 ls q1' q3 hL hSt1 a1 a2 a3
theorem zs_last {l : Launch} {G : zG} {md d : Nat} {h : zHdr} {n0 : Nat} {Q : Int → zH → Prop} {QX : Nat → zH → Prop} {pc : Nat} {L r : List zV} {v : zH} {n : Nat} {a j x : Int} (hd : decode (hB h) pc = .ok (.lastore, 1)) (hcl : zCL a = 22) (hj : 0 ≤ j ∧ j < zLN a) (kk : zJp l G md d h n0 Q QX (pc + 1) L r (zupd v a j x) n) : zJp l G md d h n0 Q QX pc L ((1, x) :: (0, j) :: (2, a) :: r) v n := by
  intro p e R s m args below meth c QW C H locs ls hP hS hL hSt a1 a2 a3
  obtain ⟨⟨hx, hb, hml, hown, hts⟩, ⟨hKt, hZt, hB0, hB1⟩, ⟨hf1, hf2, hf3, hf4⟩, hin, hHR, hHX⟩ := id C
  obtain ⟨⟨hxr, -⟩, hStx⟩ := zStk_c.mp hSt
  obtain ⟨⟨hjr, -⟩, hSt0⟩ := zStk_c.mp hStx
  obtain ⟨⟨hor, -⟩, hSt1⟩ := zStk_c.mp hSt0
  obtain ⟨i, rfl, hi, hci⟩ := zcell hor hcl (by omega)
  show W p l e R s m args below meth c H locs (n - n0) (zSZ n - zSZ n0) QW (F0 m pc ls (.long (Int64.ofInt x) :: .int (Int32.ofInt j) :: zc G (2, (i : Int)) :: r.map (zc G)))
  rw [zc_ref (by omega), zad_n]
  refine va_last hx hb hKt hP.1 zW_D hS i 2 (by rw [zW_get hi, zE_22 hci]) rfl (z_inA hj hjr) hd (fun H1 locs1 q1 q2 q3 => ?_)
  rw [z32_clamp hjr, zW_set (v' := zupd v i j x) hi (by rw [zE_22 hci, zupd_fun22 hj.1]) (fun j' _ hji => zE_ne (by omega))] at q1
  have hxn : zRn n (zTg i j.toNat) x := by
    rw [zTg22 hci]
    exact Or.inr hxr
  have q1' := zput_ok (j := j.toNat) hP hi hxn (by rw [show ((j.toNat : Nat) : Int) = j by omega]; exact q1)
  rw [show ((j.toNat : Nat) : Int) = j by omega] at q1'
  exact kk p e R s m args below meth c QW C H1 locs1 ls q1' q3 hL hSt1 a1 a2 a3
theorem zs_aast {l : Launch} {G : zG} {md d : Nat} {h : zHdr} {n0 : Nat} {Q : Int → zH → Prop} {QX : Nat → zH → Prop} {pc : Nat} {L r : List zV} {v : zH} {n : Nat} {a j x : Int} (hd : decode (hB h) pc = .ok (.aastore, 1)) (hcl : zCL a = 23) (hj : 0 ≤ j ∧ j < zLN a) (hxc : zCL x = 2) (kk : zJp l G md d h n0 Q QX (pc + 1) L r (zupd v a j x) n) : zJp l G md d h n0 Q QX pc L ((2, x) :: (0, j) :: (2, a) :: r) v n := by
  intro p e R s m args below meth c QW C H locs ls hP hS hL hSt a1 a2 a3
  obtain ⟨⟨hx, hb, hml, hown, hts⟩, ⟨hKt, hZt, hB0, hB1⟩, ⟨hf1, hf2, hf3, hf4⟩, hin, hHR, hHX⟩ := id C
  obtain ⟨⟨hxr, -⟩, hStx⟩ := zStk_c.mp hSt
  obtain ⟨⟨hjr, -⟩, hSt0⟩ := zStk_c.mp hStx
  obtain ⟨⟨hor, -⟩, hSt1⟩ := zStk_c.mp hSt0
  obtain ⟨i, rfl, hi, hci⟩ := zcell hor hcl (by omega)
  obtain ⟨k, rfl, hkn, hck⟩ := zcell hxr hxc (by omega)
  show W p l e R s m args below meth c H locs (n - n0) (zSZ n - zSZ n0) QW (F0 m pc ls (zc G (2, (k : Int)) :: .int (Int32.ofInt j) :: zc G (2, (i : Int)) :: r.map (zc G)))
  rw [zc_ref (by omega), zc_ref (by omega), zad_n, zad_n]
  refine va_astq (r := zcr 2) hx hb hKt hP.1 zW_D hS i 3 k 2 (by rw [zW_get hi, zE_23 hci]) rfl (by rw [zW_get hkn, zE_o hck (by omega)]) (zcr_get (by omega)) (z_inA hj hjr) hd (fun H1 locs1 q1 q2 q3 => ?_)
  rw [z32_clamp hjr, show zgB G + k = zad G (k : Int) from zad_n.symm, zW_set (v' := zupd v i j k) hi (by rw [zE_23 hci, zupd_fun23 hj.1 (by omega)]) (fun j' _ hji => zE_ne (by omega))] at q1
  have hxn : zRn n (zTg i j.toNat) k := by
    rw [zTg23 hci]
    exact Or.inr hxr
  have q1' := zput_ok (j := j.toNat) hP hi hxn (by rw [show ((j.toNat : Nat) : Int) = j by omega]; exact q1)
  rw [show ((j.toNat : Nat) : Int) = j by omega] at q1'
  exact kk p e R s m args below meth c QW C H1 locs1 ls q1' q3 hL hSt1 a1 a2 a3
theorem zsa {n : Nat} {a : Int} (hr : zRg n 2 a) (hc : zCL a = 25) : ∃ k : Nat, k < 9 ∧ a = -2 - (k : Int) := by
  unfold zCL at hc
  split at hc
  · rename_i h0
    have h7 : ∀ i : Nat, (zTab.getD i (99, 0)).1 ≠ 25 := by
      intro i
      by_cases hi : i < zTab.length
      · exact (show ∀ i, i < zTab.length → (zTab.getD i (99, 0)).1 ≠ 25 by decide +kernel) i hi
      · rw [List.getD_eq_getElem?_getD, List.getElem?_eq_none (by omega)]
        decide
    exact absurd hc (h7 _)
  · split at hc
    · omega
    · split at hc
      · rename_i h1
        exact ⟨(-2 - a).toNat, by omega, by omega⟩
      · split at hc
        · omega
        · split at hc <;> omega
theorem zsb {n : Nat} {a : Int} (hr : zRg n 2 a) (hc : zCL a = 28) : ∃ k : Nat, k < 3 ∧ a = -31 - (k : Int) := by
  unfold zCL at hc
  split at hc
  · rename_i h0
    have h7 : ∀ i : Nat, (zTab.getD i (99, 0)).1 ≠ 28 := by
      intro i
      by_cases hi : i < zTab.length
      · exact (show ∀ i, i < zTab.length → (zTab.getD i (99, 0)).1 ≠ 28 by decide +kernel) i hi
      · rw [List.getD_eq_getElem?_getD, List.getElem?_eq_none (by omega)]
        decide
    exact absurd hc (h7 _)
  · split at hc
    · omega
    · split at hc
      · omega
      · split at hc
        · omega
        · split at hc
          · rename_i h1
            exact ⟨(-31 - a).toNat, by omega, by omega⟩
          · omega
theorem zsc {n : Nat} {a : Int} (hr : zRg n 2 a) (hc : zCL a = 26) : ∃ k : Nat, k < 3 ∧ a = -11 - (k : Int) := by
  unfold zCL at hc
  split at hc
  · rename_i h0
    have h7 : ∀ i : Nat, (zTab.getD i (99, 0)).1 ≠ 26 := by
      intro i
      by_cases hi : i < zTab.length
      · exact (show ∀ i, i < zTab.length → (zTab.getD i (99, 0)).1 ≠ 26 by decide +kernel) i hi
      · rw [List.getD_eq_getElem?_getD, List.getElem?_eq_none (by omega)]
        decide
    exact absurd hc (h7 _)
  · split at hc
    · omega
    · split at hc
      · omega
      · split at hc
        · rename_i h1
          exact ⟨(-11 - a).toNat, by omega, by omega⟩
        · split at hc <;> omega
theorem zLN_sa {k : Nat} (hk : k < 9) : (zLN (-2 - (k : Int))).toNat = (zSTab.getD k []).length := by
  exact (show ∀ k : Nat, k < 9 → (zLN (-2 - (k : Int))).toNat = (zSTab.getD k []).length by decide +kernel) k hk
theorem zLN_sb {k : Nat} (hk : k < 3) : (zLN (-31 - (k : Int))).toNat = (zLTab.getD k []).length := by
  exact (show ∀ k : Nat, k < 3 → (zLN (-31 - (k : Int))).toNat = (zLTab.getD k []).length by decide +kernel) k hk
theorem zSTab_rg : ∀ row ∈ zSTab, ∀ x ∈ row, 0 ≤ x ∧ x ≤ 127 := by decide +kernel
theorem zLTab_rg : ∀ row ∈ zLTab, ∀ x ∈ row, 0 ≤ x ∧ x ≤ 127 := by decide +kernel
theorem zget_rg {T : List (List Int)} (hT : ∀ row ∈ T, ∀ x ∈ row, 0 ≤ x ∧ x ≤ 127) (i j : Nat) : 0 ≤ (T.getD i []).getD j 0 ∧ (T.getD i []).getD j 0 ≤ 127 := by
  rw [List.getD_eq_getElem?_getD (l := T), List.getD_eq_getElem?_getD]
  cases h1 : T[i]? with
  | none => simp
  | some row =>
    simp only [Option.getD_some]
    cases h2 : row[j]? with
    | none => simp
    | some x => exact hT row (List.mem_of_getElem? h1) x (List.mem_of_getElem? h2)
theorem zSA_rg (a j : Int) : 0 ≤ zSA a j ∧ zSA a j ≤ 127 := zget_rg zSTab_rg _ _
theorem zLA_rg (a j : Int) : 0 ≤ zLA a j ∧ zLA a j ≤ 127 := zget_rg zLTab_rg _ _
theorem zad_s {G : zG} {a : Int} (h : a < 0) : zad G a = zgA G a := by
  unfold zad
  rw [if_pos h]
theorem zs_sld {l : Launch} {G : zG} {md d : Nat} {h : zHdr} {n0 : Nat} {Q : Int → zH → Prop} {QX : Nat → zH → Prop} {pc : Nat} {L r : List zV} {v : zH} {n : Nat} {a j : Int} (hd : decode (hB h) pc = .ok (.iaload, 1)) (hcl : zCL a = 25) (hj : 0 ≤ j ∧ j < zLN a) (kk : zJp l G md d h n0 Q QX (pc + 1) L ((0, zSA a j) :: r) v n) : zJp l G md d h n0 Q QX pc L ((0, j) :: (2, a) :: r) v n := by
  intro p e R s m args below meth c QW C H locs ls hP hS hL hSt a1 a2 a3
  obtain ⟨⟨hx, hb, hml, hown, hts⟩, ⟨hKt, hZt, hB0, hB1⟩, ⟨hf1, hf2, hf3, hf4⟩, hin, hHR, hHX⟩ := id C
  obtain ⟨⟨hjr, -⟩, hSt0⟩ := zStk_c.mp hSt
  obtain ⟨⟨hor, -⟩, hSt1⟩ := zStk_c.mp hSt0
  obtain ⟨k, hk, rfl⟩ := zsa hor hcl
  show W p l e R s m args below meth c H locs (n - n0) (zSZ n - zSZ n0) QW (F0 m pc ls (.int (Int32.ofInt j) :: zc G (2, -2 - (k : Int)) :: r.map (zc G)))
  rw [zc_ref (by omega), zad_s (by omega)]
  refine va_ti hx hb (hZt.1 k hk) hS (by have := z_inA hj hjr; rwa [zLN_sa hk] at this) rfl hd ?_
  have e1 := z_idx hj.1 hjr
  rw [e1]
  exact kk p e R s m args below meth c QW C H locs ls hP hS hL (zStk_c.mpr ⟨⟨⟨by have := zSA_rg (-2 - (k : Int)) j; show -2147483648 ≤ zSA (-2 - (k : Int)) j; omega, by have := zSA_rg (-2 - (k : Int)) j; show zSA (-2 - (k : Int)) j ≤ 2147483647; omega⟩, by simp⟩, hSt1⟩) a1 a2 a3
theorem zs_bld {l : Launch} {G : zG} {md d : Nat} {h : zHdr} {n0 : Nat} {Q : Int → zH → Prop} {QX : Nat → zH → Prop} {pc : Nat} {L r : List zV} {v : zH} {n : Nat} {a j : Int} (hd : decode (hB h) pc = .ok (.baload, 1)) (hcl : zCL a = 28) (hj : 0 ≤ j ∧ j < zLN a) (kk : zJp l G md d h n0 Q QX (pc + 1) L ((0, zLA a j) :: r) v n) : zJp l G md d h n0 Q QX pc L ((0, j) :: (2, a) :: r) v n := by
  intro p e R s m args below meth c QW C H locs ls hP hS hL hSt a1 a2 a3
  obtain ⟨⟨hx, hb, hml, hown, hts⟩, ⟨hKt, hZt, hB0, hB1⟩, ⟨hf1, hf2, hf3, hf4⟩, hin, hHR, hHX⟩ := id C
  obtain ⟨⟨hjr, -⟩, hSt0⟩ := zStk_c.mp hSt
  obtain ⟨⟨hor, -⟩, hSt1⟩ := zStk_c.mp hSt0
  obtain ⟨k, hk, rfl⟩ := zsb hor hcl
  show W p l e R s m args below meth c H locs (n - n0) (zSZ n - zSZ n0) QW (F0 m pc ls (.int (Int32.ofInt j) :: zc G (2, -31 - (k : Int)) :: r.map (zc G)))
  rw [zc_ref (by omega), zad_s (by omega)]
  refine va_tb hx hb (hZt.2.2.2.1 k hk).2.2.2 hS (by have := z_inA hj hjr; rwa [zLN_sb hk] at this) rfl hd ?_
  have e1 := z_idx hj.1 hjr
  rw [e1]
  exact kk p e R s m args below meth c QW C H locs ls hP hS hL (zStk_c.mpr ⟨⟨⟨by have := zLA_rg (-31 - (k : Int)) j; show -2147483648 ≤ zLA (-31 - (k : Int)) j; omega, by have := zLA_rg (-31 - (k : Int)) j; show zLA (-31 - (k : Int)) j ≤ 2147483647; omega⟩, by simp⟩, hSt1⟩) a1 a2 a3
theorem zs_cld {l : Launch} {G : zG} {md d : Nat} {h : zHdr} {n0 : Nat} {Q : Int → zH → Prop} {QX : Nat → zH → Prop} {pc : Nat} {L r : List zV} {v : zH} {n : Nat} {j : Int} (hd : decode (hB h) pc = .ok (.iaload, 1)) (hj : 0 ≤ j ∧ j < zgL G) (kk : zJp l G md d h n0 Q QX (pc + 1) L ((0, zgS G j) :: r) v n) : zJp l G md d h n0 Q QX pc L ((0, j) :: (2, -20) :: r) v n := by
  intro p e R s m args below meth c QW C H locs ls hP hS hL hSt a1 a2 a3
  obtain ⟨⟨hx, hb, hml, hown, hts⟩, ⟨hKt, hZt, hB0, hB1⟩, ⟨hf1, hf2, hf3, hf4⟩, hin, hHR, hHX⟩ := id C
  obtain ⟨⟨hjr, -⟩, hSt0⟩ := zStk_c.mp hSt
  obtain ⟨⟨hor, -⟩, hSt1⟩ := zStk_c.mp hSt0
  show W p l e R s m args below meth c H locs (n - n0) (zSZ n - zSZ n0) QW (F0 m pc ls (.int (Int32.ofInt j) :: zc G (2, -20) :: r.map (zc G)))
  rw [zc_ref (by omega), zad_s (by omega)]
  have e1 := z_idx hj.1 hjr
  refine va_ti hx hb hZt.2.2.1.1 hS (z_in rfl hj.1 hj.2 hjr) rfl hd ?_
  rw [e1]
  have hrg := hZt.2.2.1.2.2.2 j.toNat
  rw [show ((j.toNat : Nat) : Int) = j by omega] at hrg
  exact kk p e R s m args below meth c QW C H locs ls hP hS hL (zStk_c.mpr ⟨⟨hrg, by simp⟩, hSt1⟩) a1 a2 a3
theorem zLN_of (a : Int) : Int32.ofNat (zLN a).toNat = Int32.ofInt (zLN a) := by
  have := zLN_le a
  rw [← z_nat, show (((zLN a).toNat : Nat) : Int) = zLN a by omega]
theorem zs_len {l : Launch} {G : zG} {md d : Nat} {h : zHdr} {n0 : Nat} {Q : Int → zH → Prop} {QX : Nat → zH → Prop} {pc : Nat} {L r : List zV} {v : zH} {n : Nat} {a : Int} (hd : decode (hB h) pc = .ok (.arraylength, 1)) (hcl : zCL a = 20 ∨ zCL a = 21 ∨ zCL a = 23) (kk : zJp l G md d h n0 Q QX (pc + 1) L ((0, zLN a) :: r) v n) : zJp l G md d h n0 Q QX pc L ((2, a) :: r) v n := by
  intro p e R s m args below meth c QW C H locs ls hP hS hL hSt a1 a2 a3
  obtain ⟨⟨hx, hb, hml, hown, hts⟩, ⟨hKt, hZt, hB0, hB1⟩, ⟨hf1, hf2, hf3, hf4⟩, hin, hHR, hHX⟩ := id C
  obtain ⟨⟨hor, -⟩, hSt1⟩ := zStk_c.mp hSt
  have hlt : zI (zLN a) := by
    have h0 : 0 ≤ a := by rcases hcl with q | q | q <;> exact zCL_le q (by omega)
    have := zLN_small h0
    have := zLN_le a
    exact ⟨by omega, by omega⟩
  have kk' := kk p e R s m args below meth c QW C H locs ls hP hS hL (zStk_c.mpr ⟨⟨hlt, by simp⟩, hSt1⟩) a1 a2 a3
  rcases hcl with hcl | hcl | hcl
  · obtain ⟨i, rfl, hi, hci⟩ := zcell hor hcl (by omega)
    show W p l e R s m args below meth c H locs (n - n0) (zSZ n - zSZ n0) QW (F0 m pc ls (zc G (2, (i : Int)) :: r.map (zc G)))
    rw [zc_ref (by omega), zad_n]
    exact va_alen hx hb hKt hP.1 i 0 (by rw [zW_get hi, zE_20 hci]) rfl (zLN_of i) hd kk'
  · obtain ⟨i, rfl, hi, hci⟩ := zcell hor hcl (by omega)
    show W p l e R s m args below meth c H locs (n - n0) (zSZ n - zSZ n0) QW (F0 m pc ls (zc G (2, (i : Int)) :: r.map (zc G)))
    rw [zc_ref (by omega), zad_n]
    exact va_alen hx hb hKt hP.1 i 1 (by rw [zW_get hi, zE_21 hci]) rfl (zLN_of i) hd kk'
  · obtain ⟨i, rfl, hi, hci⟩ := zcell hor hcl (by omega)
    show W p l e R s m args below meth c H locs (n - n0) (zSZ n - zSZ n0) QW (F0 m pc ls (zc G (2, (i : Int)) :: r.map (zc G)))
    rw [zc_ref (by omega), zad_n]
    exact va_alen hx hb hKt hP.1 i 3 (by rw [zW_get hi, zE_23 hci]) rfl (zLN_of i) hd kk'
theorem zs_slen {l : Launch} {G : zG} {md d : Nat} {h : zHdr} {n0 : Nat} {Q : Int → zH → Prop} {QX : Nat → zH → Prop} {pc : Nat} {L r : List zV} {v : zH} {n : Nat} {a : Int} (hd : decode (hB h) pc = .ok (.arraylength, 1)) (hcl : zCL a = 25 ∨ zCL a = 28) (kk : zJp l G md d h n0 Q QX (pc + 1) L ((0, zLN a) :: r) v n) : zJp l G md d h n0 Q QX pc L ((2, a) :: r) v n := by
  intro p e R s m args below meth c QW C H locs ls hP hS hL hSt a1 a2 a3
  obtain ⟨⟨hx, hb, hml, hown, hts⟩, ⟨hKt, hZt, hB0, hB1⟩, ⟨hf1, hf2, hf3, hf4⟩, hin, hHR, hHX⟩ := id C
  obtain ⟨⟨hor, -⟩, hSt1⟩ := zStk_c.mp hSt
  rcases hcl with hcl | hcl
  · obtain ⟨k, hk, rfl⟩ := zsa hor hcl
    show W p l e R s m args below meth c H locs (n - n0) (zSZ n - zSZ n0) QW (F0 m pc ls (zc G (2, -2 - (k : Int)) :: r.map (zc G)))
    rw [zc_ref (by omega), zad_s (by omega)]
    have e0 := zLN_sa hk
    have e9 : (zSTab.getD k []).length ≤ 5 := (show ∀ k, k < 9 → (zSTab.getD k []).length ≤ 5 by decide +kernel) k hk
    have e1 := zLN_le (-2 - (k : Int))
    exact va_tlen hx hb (hZt.1 k hk) hS (by rw [← e0]; exact zLN_of _) hd (kk p e R s m args below meth c QW C H locs ls hP hS hL (zStk_c.mpr ⟨⟨⟨by show -2147483648 ≤ zLN (-2 - (k : Int)); omega, by show zLN (-2 - (k : Int)) ≤ 2147483647; omega⟩, by simp⟩, hSt1⟩) a1 a2 a3)
  · obtain ⟨k, hk, rfl⟩ := zsb hor hcl
    show W p l e R s m args below meth c H locs (n - n0) (zSZ n - zSZ n0) QW (F0 m pc ls (zc G (2, -31 - (k : Int)) :: r.map (zc G)))
    rw [zc_ref (by omega), zad_s (by omega)]
    have e0 := zLN_sb hk
    have e9 : (zLTab.getD k []).length ≤ 5 := (show ∀ k, k < 3 → (zLTab.getD k []).length ≤ 5 by decide +kernel) k hk
    have e1 := zLN_le (-31 - (k : Int))
    exact va_tlen hx hb (hZt.2.2.2.1 k hk).2.2.2 hS (by rw [← e0]; exact zLN_of _) hd (kk p e R s m args below meth c QW C H locs ls hP hS hL (zStk_c.mpr ⟨⟨⟨by show -2147483648 ≤ zLN (-31 - (k : Int)); omega, by show zLN (-31 - (k : Int)) ≤ 2147483647; omega⟩, by simp⟩, hSt1⟩) a1 a2 a3)
theorem zs_clen {l : Launch} {G : zG} {md d : Nat} {h : zHdr} {n0 : Nat} {Q : Int → zH → Prop} {QX : Nat → zH → Prop} {pc : Nat} {L r : List zV} {v : zH} {n : Nat} (hd : decode (hB h) pc = .ok (.arraylength, 1)) (kk : zJp l G md d h n0 Q QX (pc + 1) L ((0, zgL G) :: r) v n) : zJp l G md d h n0 Q QX pc L ((2, -20) :: r) v n := by
  intro p e R s m args below meth c QW C H locs ls hP hS hL hSt a1 a2 a3
  obtain ⟨⟨hx, hb, hml, hown, hts⟩, ⟨hKt, hZt, hB0, hB1⟩, ⟨hf1, hf2, hf3, hf4⟩, hin, hHR, hHX⟩ := id C
  obtain ⟨⟨hor, -⟩, hSt1⟩ := zStk_c.mp hSt
  show W p l e R s m args below meth c H locs (n - n0) (zSZ n - zSZ n0) QW (F0 m pc ls (zc G (2, -20) :: r.map (zc G)))
  rw [zc_ref (by omega), zad_s (by omega)]
  have e1 := hZt.2.2.1.2.1
  have e2 := hZt.2.2.1.2.2.1
  exact va_tlen hx hb hZt.2.2.1.1 hS (by rw [← z_nat, show (((zgL G).toNat : Nat) : Int) = zgL G by omega]) hd (kk p e R s m args below meth c QW C H locs ls hP hS hL (zStk_c.mpr ⟨⟨⟨by show -2147483648 ≤ zgL G; omega, by show zgL G ≤ 2147483647; omega⟩, by simp⟩, hSt1⟩) a1 a2 a3)
theorem zs_sval {l : Launch} {G : zG} {md d : Nat} {h : zHdr} {n0 : Nat} {Q : Int → zH → Prop} {QX : Nat → zH → Prop} {pc : Nat} {L r : List zV} {v : zH} {n : Nat} {idx : Nat} {o : Int} (hd : decode (hB h) pc = .ok (.getfield idx, 3)) (hw : Jvm.Cond.fieldLink (hO h) idx "java/lang/String" "value" "[B" ∈ zws) (hcl : zCL o = 26) (kk : zJp l G md d h n0 Q QX (pc + 3) L ((2, o - 20) :: r) v n) : zJp l G md d h n0 Q QX pc L ((2, o) :: r) v n := by
  intro p e R s m args below meth c QW C H locs ls hP hS hL hSt a1 a2 a3
  obtain ⟨⟨hx, hb, hml, hown, hts⟩, ⟨hKt, hZt, hB0, hB1⟩, ⟨hf1, hf2, hf3, hf4⟩, hin, hHR, hHX⟩ := id C
  obtain ⟨⟨hor, -⟩, hSt1⟩ := zStk_c.mp hSt
  obtain ⟨k, hk, rfl⟩ := zsc hor hcl
  show W p l e R s m args below meth c H locs (n - n0) (zSZ n - zSZ n0) QW (F0 m pc ls (zc G (2, -11 - (k : Int)) :: r.map (zc G)))
  rw [zc_ref (by omega), zad_s (by omega)]
  refine vk_getf hx hb (hZt.2.2.2.1 k hk).2.2.1 hS hown (hts _ hw) (fun _ q => q) hd ?_
  have e1 : Value.ref (zgA G (-31 - (k : Int))) = zc G (2, -11 - (k : Int) - 20) := by
    rw [zc_ref (by omega), zad_s (by omega), show -11 - (k : Int) - 20 = -31 - (k : Int) by omega]
  rw [e1]
  exact kk p e R s m args below meth c QW C H locs ls hP hS hL (zStk_c.mpr ⟨⟨⟨by show -40 ≤ -11 - (k : Int) - 20; omega, by show -11 - (k : Int) - 20 < _; omega⟩, by simp⟩, hSt1⟩) a1 a2 a3
theorem zs_scod {l : Launch} {G : zG} {md d : Nat} {h : zHdr} {n0 : Nat} {Q : Int → zH → Prop} {QX : Nat → zH → Prop} {pc : Nat} {L r : List zV} {v : zH} {n : Nat} {idx : Nat} {o : Int} (hd : decode (hB h) pc = .ok (.getfield idx, 3)) (hw : Jvm.Cond.fieldLink (hO h) idx "java/lang/String" "coder" "B" ∈ zws) (hcl : zCL o = 26) (kk : zJp l G md d h n0 Q QX (pc + 3) L ((0, 0) :: r) v n) : zJp l G md d h n0 Q QX pc L ((2, o) :: r) v n := by
  intro p e R s m args below meth c QW C H locs ls hP hS hL hSt a1 a2 a3
  obtain ⟨⟨hx, hb, hml, hown, hts⟩, ⟨hKt, hZt, hB0, hB1⟩, ⟨hf1, hf2, hf3, hf4⟩, hin, hHR, hHX⟩ := id C
  obtain ⟨⟨hor, -⟩, hSt1⟩ := zStk_c.mp hSt
  obtain ⟨k, hk, rfl⟩ := zsc hor hcl
  show W p l e R s m args below meth c H locs (n - n0) (zSZ n - zSZ n0) QW (F0 m pc ls (zc G (2, -11 - (k : Int)) :: r.map (zc G)))
  rw [zc_ref (by omega), zad_s (by omega)]
  refine vk_getf hx hb (hZt.2.2.2.1 k hk).2.1 hS hown (hts _ hw) (fun _ q => q) hd ?_
  exact kk p e R s m args below meth c QW C H locs ls hP hS hL (zStk_c.mpr ⟨⟨⟨by simp, by simp⟩, by simp⟩, hSt1⟩) a1 a2 a3
theorem zs_gst0 {l : Launch} {G : zG} {md d : Nat} {h : zHdr} {n0 : Nat} {Q : Int → zH → Prop} {QX : Nat → zH → Prop} {pc : Nat} {L st : List zV} {v : zH} {n : Nat} {idx k : Nat} (hd : decode (hB h) pc = .ok (.getstatic idx, 3)) (hk : k < 9) (hw : Jvm.Cond.fieldLink (hO h) idx "WarmWall$Wall" (zSNm.getD k "") "[I" ∈ zws) (kk : zJp l G md d h n0 Q QX (pc + 3) L ((2, -2 - (k : Int)) :: st) v n) : zJp l G md d h n0 Q QX pc L st v n := by
  intro p e R s m args below meth c QW C H locs ls hP hS hL hSt a1 a2 a3
  obtain ⟨⟨hx, hb, hml, hown, hts⟩, ⟨hKt, hZt, hB0, hB1⟩, ⟨hf1, hf2, hf3, hf4⟩, hin, hHR, hHX⟩ := id C
  refine va_gets hx hb (hZt.2.1 k hk) hS hown (hts _ hw) (fun _ q => q) hd ?_
  have e1 : Value.ref (zgA G (-2 - (k : Int))) = zc G (2, -2 - (k : Int)) := by
    rw [zc_ref (by omega), zad_s (by omega)]
  rw [e1]
  exact kk p e R s m args below meth c QW C H locs ls hP hS hL (zStk_c.mpr ⟨⟨⟨by show -40 ≤ -2 - (k : Int); omega, by show -2 - (k : Int) < _; omega⟩, by simp⟩, hSt⟩) a1 a2 a3
theorem zs_gst1 {l : Launch} {G : zG} {md d : Nat} {h : zHdr} {n0 : Nat} {Q : Int → zH → Prop} {QX : Nat → zH → Prop} {pc : Nat} {L st : List zV} {v : zH} {n : Nat} {idx : Nat} (hd : decode (hB h) pc = .ok (.getstatic idx, 3)) (hw : Jvm.Cond.fieldLink (hO h) idx "jdk/internal/util/Preconditions" "SIOOBE_FORMATTER" "Ljava/util/function/BiFunction;" ∈ zws) (kk : zJp l G md d h n0 Q QX (pc + 3) L ((5, zgF G) :: st) v n) : zJp l G md d h n0 Q QX pc L st v n := by
  intro p e R s m args below meth c QW C H locs ls hP hS hL hSt a1 a2 a3
  obtain ⟨⟨hx, hb, hml, hown, hts⟩, ⟨hKt, hZt, hB0, hB1⟩, ⟨hf1, hf2, hf3, hf4⟩, hin, hHR, hHX⟩ := id C
  refine va_gets hx hb hZt.2.2.2.2.2.2.1 hS hown (hts _ hw) (fun _ q => q) hd ?_
  exact kk p e R s m args below meth c QW C H locs ls hP hS hL (zStk_c.mpr ⟨⟨trivial, by simp⟩, hSt⟩) a1 a2 a3
theorem zs_gst2 {l : Launch} {G : zG} {md d : Nat} {h : zHdr} {n0 : Nat} {Q : Int → zH → Prop} {QX : Nat → zH → Prop} {pc : Nat} {L st : List zV} {v : zH} {n : Nat} {idx : Nat} (hd : decode (hB h) pc = .ok (.getstatic idx, 3)) (hw : Jvm.Cond.fieldLink (hO h) idx "java/lang/String" "COMPACT_STRINGS" "Z" ∈ zws) (kk : zJp l G md d h n0 Q QX (pc + 3) L ((0, 1) :: st) v n) : zJp l G md d h n0 Q QX pc L st v n := by
  intro p e R s m args below meth c QW C H locs ls hP hS hL hSt a1 a2 a3
  obtain ⟨⟨hx, hb, hml, hown, hts⟩, ⟨hKt, hZt, hB0, hB1⟩, ⟨hf1, hf2, hf3, hf4⟩, hin, hHR, hHX⟩ := id C
  refine va_gets hx hb hZt.2.2.2.2.2.1 hS hown (hts _ hw) (fun _ q => q) hd ?_
  exact kk p e R s m args below meth c QW C H locs ls hP hS hL (zStk_c.mpr ⟨⟨⟨by simp, by simp⟩, by simp⟩, hSt⟩) a1 a2 a3
end
section
/-! new cells, calls, ends, switches -/
/-- the heap is no larger than the start's and the cells made since -/
theorem zW_size {p : Program} {l : Launch} {e : Env} {R : Room} {s : State} {m : MethodId} {args : Array Value} {below : List Frame} {meth : Method} {c : Code} {H : Heap} {locs : List Loc} {cells slots : Nat} {Q : State → Prop} {g : JFrame} (k : H.size ≤ s.heap.size + cells → W p l e R s m args below meth c H locs cells slots Q g) : W p l e R s m args below meth c H locs cells slots Q g := by
  intro T hT X
  refine k ?_ T hT X
  have h := X.same.2.2.1
  rw [← hT]
  exact h
theorem zborn_o {v : zH} {n : Nat} {i : Nat} (h : i < n) (j : Int) : zborn v n i j = v i j := by
  unfold zborn
  rw [if_neg (by omega)]
theorem zW_born {G : zG} {v : zH} {n : Nat} : zW G 0 (zborn v n) (n + 1) = zW G 0 v n ++ [(zgB G + n, zE G 0 (zborn v n) n)] := by
  unfold zW
  rw [List.range_succ, List.map_append]
  congr 1
  apply List.map_congr_left
  intro i hi
  rw [zE_congr (fun j => zborn_o (List.mem_range.mp hi) j)]
theorem zfv0 {v : zH} {i : Int} {k : Nat} : zfv 0 v i k = v i k := by simp [zfv]
theorem zborn_s {v : zH} {n k : Nat} : zborn v n n k = if zTg n k = 2 then -1000 else 0 := by simp [zborn]
theorem zRg0 {n t : Nat} (h : t ≠ 2) : zRg n t 0 := by
  unfold zRg
  split
  · exact ⟨by decide, by decide⟩
  · exact ⟨by decide, by decide⟩
  · exact absurd rfl h
  · trivial
theorem zOk_born {v : zH} {n : Nat} (h : zOk 0 v n) : zOk 0 (zborn v n) (n + 1) := by
  intro i hi k
  rw [zfv0]
  by_cases hin : i < n
  · rw [zborn_o hin]
    have := h i hin k
    rw [zfv0] at this
    exact zRn_mono this (by omega)
  · have e : i = n := by omega
    subst e
    rw [zborn_s]
    by_cases ht : zTg (i : Int) k = 2
    · rw [if_pos ht]; exact Or.inl ⟨ht, rfl⟩
    · rw [if_neg ht]; exact Or.inr (zRg0 ht)
theorem zP_born {G : zG} {v : zH} {n : Nat} {H H1 : Heap} (hP : zP G 0 v n H) (hs : H.size = zgB G + n) (h1 : H1.size = H.size + 1) (ho : ∀ q, q < H.size → H1[q]? = H[q]?) (hn : va_at (zgD G) zcl (zgB G + n, zE G 0 (zborn v n) n) H1) : zP G 0 (zborn v n) (n + 1) H1 := by
  refine ⟨?_, by omega, zOk_born hP.2.2⟩
  rw [zW_born]
  refine (hP.1.kept (fun k q hk => ho _ ((hP.1 k q hk).lt))).app (fun k q hk => ?_)
  have hz : k < 1 := (List.getElem?_eq_some_iff.mp hk).1
  rw [show k = 0 by omega] at hk
  cases hk
  exact hn
theorem zL_mono {G : zG} {n n' nL : Nat} {ls : Array Slot} {L : List zV} (h : zLs G n ls nL L) (hn : n ≤ n') : zLs G n' ls nL L := ⟨h.1, h.2.1, fun i t x e q => ⟨(h.2.2 i t x e q).1, zRg_mono (h.2.2 i t x e q).2 hn⟩⟩
theorem zStk_mono {n n' : Nat} {st : List zV} (h : zStk n st) (hn : n ≤ n') : zStk n' st := fun q hq => ⟨zRg_mono (h q hq).1 hn, (h q hq).2⟩
theorem zS_new {A : Nat → Prop} {H0 H H1 : Heap} {locs : List Loc} (h : va_S A H0 H locs) (h1 : H1.size = H.size + 1) (ho : ∀ q, q < H.size → H1[q]? = H[q]?) : va_S A H0 H1 locs := ⟨Nat.le_trans h.1 (by omega), fun q a b => (ho q (Nat.lt_of_lt_of_le a h.1)).trans (h.2.1 q a b), h.2.2⟩
theorem zdef_all : ∀ ci, ci < 12 → ∀ j, j < (zcr ci).2.2 → ((zfk ci j = 0 ∨ zfk ci j = 4) ∧ zFT ci j = 0 ∨ zfk ci j = 2 ∧ zFT ci j = 2) := by decide +kernel
theorem zdef {G : zG} (ci : Nat) (hci : ci < 12) (j : Nat) (hj : j < (zcr ci).2.2) {ty : FieldType} (hty : parseFieldDescriptor ((zcr ci).2.1 j).2.2.1 = some ty) : defaultValue ty = zc G (zFT ci j, if zFT ci j = 2 then -1000 else 0) := by
  have h := zdef_all ci hci j hj
  unfold zfk at h
  rw [hty] at h
  rcases h with ⟨h, h2⟩ | ⟨h, h2⟩
  · rw [h2]
    cases ty <;> first | rfl | (simp at h)
  · rw [h2]
    cases ty <;> first | rfl | (simp at h)
theorem zSZ_at {n : Nat} {c : Nat} (hc : zCL (n : Int) = c) (h : c < 24) : zSZ (n + 1) = zSZ n + (if c < 20 then zNF c else (zLN (n : Int)).toNat) := by
  have hn : n < zTab.length := by
    by_cases q : n < zTab.length
    · exact q
    · exfalso
      unfold zCL at hc
      rw [if_pos (by omega), List.getD_eq_getElem?_getD, List.getElem?_eq_none (by omega)] at hc
      simp at hc
      omega
  unfold zSZ
  rw [List.take_succ_eq_append_getElem hn, List.map_append, List.sum_append]
  have e1 : zTab.getD n (99, 0) = zTab[n] := by
    rw [List.getD_eq_getElem?_getD, List.getElem?_eq_getElem hn]
    rfl
  have e2 : (zTab[n]).1 = c := by
    rw [← hc]
    unfold zCL
    rw [if_pos (by omega), ← e1]
    rfl
  have e3 : (zLN (n : Int)).toNat = (zTab[n]).2 := by
    unfold zLN
    rw [if_pos (by omega), ← e1]
    rfl
  simp only [List.map_cons, List.map_nil, List.sum_cons, List.sum_nil, e2, e3, Nat.add_zero]
theorem zs_new {l : Launch} {G : zG} {md d : Nat} {h : zHdr} {n0 : Nat} {Q : Int → zH → Prop} {QX : Nat → zH → Prop} {pc : Nat} {L st : List zV} {v : zH} {n : Nat} {idx ci : Nat} (hd : decode (hB h) pc = .ok (.new idx, 3)) (hci : ci < 12) (w1 : Jvm.Cond.classLink (hO h) idx (zcr ci).1 ∈ zws) (w2 : Jvm.Cond.instantiable (zcr ci).1 (zcr ci).2.2 ∈ zws) (w3 : Jvm.Cond.initialized (zcr ci).1 ∈ zws) (hcl : zCL (n : Int) = ci) (hmd : md = 0) (hm : n + 1 ≤ n0 + hMc h) (hz : zSZ (n + 1) ≤ zSZ n0 + hMs h) (kk : zJp l G md d h n0 Q QX (pc + 3) L ((2, (n : Int)) :: st) (zborn v n) (n + 1)) : zJp l G md d h n0 Q QX pc L st v n := by
  subst hmd
  intro p e R s m args below meth c QW C H locs ls hP hS hL hSt a1 a2 a3
  obtain ⟨⟨hx, hb, hml, hown, hts⟩, ⟨hKt, hZt, hB0, hB1⟩, ⟨hf1, hf2, hf3, hf4⟩, hin, hHR, hHX⟩ := id C
  refine zW_size fun hsz => ?_
  have hB2 := hB1 rfl
  have hsize : H.size = zgB G + n := by have := hP.2.1; omega
  obtain ⟨hok1, ⟨ty, hty⟩, hnm⟩ := zcl_ok ci (zcr ci) (zcr_get hci)
  have hKn := hKt.1 ci _ (zcr_get hci)
  have hSZ := zSZ_at hcl (by omega)
  rw [if_pos (by omega), zNF_ok ci hci] at hSZ
  refine W.newcK hx hb hown (hts _ w1) (hts _ w2) (hts _ w3) rfl hd (by omega) (by have := zSZ_mono a1; omega) hKn.2.1 rfl fun H1 kC hkC e1 z1 o1 => ?_
  have hat : va_at (zgD G) zcl (zgB G + n, zE G 0 (zborn v n) n) H1 := by
    rw [zE_o hcl hci]
    refine ⟨_, zcr_get hci, ?_⟩
    rw [← hsize]
    refine (u_born ty hts hok1 hKn hkC e1 hty).to (fun j hj => ?_)
    have hjN : j < zNF ci := by rw [zNF_ok ci hci]; exact hj
    unfold vp_V
    rw [List.getD_eq_getElem?_getD, zfs_get hjN, Option.getD_some, zfv0, zborn_s]
    have h8 : zTg (n : Int) j = zFT ci j := by
      unfold zTg
      rw [hcl, if_neg (by omega), if_neg (by omega), if_neg (by omega)]
    rw [h8]
    exact zdef ci hci j hj (hty j hj)
  have hPb := zP_born hP hsize z1 o1 hat
  have key := kk p e R s m args below meth c QW C H1 locs ls hPb (zS_new hS z1 o1) (zL_mono hL (by omega)) (zStk_c.mpr ⟨⟨⟨by show (-40 : Int) ≤ (n : Int); omega, by show (n : Int) < ((n + 1 : Nat) : Int); omega⟩, by simp⟩, zStk_mono hSt (by omega)⟩) (by omega) hm hz
  have e5 : n + 1 - n0 = n - n0 + 1 := by omega
  have e6 : zSZ (n + 1) - zSZ n0 = zSZ n - zSZ n0 + (zcr ci).2.2 := by have := zSZ_mono a1; omega
  rw [e5, e6] at key
  have e7 : zc G (2, (n : Int)) = .ref H.size := by rw [zc_ref (by omega), zad_n, hsize]
  show W p l e R s m args below meth c H1 locs (n - n0 + 1) (zSZ n - zSZ n0 + (zcr ci).2.2) QW (F0 m (pc + 3) ls (.ref H.size :: st.map (zc G)))
  rw [← e7]
  exact key
theorem zs_newi {l : Launch} {G : zG} {md d : Nat} {h : zHdr} {n0 : Nat} {Q : Int → zH → Prop} {QX : Nat → zH → Prop} {pc : Nat} {L r : List zV} {v : zH} {n : Nat} {x : Int} (hd : decode (hB h) pc = .ok (.newarray .int, 2)) (w1 : Jvm.Cond.arrayClass .int ∈ zws) (hcl : zCL (n : Int) = 20) (hmd : md = 0) (hm : n + 1 ≤ n0 + hMc h) (hz : zSZ (n + 1) ≤ zSZ n0 + hMs h) (hxl : x = zLN n) (kk : zJp l G md d h n0 Q QX (pc + 2) L ((2, (n : Int)) :: r) (zborn v n) (n + 1)) : zJp l G md d h n0 Q QX pc L ((0, x) :: r) v n := by
  subst hmd
  subst hxl
  intro p e R s m args below meth c QW C H locs ls hP hS hL hSt a1 a2 a3
  obtain ⟨⟨hx, hb, hml, hown, hts⟩, ⟨hKt, hZt, hB0, hB1⟩, ⟨hf1, hf2, hf3, hf4⟩, hin, hHR, hHX⟩ := id C
  obtain ⟨-, hSt1⟩ := zStk_c.mp hSt
  refine zW_size fun hsz => ?_
  have hB2 := hB1 rfl
  have hsize : H.size = zgB G + n := by have := hP.2.1; omega
  have hSZ := zSZ_at hcl (by omega)
  rw [if_neg (by omega)] at hSZ
  have h0 := zLN_le (n : Int)
  have h1 := zLN_small (show (0 : Int) ≤ (n : Int) by omega)
  have hI : zI (zLN (n : Int)) := ⟨by omega, by omega⟩
  show W p l e R s m args below meth c H locs (n - n0) (zSZ n - zSZ n0) QW (F0 m pc ls (.int (Int32.ofInt (zLN n)) :: r.map (zc G)))
  refine va_newaK (atype := .int) (N := (zLN (n : Int)).toNat) hx hb (hts _ w1) rfl hd rfl (fun q => by have := (z32_lt0 hI).mp q; omega) (z32_clamp hI) (by show (zLN (n : Int)).toNat * 4 ≤ _; omega) (by omega) (by have := zSZ_mono a1; omega) rfl fun H1 cA e1 z1 o1 hAr hNm => ?_
  have hcA : cA = zgT G 0 := by
    have h2 := (hKt.2 0 _ rfl).2
    exact Option.some.inj (hNm.symm.trans h2)
  have hat : va_at (zgD G) zcl (zgB G + n, zE G 0 (zborn v n) n) H1 := by
    rw [zE_20 hcl, ← hsize, ← hcA]
    show H1[H.size]? = some (vp_cell cA _)
    rw [e1]
    congr 1
    rw [vp_cell_i]
    congr 1
    funext j
    rw [zborn_s, zTg20 hcl]; rfl
  have hPb := zP_born hP hsize z1 o1 hat
  have key := kk p e R s m args below meth c QW C H1 locs ls hPb (zS_new hS z1 o1) (zL_mono hL (by omega)) (zStk_c.mpr ⟨⟨⟨by show (-40 : Int) ≤ (n : Int); omega, by show (n : Int) < ((n + 1 : Nat) : Int); omega⟩, by simp⟩, zStk_mono hSt1 (by omega)⟩) (by omega) hm hz
  have e5 : n + 1 - n0 = n - n0 + 1 := by omega
  have e6 : zSZ (n + 1) - zSZ n0 = zSZ n - zSZ n0 + (zLN (n : Int)).toNat := by have := zSZ_mono a1; omega
  rw [e5, e6] at key
  have e7 : zc G (2, (n : Int)) = .ref H.size := by rw [zc_ref (by omega), zad_n, hsize]
  show W p l e R s m args below meth c H1 locs (n - n0 + 1) (zSZ n - zSZ n0 + (zLN (n : Int)).toNat) QW (F0 m (pc + 2) ls (.ref H.size :: r.map (zc G)))
  rw [← e7]
  exact key
theorem zs_newz {l : Launch} {G : zG} {md d : Nat} {h : zHdr} {n0 : Nat} {Q : Int → zH → Prop} {QX : Nat → zH → Prop} {pc : Nat} {L r : List zV} {v : zH} {n : Nat} {x : Int} (hd : decode (hB h) pc = .ok (.newarray .boolean, 2)) (w1 : Jvm.Cond.arrayClass .boolean ∈ zws) (hcl : zCL (n : Int) = 21) (hmd : md = 0) (hm : n + 1 ≤ n0 + hMc h) (hz : zSZ (n + 1) ≤ zSZ n0 + hMs h) (hxl : x = zLN n) (kk : zJp l G md d h n0 Q QX (pc + 2) L ((2, (n : Int)) :: r) (zborn v n) (n + 1)) : zJp l G md d h n0 Q QX pc L ((0, x) :: r) v n := by
  subst hmd
  subst hxl
  intro p e R s m args below meth c QW C H locs ls hP hS hL hSt a1 a2 a3
  obtain ⟨⟨hx, hb, hml, hown, hts⟩, ⟨hKt, hZt, hB0, hB1⟩, ⟨hf1, hf2, hf3, hf4⟩, hin, hHR, hHX⟩ := id C
  obtain ⟨-, hSt1⟩ := zStk_c.mp hSt
  refine zW_size fun hsz => ?_
  have hB2 := hB1 rfl
  have hsize : H.size = zgB G + n := by have := hP.2.1; omega
  have hSZ := zSZ_at hcl (by omega)
  rw [if_neg (by omega)] at hSZ
  have h0 := zLN_le (n : Int)
  have h1 := zLN_small (show (0 : Int) ≤ (n : Int) by omega)
  have hI : zI (zLN (n : Int)) := ⟨by omega, by omega⟩
  show W p l e R s m args below meth c H locs (n - n0) (zSZ n - zSZ n0) QW (F0 m pc ls (.int (Int32.ofInt (zLN n)) :: r.map (zc G)))
  refine va_newaK (atype := .boolean) (N := (zLN (n : Int)).toNat) hx hb (hts _ w1) rfl hd rfl (fun q => by have := (z32_lt0 hI).mp q; omega) (z32_clamp hI) (by show (zLN (n : Int)).toNat * 1 ≤ _; omega) (by omega) (by have := zSZ_mono a1; omega) rfl fun H1 cA e1 z1 o1 hAr hNm => ?_
  have hcA : cA = zgT G 1 := by
    have h2 := (hKt.2 1 _ rfl).2
    exact Option.some.inj (hNm.symm.trans h2)
  have hat : va_at (zgD G) zcl (zgB G + n, zE G 0 (zborn v n) n) H1 := by
    rw [zE_21 hcl, ← hsize, ← hcA]
    show H1[H.size]? = some (vp_cell cA _)
    rw [e1]
    congr 1
    rw [vp_cell_i]
    congr 1
    funext j
    rw [zborn_s, zTg21 hcl]; rfl
  have hPb := zP_born hP hsize z1 o1 hat
  have key := kk p e R s m args below meth c QW C H1 locs ls hPb (zS_new hS z1 o1) (zL_mono hL (by omega)) (zStk_c.mpr ⟨⟨⟨by show (-40 : Int) ≤ (n : Int); omega, by show (n : Int) < ((n + 1 : Nat) : Int); omega⟩, by simp⟩, zStk_mono hSt1 (by omega)⟩) (by omega) hm hz
  have e5 : n + 1 - n0 = n - n0 + 1 := by omega
  have e6 : zSZ (n + 1) - zSZ n0 = zSZ n - zSZ n0 + (zLN (n : Int)).toNat := by have := zSZ_mono a1; omega
  rw [e5, e6] at key
  have e7 : zc G (2, (n : Int)) = .ref H.size := by rw [zc_ref (by omega), zad_n, hsize]
  show W p l e R s m args below meth c H1 locs (n - n0 + 1) (zSZ n - zSZ n0 + (zLN (n : Int)).toNat) QW (F0 m (pc + 2) ls (.ref H.size :: r.map (zc G)))
  rw [← e7]
  exact key
theorem zs_newl {l : Launch} {G : zG} {md d : Nat} {h : zHdr} {n0 : Nat} {Q : Int → zH → Prop} {QX : Nat → zH → Prop} {pc : Nat} {L r : List zV} {v : zH} {n : Nat} {x : Int} (hd : decode (hB h) pc = .ok (.newarray .long, 2)) (w1 : Jvm.Cond.arrayClass .long ∈ zws) (hcl : zCL (n : Int) = 22) (hmd : md = 0) (hm : n + 1 ≤ n0 + hMc h) (hz : zSZ (n + 1) ≤ zSZ n0 + hMs h) (hxl : x = zLN n) (kk : zJp l G md d h n0 Q QX (pc + 2) L ((2, (n : Int)) :: r) (zborn v n) (n + 1)) : zJp l G md d h n0 Q QX pc L ((0, x) :: r) v n := by
  subst hmd
  subst hxl
  intro p e R s m args below meth c QW C H locs ls hP hS hL hSt a1 a2 a3
  obtain ⟨⟨hx, hb, hml, hown, hts⟩, ⟨hKt, hZt, hB0, hB1⟩, ⟨hf1, hf2, hf3, hf4⟩, hin, hHR, hHX⟩ := id C
  obtain ⟨-, hSt1⟩ := zStk_c.mp hSt
  refine zW_size fun hsz => ?_
  have hB2 := hB1 rfl
  have hsize : H.size = zgB G + n := by have := hP.2.1; omega
  have hSZ := zSZ_at hcl (by omega)
  rw [if_neg (by omega)] at hSZ
  have h0 := zLN_le (n : Int)
  have h1 := zLN_small (show (0 : Int) ≤ (n : Int) by omega)
  have hI : zI (zLN (n : Int)) := ⟨by omega, by omega⟩
  show W p l e R s m args below meth c H locs (n - n0) (zSZ n - zSZ n0) QW (F0 m pc ls (.int (Int32.ofInt (zLN n)) :: r.map (zc G)))
  refine va_newaK (atype := .long) (N := (zLN (n : Int)).toNat) hx hb (hts _ w1) rfl hd rfl (fun q => by have := (z32_lt0 hI).mp q; omega) (z32_clamp hI) (by show (zLN (n : Int)).toNat * 8 ≤ _; omega) (by omega) (by have := zSZ_mono a1; omega) rfl fun H1 cA e1 z1 o1 hAr hNm => ?_
  have hcA : cA = zgT G 2 := by
    have h2 := (hKt.2 2 _ rfl).2
    exact Option.some.inj (hNm.symm.trans h2)
  have hat : va_at (zgD G) zcl (zgB G + n, zE G 0 (zborn v n) n) H1 := by
    rw [zE_22 hcl, ← hsize, ← hcA]
    show H1[H.size]? = some (vp_cell cA _)
    rw [e1]
    congr 1
    rw [vp_cell_l]
    congr 1
    funext j
    rw [zborn_s, zTg22 hcl]; rfl
  have hPb := zP_born hP hsize z1 o1 hat
  have key := kk p e R s m args below meth c QW C H1 locs ls hPb (zS_new hS z1 o1) (zL_mono hL (by omega)) (zStk_c.mpr ⟨⟨⟨by show (-40 : Int) ≤ (n : Int); omega, by show (n : Int) < ((n + 1 : Nat) : Int); omega⟩, by simp⟩, zStk_mono hSt1 (by omega)⟩) (by omega) hm hz
  have e5 : n + 1 - n0 = n - n0 + 1 := by omega
  have e6 : zSZ (n + 1) - zSZ n0 = zSZ n - zSZ n0 + (zLN (n : Int)).toNat := by have := zSZ_mono a1; omega
  rw [e5, e6] at key
  have e7 : zc G (2, (n : Int)) = .ref H.size := by rw [zc_ref (by omega), zad_n, hsize]
  show W p l e R s m args below meth c H1 locs (n - n0 + 1) (zSZ n - zSZ n0 + (zLN (n : Int)).toNat) QW (F0 m (pc + 2) ls (.ref H.size :: r.map (zc G)))
  rw [← e7]
  exact key
theorem zs_newq {l : Launch} {G : zG} {md d : Nat} {h : zHdr} {n0 : Nat} {Q : Int → zH → Prop} {QX : Nat → zH → Prop} {pc : Nat} {L r : List zV} {v : zH} {n : Nat} {x : Int} {idx : Nat} (hd : decode (hB h) pc = .ok (.anewarray idx, 3)) (w1 : Jvm.Cond.classLink (hO h) idx "WarmWall$Law" ∈ zws) (hcl : zCL (n : Int) = 23) (hmd : md = 0) (hm : n + 1 ≤ n0 + hMc h) (hz : zSZ (n + 1) ≤ zSZ n0 + hMs h) (hxl : x = zLN n) (kk : zJp l G md d h n0 Q QX (pc + 3) L ((2, (n : Int)) :: r) (zborn v n) (n + 1)) : zJp l G md d h n0 Q QX pc L ((0, x) :: r) v n := by
  subst hmd
  subst hxl
  intro p e R s m args below meth c QW C H locs ls hP hS hL hSt a1 a2 a3
  obtain ⟨⟨hx, hb, hml, hown, hts⟩, ⟨hKt, hZt, hB0, hB1⟩, ⟨hf1, hf2, hf3, hf4⟩, hin, hHR, hHX⟩ := id C
  obtain ⟨-, hSt1⟩ := zStk_c.mp hSt
  refine zW_size fun hsz => ?_
  have hB2 := hB1 rfl
  have hsize : H.size = zgB G + n := by have := hP.2.1; omega
  have hSZ := zSZ_at hcl (by omega)
  rw [if_neg (by omega)] at hSZ
  have h0 := zLN_le (n : Int)
  have h1 := zLN_small (show (0 : Int) ≤ (n : Int) by omega)
  have hI : zI (zLN (n : Int)) := ⟨by omega, by omega⟩
  show W p l e R s m args below meth c H locs (n - n0) (zSZ n - zSZ n0) QW (F0 m pc ls (.int (Int32.ofInt (zLN n)) :: r.map (zc G)))
  have hcl2 : (Int32.ofInt (zLN (n : Int))).toNatClampNeg = (zLN (n : Int)).toNat := z32_clamp hI
  refine W.anew hx hb hown (hts _ w1) (va_AO.use hZt.2.2.2.2.2.2.2.1) rfl hd rfl (fun q => by have := (z32_lt0 hI).mp q; omega) (by rw [hcl2]; omega) (by omega) (by rw [hcl2]; have := zSZ_mono a1; omega) fun cA kA comp f1 f2 f3 f4 => ?_
  rw [hcl2]
  generalize hH1 : H.push ({ cls := cA, slots := Array.replicate (zLN (n : Int)).toNat .null, vm := .none } : Cell) = H1
  have z1 : H1.size = H.size + 1 := by rw [← hH1, Array.size_push]
  have e1 : H1[H.size]? = some (arrV cA (zLN (n : Int)).toNat (fun _ => .null)) := by rw [← hH1, Array.getElem?_push_size, ← arrV_new]
  have o1 : ∀ q : Nat, q < H.size → H1[q]? = H[q]? := fun q hq => by rw [← hH1, Array.getElem?_push, if_neg (Nat.ne_of_lt hq)]
  have hcA : cA = zgT G 3 := by
    obtain ⟨kA2, comp2, g1, g2, g3, g4⟩ := (hKt.2 3 _ rfl).2
    exact Option.some.inj (f1.symm.trans g4)
  have hat : va_at (zgD G) zcl (zgB G + n, zE G 0 (zborn v n) n) H1 := by
    rw [zE_23 hcl, ← hsize, ← hcA]
    show H1[H.size]? = some (vp_cell cA _)
    rw [e1]
    congr 1
    rw [vp_cell_q]
    congr 1
    funext j
    rw [zborn_s, zTg23 hcl]
    rfl
  have hPb := zP_born hP hsize z1 o1 hat
  have key := kk p e R s m args below meth c QW C H1 locs ls hPb (zS_new hS z1 o1) (zL_mono hL (by omega)) (zStk_c.mpr ⟨⟨⟨by show (-40 : Int) ≤ (n : Int); omega, by show (n : Int) < ((n + 1 : Nat) : Int); omega⟩, by simp⟩, zStk_mono hSt1 (by omega)⟩) (by omega) hm hz
  have e5 : n + 1 - n0 = n - n0 + 1 := by omega
  have e6 : zSZ (n + 1) - zSZ n0 = zSZ n - zSZ n0 + (zLN (n : Int)).toNat := by have := zSZ_mono a1; omega
  rw [e5, e6] at key
  have e7 : zc G (2, (n : Int)) = .ref H.size := by rw [zc_ref (by omega), zad_n, hsize]
  show W p l e R s m args below meth c H1 locs (n - n0 + 1) (zSZ n - zSZ n0 + (zLN (n : Int)).toNat) QW (F0 m (pc + 3) ls (.ref H.size :: r.map (zc G)))
  rw [← e7]
  exact key
theorem zs_exc {l : Launch} {G : zG} {md d : Nat} {h : zHdr} {n0 : Nat} {Q : Int → zH → Prop} {QX : Nat → zH → Prop} {pc : Nat} {L st : List zV} {v : zH} {n : Nat} (hst : st = []) (hn : n = n0) (hq : QX pc v) : zJp l G md d h n0 Q QX pc L st v n := by
  intro p e R s m args below meth c QW C H locs ls hP hS hL hSt a1 a2 a3
  obtain ⟨⟨hx, hb, hml, hown, hts⟩, ⟨hKt, hZt, hB0, hB1⟩, ⟨hf1, hf2, hf3, hf4⟩, hin, hHR, hHX⟩ := id C
  subst hst
  subst hn
  have := hHX H locs ls pc v hq hP hS hL.1
  rw [Nat.sub_self, Nat.sub_self]
  exact this
theorem zs_obj {l : Launch} {G : zG} {md d : Nat} {h : zHdr} {n0 : Nat} {Q : Int → zH → Prop} {QX : Nat → zH → Prop} {pc : Nat} {L r : List zV} {v : zH} {n : Nat} {idx : Nat} {x : Int} (hd : decode (hB h) pc = .ok (.invokespecial idx, 3)) (w1 : Jvm.Cond.methodLink (hO h) idx Lib.objectInit ∈ zws) (w2 : Jvm.Cond.instanceMethod Lib.objectInit ∈ zws) (w3 : Jvm.Cond.code Lib.objectInit ⟨#[0xb1]⟩ 1 none ∈ zws) (hd1 : 1 ≤ d) (hcat : ((r.map (zc G)).map fun v => v.category).sum ≤ 8) (kk : zJp l G md d h n0 Q QX (pc + 3) L r v n) : zJp l G md d h n0 Q QX pc L ((2, x) :: r) v n := by
  intro p e R s m args below meth c QW C H locs ls hP hS hL hSt a1 a2 a3
  obtain ⟨⟨hx, hb, hml, hown, hts⟩, ⟨hKt, hZt, hB0, hB1⟩, ⟨hf1, hf2, hf3, hf4⟩, hin, hHR, hHX⟩ := id C
  obtain ⟨⟨hor, -⟩, hSt1⟩ := zStk_c.mp hSt
  show W p l e R s m args below meth c H locs (n - n0) (zSZ n - zSZ n0) QW (F0 m pc ls (zc G (2, x) :: r.map (zc G)))
  rw [zc_ref (zRg_ref hor)]
  refine W.objInit hx hb hown (hts _ w1) (hts _ w2) (hts _ w3) rfl (by rw [hml]; exact hL.1) rfl hd (by omega) (by show 2 * 0 + ((r.map (zc G)).map fun v => v.category).sum + 12 ≤ R.locals; omega) ?_
  exact kk p e R s m args below meth c QW C H locs ls hP hS hL hSt1 a1 a2 a3
theorem zcp_o {v : zH} {a sp b dp c : Int} {i j : Int} (h : ¬ i = b) : zcp v a sp b dp c i j = v i j := by
  unfold zcp
  rw [if_neg (fun q => h q.1)]
theorem zcp_fun {v : zH} {a sp b dp c : Int} (hsp : 0 ≤ sp) (hdp : 0 ≤ dp) (hc : 0 ≤ c) : (fun k : Nat => Int32.ofInt (zcp v a sp b dp c b k)) = va_cpy (fun k : Nat => Int32.ofInt (v a k)) (fun k : Nat => Int32.ofInt (v b k)) sp.toNat dp.toNat c.toNat := by
  funext k
  unfold va_cpy zcp
  by_cases hk : dp.toNat ≤ k ∧ k < dp.toNat + c.toNat
  · rw [if_pos hk, if_pos ⟨rfl, by omega, by omega⟩]
    show Int32.ofInt (v a (sp + ((k : Int) - dp))) = Int32.ofInt (v a ((sp.toNat + (k - dp.toNat) : Nat) : Int))
    rw [show ((sp.toNat + (k - dp.toNat) : Nat) : Int) = sp + ((k : Int) - dp) by omega]
  · rw [if_neg hk, if_neg (fun q => hk ⟨by omega, by omega⟩)]
theorem zs_copy {l : Launch} {G : zG} {md d : Nat} {h : zHdr} {n0 : Nat} {Q : Int → zH → Prop} {QX : Nat → zH → Prop} {pc : Nat} {L r : List zV} {v : zH} {n : Nat} {idx : Nat} {a sp b dp c0 : Int} (hd : decode (hB h) pc = .ok (.invokestatic idx, 3)) (w1 : Jvm.Cond.methodLink (hO h) idx arraycopyName ∈ zws) (w2 : Jvm.Cond.native arraycopyName ∈ zws) (w3 : Jvm.Cond.static arraycopyName ∈ zws) (w4 : Jvm.Cond.initialized "java/lang/System" ∈ zws) (hd1 : 1 ≤ d) (hca : zCL a = 20) (hcb : zCL b = 20) (hr : 0 ≤ sp ∧ 0 ≤ dp ∧ 0 ≤ c0 ∧ sp + c0 ≤ zLN a ∧ dp + c0 ≤ zLN b)
    (hcat : ((r.map (zc G)).map fun v => v.category).sum ≤ 8) (kk : zJp l G md d h n0 Q QX (pc + 3) L r (zcp v a sp b dp c0) n) : zJp l G md d h n0 Q QX pc L ((0, c0) :: (0, dp) :: (2, b) :: (0, sp) :: (2, a) :: r) v n := by
  intro p e R s m args below meth c QW C H locs ls hP hS hL hSt a1 a2 a3
  obtain ⟨⟨hx, hb, hml, hown, hts⟩, ⟨hKt, hZt, hB0, hB1⟩, ⟨hf1, hf2, hf3, hf4⟩, hin, hHR, hHX⟩ := id C
  obtain ⟨⟨hcr, -⟩, hSt1⟩ := zStk_c.mp hSt
  obtain ⟨⟨hdr, -⟩, hSt2⟩ := zStk_c.mp hSt1
  obtain ⟨⟨hbr, -⟩, hSt3⟩ := zStk_c.mp hSt2
  obtain ⟨⟨hsr, -⟩, hSt4⟩ := zStk_c.mp hSt3
  obtain ⟨⟨har, -⟩, hSt5⟩ := zStk_c.mp hSt4
  obtain ⟨i, rfl, hi, hci⟩ := zcell har hca (by omega)
  obtain ⟨k, rfl, hk, hck⟩ := zcell hbr hcb (by omega)
  obtain ⟨r1, r2, r3, r4, r5⟩ := hr
  have hcr : zI c0 := hcr
  have hdr : zI dp := hdr
  have hsr : zI sp := hsr
  show W p l e R s m args below meth c H locs (n - n0) (zSZ n - zSZ n0) QW (F0 m pc ls (.int (Int32.ofInt c0) :: .int (Int32.ofInt dp) :: zc G (2, (k : Int)) :: .int (Int32.ofInt sp) :: zc G (2, (i : Int)) :: r.map (zc G)))
  rw [zc_ref (by omega), zc_ref (by omega), zad_n, zad_n]
  refine va_copyi hx hb (hml.trans hL.1.symm) hown (hts _ w1) (hts _ w2) (hts _ w3) (hts _ w4) hKt hP.1 zW_D hS i k 0 0 (by rw [zW_get hi, zE_20 hci]) (by rw [zW_get hk, zE_20 hck]) rfl rfl rfl (fun q => by have := (z32_lt0 hsr).mp q; omega) (fun q => by have := (z32_lt0 hdr).mp q; omega) (fun q => by have := (z32_lt0 hcr).mp q; omega) (by rw [z32_clamp hsr, z32_clamp hcr]; omega) (by rw [z32_clamp hdr, z32_clamp hcr]; omega) (fun _ _ => rfl) (by omega) (Nat.le_trans (Nat.add_le_add_right hcat _) (Nat.le_trans (show 8 + (nativeFrameWords "java/lang/System" "arraycopy" 5 + 11) ≤ 60 by decide) (by omega))) hd (fun H1 locs1 q1 q2 q3 => ?_)
  rw [z32_clamp hsr, z32_clamp hdr, z32_clamp hcr, zW_set (v' := zcp v i sp k dp c0) hk (by rw [zE_20 hck, zcp_fun r1 r2 r3]) (fun j' _ hji => zE_congr fun _ => zcp_o (by omega))] at q1
  have hok : zOk md (zcp v i sp k dp c0) n := by
    intro i' hi' k'
    by_cases hik : i' = k
    · subst hik
      rw [zTg20 hck, zfv_big (by omega)]
      by_cases hh : dp ≤ (k' : Int) ∧ (k' : Int) < dp + c0
      · have h9 := zrow_rg (j := sp + ((k' : Int) - dp)) hP.2.2 hi (by omega) (by omega) (fun k => zTg20 (k := k) hci)
        unfold zcp
        rw [if_pos ⟨rfl, hh⟩]
        exact h9
      · have h9 := hP.2.2 i' hi' k'
        rw [zTg20 hck, zfv_big (by omega)] at h9
        unfold zcp
        rw [if_neg (fun q => hh q.2)]
        exact h9
    · have h9 := hP.2.2 i' hi' k'
      unfold zfv at h9 ⊢
      rw [zcp_o (by omega)]
      exact h9
  exact kk p e R s m args below meth c QW C H1 locs1 ls ⟨q1, zP_lt q1 (by omega), hok⟩ q3 hL hSt5 a1 a2 a3
theorem zs_ret {l : Launch} {G : zG} {md d : Nat} {h : zHdr} {n0 : Nat} {Q : Int → zH → Prop} {QX : Nat → zH → Prop} {pc : Nat} {L st : List zV} {v : zH} {n : Nat} {x : Int} {t : Nat} (hd : decode (hB h) pc = .ok (zRi t, 1)) (ht : hT h = t) (hst : st = zpsh t x []) (hn : n = n0 + hMc h) (hz : zSZ n ≤ zSZ n0 + hMs h) (hnr : t = 0 ∨ t = 4 → znr (hR h) x) (hq : Q x v) (h35 : t ≤ 4) : zJp l G md d h n0 Q QX pc L st v n := by
  intro p e R s m args below meth c QW C H locs ls hP hS hL hSt a1 a2 a3
  obtain ⟨⟨hx, hb, hml, hown, hts⟩, ⟨hKt, hZt, hB0, hB1⟩, ⟨hf1, hf2, hf3, hf4⟩, hin, hHR, hHX⟩ := id C
  subst hst
  subst ht
  have hrr : zRr n (hT h) x := by
    unfold zRr
    rcases (show hT h = 0 ∨ hT h = 1 ∨ hT h = 2 ∨ hT h = 3 ∨ hT h = 4 by omega) with q | q | q | q | q
    · rw [q] at hSt ⊢; exact (hSt _ List.mem_cons_self).1
    · rw [q] at hSt ⊢; exact (hSt _ List.mem_cons_self).1
    · rw [q] at hSt ⊢; exact (hSt _ List.mem_cons_self).1
    · rw [q]; trivial
    · rw [q] at hSt ⊢; exact (hSt _ List.mem_cons_self).1
  refine W.widen (k := hMc h) (n := hMs h) (by omega) (by omega) ?_
  exact hHR H locs ls pc n x v hq hP hS hrr hn hd hnr
theorem zsw_ok {x : Int} {f : Nat → Prop} {dd : Nat} : ∀ (ts : List Nat) (lo : Int), zsw x f dd lo ts → lo ≤ x → (∀ t, ts[(x - lo).toNat]? = some t → f t) ∧ (lo + ts.length ≤ x → f dd)
  | [], lo, h, hx => ⟨fun t q => by simp at q, fun _ => h hx⟩
  | t :: ts, lo, h, hx => by
    by_cases e : x = lo
    · refine ⟨fun u hu => ?_, fun q => by simp at q; omega⟩
      rw [show (x - lo).toNat = 0 by omega] at hu
      cases hu
      exact h.1 e
    · obtain ⟨i1, i2⟩ := zsw_ok ts (lo + 1) h.2 (by omega)
      refine ⟨fun u hu => i1 u ?_, fun q => i2 (by simp at q; omega)⟩
      rw [show (x - lo).toNat = (x - (lo + 1)).toNat + 1 by omega, List.getElem?_cons_succ] at hu
      exact hu
theorem zs_tsw {l : Launch} {G : zG} {md d : Nat} {h : zHdr} {n0 : Nat} {Q : Int → zH → Prop} {QX : Nat → zH → Prop} {pc : Nat} {L r : List zV} {v : zH} {n : Nat} {x : Int} {dflt lo hi : Int} {offs : Array Int} {len td : Nat} {code : List zIns} {ts : List Nat} (hd : decode (hB h) pc = .ok (.tableswitch dflt lo hi offs, len)) (hlen : hi - lo + 1 = (ts.length : Int)) (hol : offs.toList.length = ts.length) (hlo : -2147483648 ≤ lo) (hhi : hi ≤ 2147483647)
    (htd : (pc : Int) + dflt = (zpc code td : Int)) (hts0 : ∀ (k : Nat) (o : Int) (t : Nat), offs.toList[k]? = some o → ts[k]? = some t → (pc : Int) + o = (zpc code t : Int))
    (k1 : x < lo → zJp l G md d h n0 Q QX (zpc code td) L r v n) (k2 : zsw x (fun t => zJp l G md d h n0 Q QX (zpc code t) L r v n) td lo ts) : zJp l G md d h n0 Q QX pc L ((0, x) :: r) v n := by
  intro p e R s m args below meth c QW C H locs ls hP hS hL hSt a1 a2 a3
  obtain ⟨⟨hx, hb, hml, hown, hts⟩, ⟨hKt, hZt, hB0, hB1⟩, ⟨hf1, hf2, hf3, hf4⟩, hin, hHR, hHX⟩ := id C
  obtain ⟨⟨hxr, -⟩, hSt1⟩ := zStk_c.mp hSt
  have hxr : zI x := hxr
  show W p l e R s m args below meth c H locs (n - n0) (zSZ n - zSZ n0) QW (F0 m pc ls (.int (Int32.ofInt x) :: r.map (zc G)))
  by_cases h1 : x < lo
  · exact lv_tableOut hx hb hd (by rw [z32_toInt hxr]; exact Or.inl h1) htd (k1 h1 p e R s m args below meth c QW C H locs ls hP hS hL hSt1 a1 a2 a3)
  · obtain ⟨i1, i2⟩ := zsw_ok ts lo k2 (by omega)
    by_cases h2 : hi < x
    · exact lv_tableOut hx hb hd (by rw [z32_toInt hxr]; exact Or.inr h2) htd (i2 (by omega) p e R s m args below meth c QW C H locs ls hP hS hL hSt1 a1 a2 a3)
    · have hk : (x - lo).toNat < ts.length := by omega
      have ho : offs[(x - lo).toNat]? = some (offs.toList[(x - lo).toNat]'(by omega)) := by
        rw [← Array.getElem?_toList, List.getElem?_eq_getElem]
      exact lv_tableIn hx hb hd (by rw [z32_toInt hxr]; exact h1) (by rw [z32_toInt hxr]; exact h2) (by rw [z32_toInt hxr]; exact ho) (hts0 _ _ (ts[(x - lo).toNat]) (List.getElem?_eq_getElem _) (List.getElem?_eq_getElem hk)) (i1 _ (List.getElem?_eq_getElem hk) p e R s m args below meth c QW C H locs ls hP hS hL hSt1 a1 a2 a3)
theorem zlk_ok {x : Int} {f : Nat → Prop} {dd : Nat} {dflt : Int} {g : Int → Nat → Prop} : ∀ (ps : List (Int × Int)) (ts : List Nat), ps.length = ts.length → zlk x f dd ps ts → g dflt dd → (∀ (k : Nat) (o : Int × Int) (t : Nat), ps[k]? = some o → ts[k]? = some t → g o.2 t) → ∃ t, f t ∧ g (Op.lookupswitch.offset ps dflt x) t
  | [], [], _, h, hd, _ => ⟨dd, h, hd⟩
  | [], _ :: _, hl, _, _, _ => by simp at hl
  | _ :: _, [], hl, _, _, _ => by simp at hl
  | p :: ps, t :: ts, hl, h, hd, hg => by
    by_cases e : x = p.1
    · refine ⟨t, h.1 e, ?_⟩
      have := hg 0 p t rfl rfl
      obtain ⟨a, b⟩ := p
      first
        | (simp only [Op.lookupswitch.offset, e, beq_self_eq_true, if_true]; exact this)
        | (unfold Op.lookupswitch.offset; simp [e]; simpa [e] using this)
    · obtain ⟨t', q1, q2⟩ := zlk_ok ps ts (by simpa using hl) (h.2 e) hd (fun k o t a b => hg (k + 1) o t a b)
      refine ⟨t', q1, ?_⟩
      obtain ⟨a, b⟩ := p
      have e2 : ¬ a = x := fun q => e q.symm
      first
        | (unfold Op.lookupswitch.offset; simp [e2]; exact q2)
        | (unfold Op.lookupswitch.offset; simp [e]; exact q2)
theorem zs_lsw {l : Launch} {G : zG} {md d : Nat} {h : zHdr} {n0 : Nat} {Q : Int → zH → Prop} {QX : Nat → zH → Prop} {pc : Nat} {L r : List zV} {v : zH} {n : Nat} {x : Int} {dflt : Int} {ps : Array (Int × Int)} {len td : Nat} {code : List zIns} {ts : List Nat} (hd : decode (hB h) pc = .ok (.lookupswitch dflt ps, len)) (hol : ps.toList.length = ts.length) (hso : (ps.toList.zip (ps.toList.drop 1)).all (fun (a, next) => a.1 < next.1) = true)
    (htd : (pc : Int) + dflt = (zpc code td : Int)) (hts0 : ∀ (k : Nat) (o : Int × Int) (t : Nat), ps.toList[k]? = some o → ts[k]? = some t → (pc : Int) + o.2 = (zpc code t : Int))
    (k2 : zlk x (fun t => zJp l G md d h n0 Q QX (zpc code t) L r v n) td ps.toList ts) : zJp l G md d h n0 Q QX pc L ((0, x) :: r) v n := by
  intro p e R s m args below meth c QW C H locs ls hP hS hL hSt a1 a2 a3
  obtain ⟨⟨hx, hb, hml, hown, hts⟩, ⟨hKt, hZt, hB0, hB1⟩, ⟨hf1, hf2, hf3, hf4⟩, hin, hHR, hHX⟩ := id C
  obtain ⟨⟨hxr, -⟩, hSt1⟩ := zStk_c.mp hSt
  have hxr : zI x := hxr
  show W p l e R s m args below meth c H locs (n - n0) (zSZ n - zSZ n0) QW (F0 m pc ls (.int (Int32.ofInt x) :: r.map (zc G)))
  obtain ⟨t, q1, q2⟩ := zlk_ok (g := fun o t => (pc : Int) + o = (zpc code t : Int)) ps.toList ts hol k2 htd hts0
  exact lv_lookup hx hb hd hso rfl (by rw [z32_toInt hxr]; exact q2) (q1 p e R s m args below meth c QW C H locs ls hP hS hL hSt1 a1 a2 a3)
theorem zs_mmax {l : Launch} {G : zG} {md d : Nat} {h : zHdr} {n0 : Nat} {Q : Int → zH → Prop} {QX : Nat → zH → Prop} {pc : Nat} {L r : List zV} {v : zH} {n : Nat} {x y : Int} {idx : Nat} (hd : decode (hB h) pc = .ok (.invokestatic idx, 3)) (w1 : Jvm.Cond.methodLink (hO h) idx Lib.Math.max.name ∈ zws) (w2 : Jvm.Cond.static Lib.Math.max.name ∈ zws) (w3 : Jvm.Cond.initialized "java/lang/Math" ∈ zws) (w4 : Jvm.Cond.code Lib.Math.max.name Lib.Math.max.code 2 (some .int) ∈ zws) (hd1 : 1 ≤ d) (hcat : ((r.map (zc G)).map fun v => v.category).sum ≤ 8) (kk : zJp l G md d h n0 Q QX (pc + 3) L ((0, max x y) :: r) v n) : zJp l G md d h n0 Q QX pc L ((0, y) :: (0, x) :: r) v n := by
  intro p e R s m args below meth c QW C H locs ls hP hS hL hSt a1 a2 a3
  obtain ⟨⟨hx, hb, hml, hown, hts⟩, ⟨hKt, hZt, hB0, hB1⟩, ⟨hf1, hf2, hf3, hf4⟩, hin, hHR, hHX⟩ := id C
  obtain ⟨⟨hy, -⟩, hSt1⟩ := zStk_c.mp hSt
  obtain ⟨⟨hxx, -⟩, hSt2⟩ := zStk_c.mp hSt1
  have hy : zI y := hy
  have hxx : zI x := hxx
  show W p l e R s m args below meth c H locs (n - n0) (zSZ n - zSZ n0) QW (F0 m pc ls (.int (Int32.ofInt y) :: .int (Int32.ofInt x) :: r.map (zc G)))
  refine va_mmax hx hb (hml.trans hL.1.symm) hown (hts _ w1) (hts _ w2) (hts _ w3) (hts _ w4) (by omega) (by omega) (by omega) (by omega) hd ?_
  have e1 : (if Int32.ofInt x < Int32.ofInt y then Int32.ofInt y else Int32.ofInt x) = Int32.ofInt (max x y) := by
    by_cases q : x < y
    · rw [if_pos ((z32_lt hxx hy).mpr q), Int.max_eq_right (by omega)]
    · rw [if_neg (fun z => q ((z32_lt hxx hy).mp z)), Int.max_eq_left (by omega)]
  rw [e1]
  have hres : zI (max x y) := ⟨by have := hxx.1; have := hy.1; omega, by have := hxx.2; have := hy.2; omega⟩
  exact kk p e R s m args below meth c QW C H locs ls hP hS hL (zStk_c.mpr ⟨⟨hres, by simp⟩, hSt2⟩) a1 a2 a3
theorem zs_mmin {l : Launch} {G : zG} {md d : Nat} {h : zHdr} {n0 : Nat} {Q : Int → zH → Prop} {QX : Nat → zH → Prop} {pc : Nat} {L r : List zV} {v : zH} {n : Nat} {x y : Int} {idx : Nat} (hd : decode (hB h) pc = .ok (.invokestatic idx, 3)) (w1 : Jvm.Cond.methodLink (hO h) idx Lib.Math.min.name ∈ zws) (w2 : Jvm.Cond.static Lib.Math.min.name ∈ zws) (w3 : Jvm.Cond.initialized "java/lang/Math" ∈ zws) (w4 : Jvm.Cond.code Lib.Math.min.name Lib.Math.min.code 2 (some .int) ∈ zws) (hd1 : 1 ≤ d) (hcat : ((r.map (zc G)).map fun v => v.category).sum ≤ 8) (kk : zJp l G md d h n0 Q QX (pc + 3) L ((0, min x y) :: r) v n) : zJp l G md d h n0 Q QX pc L ((0, y) :: (0, x) :: r) v n := by
  intro p e R s m args below meth c QW C H locs ls hP hS hL hSt a1 a2 a3
  obtain ⟨⟨hx, hb, hml, hown, hts⟩, ⟨hKt, hZt, hB0, hB1⟩, ⟨hf1, hf2, hf3, hf4⟩, hin, hHR, hHX⟩ := id C
  obtain ⟨⟨hy, -⟩, hSt1⟩ := zStk_c.mp hSt
  obtain ⟨⟨hxx, -⟩, hSt2⟩ := zStk_c.mp hSt1
  have hy : zI y := hy
  have hxx : zI x := hxx
  show W p l e R s m args below meth c H locs (n - n0) (zSZ n - zSZ n0) QW (F0 m pc ls (.int (Int32.ofInt y) :: .int (Int32.ofInt x) :: r.map (zc G)))
  refine va_mmin hx hb (hml.trans hL.1.symm) hown (hts _ w1) (hts _ w2) (hts _ w3) (hts _ w4) (by omega) (by omega) (by omega) (by omega) hd ?_
  have e1 : (if Int32.ofInt y < Int32.ofInt x then Int32.ofInt y else Int32.ofInt x) = Int32.ofInt (min x y) := by
    by_cases q : y < x
    · rw [if_pos ((z32_lt hy hxx).mpr q), Int.min_eq_right (by omega)]
    · rw [if_neg (fun z => q ((z32_lt hy hxx).mp z)), Int.min_eq_left (by omega)]
  rw [e1]
  have hres : zI (min x y) := ⟨by have := hxx.1; have := hy.1; omega, by have := hxx.2; have := hy.2; omega⟩
  exact kk p e R s m args below meth c QW C H locs ls hP hS hL (zStk_c.mpr ⟨⟨hres, by simp⟩, hSt2⟩) a1 a2 a3
theorem zs_mabs {l : Launch} {G : zG} {md d : Nat} {h : zHdr} {n0 : Nat} {Q : Int → zH → Prop} {QX : Nat → zH → Prop} {pc : Nat} {L r : List zV} {v : zH} {n : Nat} {x : Int} {idx : Nat} (hd : decode (hB h) pc = .ok (.invokestatic idx, 3)) (w1 : Jvm.Cond.methodLink (hO h) idx Lib.Math.abs.name ∈ zws) (w2 : Jvm.Cond.static Lib.Math.abs.name ∈ zws) (w3 : Jvm.Cond.initialized "java/lang/Math" ∈ zws) (w4 : Jvm.Cond.code Lib.Math.abs.name Lib.Math.abs.code 1 (some .int) ∈ zws) (hd1 : 1 ≤ d) (hcat : ((r.map (zc G)).map fun v => v.category).sum ≤ 8) (hneg : zI (-x)) (kk : zJp l G md d h n0 Q QX (pc + 3) L ((0, (x.natAbs : Int)) :: r) v n) : zJp l G md d h n0 Q QX pc L ((0, x) :: r) v n := by
  intro p e R s m args below meth c QW C H locs ls hP hS hL hSt a1 a2 a3
  obtain ⟨⟨hx, hb, hml, hown, hts⟩, ⟨hKt, hZt, hB0, hB1⟩, ⟨hf1, hf2, hf3, hf4⟩, hin, hHR, hHX⟩ := id C
  obtain ⟨⟨hxx, -⟩, hSt2⟩ := zStk_c.mp hSt
  have hxx : zI x := hxx
  show W p l e R s m args below meth c H locs (n - n0) (zSZ n - zSZ n0) QW (F0 m pc ls (.int (Int32.ofInt x) :: r.map (zc G)))
  refine va_mabs hx hb (hml.trans hL.1.symm) hown (hts _ w1) (hts _ w2) (hts _ w3) (hts _ w4) (by omega) (by omega) (by omega) (by omega) hd ?_
  have hres : zI (x.natAbs : Int) := ⟨by omega, by have := hxx.2; have := hneg.2; omega⟩
  have e1 : (if 0 ≤ Int32.ofInt x then Int32.ofInt x else 0 - Int32.ofInt x) = Int32.ofInt (x.natAbs : Int) := by
    by_cases q : 0 ≤ x
    · rw [if_pos ((z32_ge0 hxx).mpr q), show (x.natAbs : Int) = x by omega]
    · rw [if_neg (fun z => q ((z32_ge0 hxx).mp z)), show (x.natAbs : Int) = 0 - x by omega, Int32.ofInt_sub]
      rfl
  rw [e1]
  exact kk p e R s m args below meth c QW C H locs ls hP hS hL (zStk_c.mpr ⟨⟨hres, by simp⟩, hSt2⟩) a1 a2 a3
theorem zs_mmaxl {l : Launch} {G : zG} {md d : Nat} {h : zHdr} {n0 : Nat} {Q : Int → zH → Prop} {QX : Nat → zH → Prop} {pc : Nat} {L r : List zV} {v : zH} {n : Nat} {x y : Int} {idx : Nat} (hd : decode (hB h) pc = .ok (.invokestatic idx, 3)) (w1 : Jvm.Cond.methodLink (hO h) idx Lib.MathLoose.max_long.x ∈ zws) (w2 : Jvm.Cond.static Lib.MathLoose.max_long.x ∈ zws) (w3 : Jvm.Cond.initialized "java/lang/Math" ∈ zws) (w4 : Jvm.Cond.code Lib.MathLoose.max_long.x Lib.MathLoose.max_long.code 4 (some .long) ∈ zws) (hd1 : 1 ≤ d) (hcat : ((r.map (zc G)).map fun v => v.category).sum ≤ 8) (kk : zJp l G md d h n0 Q QX (pc + 3) L ((1, max x y) :: r) v n) : zJp l G md d h n0 Q QX pc L ((1, y) :: (1, x) :: r) v n := by
  intro p e R s m args below meth c QW C H locs ls hP hS hL hSt a1 a2 a3
  obtain ⟨⟨hx, hb, hml, hown, hts⟩, ⟨hKt, hZt, hB0, hB1⟩, ⟨hf1, hf2, hf3, hf4⟩, hin, hHR, hHX⟩ := id C
  obtain ⟨⟨hy, -⟩, hSt1⟩ := zStk_c.mp hSt
  obtain ⟨⟨hxx, -⟩, hSt2⟩ := zStk_c.mp hSt1
  have hy : zLg y := hy
  have hxx : zLg x := hxx
  show W p l e R s m args below meth c H locs (n - n0) (zSZ n - zSZ n0) QW (F0 m pc ls (.long (Int64.ofInt y) :: .long (Int64.ofInt x) :: r.map (zc G)))
  refine va_mmax_long hx hb (hml.trans hL.1.symm) hown (hts _ w1) (hts _ w2) (hts _ w3) (hts _ w4) (by omega) (by omega) (by omega) (by omega) hd ?_
  have e1 : (if Int64.ofInt y < Int64.ofInt x then Int64.ofInt x else Int64.ofInt y) = Int64.ofInt (max x y) := by
    by_cases q : y < x
    · rw [if_pos ((z64_lt hy hxx).mpr q), Int.max_eq_left (by omega)]
    · rw [if_neg (fun z => q ((z64_lt hy hxx).mp z)), Int.max_eq_right (by omega)]
  rw [e1]
  have hres : zLg (max x y) := ⟨by have := hxx.1; have := hy.1; omega, by have := hxx.2; have := hy.2; omega⟩
  exact kk p e R s m args below meth c QW C H locs ls hP hS hL (zStk_c.mpr ⟨⟨hres, by simp⟩, hSt2⟩) a1 a2 a3
theorem zs_mminl {l : Launch} {G : zG} {md d : Nat} {h : zHdr} {n0 : Nat} {Q : Int → zH → Prop} {QX : Nat → zH → Prop} {pc : Nat} {L r : List zV} {v : zH} {n : Nat} {x y : Int} {idx : Nat} (hd : decode (hB h) pc = .ok (.invokestatic idx, 3)) (w1 : Jvm.Cond.methodLink (hO h) idx Lib.MathLoose.min_long.x ∈ zws) (w2 : Jvm.Cond.static Lib.MathLoose.min_long.x ∈ zws) (w3 : Jvm.Cond.initialized "java/lang/Math" ∈ zws) (w4 : Jvm.Cond.code Lib.MathLoose.min_long.x Lib.MathLoose.min_long.code 4 (some .long) ∈ zws) (hd1 : 1 ≤ d) (hcat : ((r.map (zc G)).map fun v => v.category).sum ≤ 8) (kk : zJp l G md d h n0 Q QX (pc + 3) L ((1, min x y) :: r) v n) : zJp l G md d h n0 Q QX pc L ((1, y) :: (1, x) :: r) v n := by
  intro p e R s m args below meth c QW C H locs ls hP hS hL hSt a1 a2 a3
  obtain ⟨⟨hx, hb, hml, hown, hts⟩, ⟨hKt, hZt, hB0, hB1⟩, ⟨hf1, hf2, hf3, hf4⟩, hin, hHR, hHX⟩ := id C
  obtain ⟨⟨hy, -⟩, hSt1⟩ := zStk_c.mp hSt
  obtain ⟨⟨hxx, -⟩, hSt2⟩ := zStk_c.mp hSt1
  have hy : zLg y := hy
  have hxx : zLg x := hxx
  show W p l e R s m args below meth c H locs (n - n0) (zSZ n - zSZ n0) QW (F0 m pc ls (.long (Int64.ofInt y) :: .long (Int64.ofInt x) :: r.map (zc G)))
  refine va_mmin_long hx hb (hml.trans hL.1.symm) hown (hts _ w1) (hts _ w2) (hts _ w3) (hts _ w4) (by omega) (by omega) (by omega) (by omega) hd ?_
  have e1 : (if Int64.ofInt y < Int64.ofInt x then Int64.ofInt y else Int64.ofInt x) = Int64.ofInt (min x y) := by
    by_cases q : y < x
    · rw [if_pos ((z64_lt hy hxx).mpr q), Int.min_eq_right (by omega)]
    · rw [if_neg (fun z => q ((z64_lt hy hxx).mp z)), Int.min_eq_left (by omega)]
  rw [e1]
  have hres : zLg (min x y) := ⟨by have := hxx.1; have := hy.1; omega, by have := hxx.2; have := hy.2; omega⟩
  exact kk p e R s m args below meth c QW C H locs ls hP hS hL (zStk_c.mpr ⟨⟨hres, by simp⟩, hSt2⟩) a1 a2 a3
end
section
/-! calls -/
theorem zSt_warm {G : zG} {s U : State} {H : Heap} {locs : List Loc} (h : zSt G s s.heap) (hS : va_S (zA G) s.heap H locs) (hW : s.WarmedH U.vm) : zSt G U H := by
  have hvm := hW.alike
  have hq : ∀ a : Nat, a < s.heap.size → ¬ zA G a → H[a]? = s.heap[a]? := hS.2.1
  obtain ⟨h1, h2, h3, h4, h5, h6, h7, h8, h9⟩ := h
  refine ⟨fun k hk => va_T.moved hvm ((h1 k hk).kept hq), fun k hk => va_Z.moved hvm ((h2 k hk).kept hq), ⟨va_T.moved hvm (h3.1.kept hq), h3.2⟩, fun k hk => ?_, ⟨h5.1.warm hW, h5.2.1.warm hW, h5.2.2.warm hW⟩, va_Z.moved hvm (h6.kept hq), va_Z.moved hvm (h7.kept hq), va_AO.moved hvm h8, fun q hq9 => va_Nw.warmM hW (h9 q hq9)⟩
  obtain ⟨g1, g2, g3, g4⟩ := h4 k hk
  exact ⟨va_O.moved hvm (g1.kept hq), va_OF.moved hvm (g2.kept hq), va_OF.moved hvm (g3.kept hq), va_T.moved hvm (g4.kept hq)⟩
theorem zSt_same {G : zG} {u U : State} (h : zSt G u u.heap) (hv : U.vm = u.vm) (hh : U.heap = u.heap) : zSt G U U.heap := by
  have hvm : u.vm.Alike U.vm := by rw [hv]; exact Vm.Alike.refl _
  rw [hh]
  obtain ⟨h1, h2, h3, h4, h5, h6, h7, h8, h9⟩ := h
  refine ⟨fun k hk => va_T.moved hvm (h1 k hk), fun k hk => va_Z.moved hvm (h2 k hk), ⟨va_T.moved hvm h3.1, h3.2⟩, fun k hk => ?_, ⟨vk_R.same hv h5.1, vk_R.same hv h5.2.1, vk_R.same hv h5.2.2⟩, va_Z.moved hvm h6, va_Z.moved hvm h7, va_AO.moved hvm h8, fun q hq9 => va_Nw.same rfl hv.symm (h9 q hq9)⟩
  obtain ⟨g1, g2, g3, g4⟩ := h4 k hk
  exact ⟨va_O.moved hvm g1, va_OF.moved hvm g2, va_OF.moved hvm g3, va_T.moved hvm g4⟩
theorem zPc_blind {G : zG} {md : Nat} {As : List zV} {v : zH} {n : Nat} : FrameBlind (zPc G md As v n) := by
  intro a U g mk q
  obtain ⟨q1, q2, q3, q4, q5, q6⟩ := q
  exact ⟨q1, q2, va_K.moved (u := U) (U := U.calling g mk a) (Vm.Alike.refl U.vm) q3, zSt_same (U := U.calling g mk a) q4 rfl rfl, q5, q6⟩
theorem zPc_pre {G : zG} {md : Nat} {As : List zV} {v : zH} {n : Nat} {s : State} {H : Heap} {locs : List Loc} (hP : zP G md v n H) (hK : zKt G s) (hZ : zSt G s s.heap) (hS : va_S (zA G) s.heap H locs) (hA : zStk n As) (hB : md = 0 → H.size = zgB G + n) : ∀ U : State, U.heap = H → s.WarmedH U.vm → zPc G md As v n (As.map (zc G)).toArray U := by
  intro U hU hW
  refine ⟨rfl, by rw [hU]; exact hP, va_K.moved hW.alike hK, by rw [hU]; exact zSt_warm hZ hS hW, hA, by rw [hU]; exact hB⟩
theorem zret_psh {G : zG} {t : Nat} {r : Int} {st : List zV} (h : t ≤ 4) : (zpsh t r st).map (zc G) = (zRet G t r).toList ++ st.map (zc G) := by
  rcases (show t = 0 ∨ t = 1 ∨ t = 2 ∨ t = 3 ∨ t = 4 by omega) with q | q | q | q | q <;> subst q <;> rfl
section ZC
variable {p : Program} {l : Launch} {e : Env} {R : Room} {s : State} {m : MethodId} {args : Array Value} {below : List Frame} {meth : Method} {c : Code} {H : Heap} {locs : List Loc} {cells slots : Nat} {Q : State → Prop}
variable {pc : Nat} {ls : Array Slot} {rest st0 : List Value} {a : Array Value} {mc ms : Nat} {G : zG} {md n : Nat} {h : zHdr} {Q' : Int → zH → Prop}
theorem z_back (hr : va_Run p l e R s m args below meth c H locs cells slots mc ms (F0 m pc ls st0) rest (zQc G md h n Q' a) (zA G)) (hS : va_S (zA G) s.heap H locs)
    (kk : ∀ (r : Int) (v : zH) (H1 : Heap) (locs1 : List Loc), Q' r v → zP G md v (n + hMc h) H1 → zRr (n + hMc h) (hT h) r → va_S (zA G) s.heap H1 locs1 → W p l e R s m args below meth c H1 locs1 (cells + mc) (slots + ms) Q (F0 m (pc + 3) ls ((zRet G (hT h) r).toList ++ rest))) : W p l e R s m args below meth c H locs cells slots Q (F0 m pc ls st0) := by
  intro T hT X
  obtain ⟨v, st₀, t, T', L, h0, X', hL, e1, e2, ⟨⟨r, u, hv, hp, hb, hrr⟩, hz, hk⟩, st⟩ := hr T hT X
  cases hv
  rw [h0] at hz hk
  obtain ⟨t2, a1, b1⟩ := kk r u T'.heap (locs ++ L) hp (by rw [e1]; exact hb) hrr
    ⟨Nat.le_trans hS.1 (by rw [e1]; exact hz), fun q h1 h2 => by rw [e1, hk q (Nat.lt_of_lt_of_le h1 hS.1) h2]; exact hS.2.1 q h1 h2, fun q hq => by
      rcases List.mem_append.mp hq with h | h
      · exact hS.2.2 q h
      · exact hL q h⟩ T' rfl X'
  exact ⟨t2, st t2 a1, b1⟩
end ZC
theorem zcats_ok {G : zG} : ∀ (st : List zV), ((st.map (zc G)).map fun v => v.category).sum ≤ zcats st
  | [] => Nat.le_refl _
  | q :: r => by
    have ih := zcats_ok (G := G) r
    obtain ⟨t, x⟩ := q
    by_cases ht : t = 1
    · subst ht
      simp only [List.map_cons, List.sum_cons]
      show (2 : Nat) + _ ≤ 2 + _
      omega
    · have h1 := zcat1 (G := G) (x := x) ht
      simp only [List.map_cons, List.sum_cons, h1]
      have h2 : zcats ((t, x) :: r) = 1 + zcats r := by
        match t, ht with
        | 0, _ => rfl
        | 1, q => exact absurd rfl q
        | k + 2, _ => rfl
      omega
theorem zrr_psh {n t : Nat} {r : Int} {st : List zV} (ht : t ≤ 4) (hrr : zRr n t r) (hSt : zStk n st) : zStk n (zpsh t r st) := by
  rcases (show t = 0 ∨ t = 1 ∨ t = 2 ∨ t = 3 ∨ t = 4 by omega) with q | q | q | q | q <;> subst q
  · exact zStk_c.mpr ⟨⟨hrr, by simp⟩, hSt⟩
  · exact zStk_c.mpr ⟨⟨hrr, by simp⟩, hSt⟩
  · exact zStk_c.mpr ⟨⟨hrr, by simp⟩, hSt⟩
  · exact hSt
  · exact zStk_c.mpr ⟨⟨hrr, by simp⟩, hSt⟩
/-- what a method's head must say, as a check has it -/
def zmokP (hc : zHdr) : Prop := ((hY hc).cls ≠ "java/lang/invoke/MethodHandle" ∧ (hY hc).cls ≠ "java/lang/invoke/VarHandle") ∧ (parseMethodDescriptor (hY hc).desc).map (fun d => d.parameters.length) = some (hN hc) ∧ hL hc ≤ 41 ∧ (hMc hc = 0 → hMs hc = 0) ∧ hT hc ≤ 4
theorem zmok_ok {hc : zHdr} (h : zmok hc = true) : zmokP hc := by
  unfold zmok at h
  simp only [Bool.and_eq_true, decide_eq_true_eq, Bool.or_eq_true] at h
  obtain ⟨⟨⟨⟨⟨h1, h2⟩, h3⟩, h4⟩, h5⟩, h6⟩ := h
  refine ⟨⟨h1, h2⟩, h3, Nat.le_of_ble_eq_true h4, fun q => ?_, Nat.le_of_ble_eq_true h6⟩
  rcases h5 with h5 | h5
  · rw [q] at h5
    cases h5
  · exact Nat.eq_of_beq_eq_true h5
theorem zs_callS {l : Launch} {G : zG} {md d : Nat} {h : zHdr} {n0 : Nat} {Q : Int → zH → Prop} {QX : Nat → zH → Prop} {pc : Nat} {L : List zV} {v : zH} {n : Nat} {hc : zHdr} {As rest : List zV} {Q1 : Int → zH → Prop} {idx ic : Nat} (hd : decode (hB h) pc = .ok (.invokestatic idx, 3)) (hm : zmokP hc) (hcode : zcode ic hc = true) (hT4 : hT hc ≤ 4) (hcat : zcats rest ≤ 8) (hn : As.length = hN hc) (w1 : Jvm.Cond.methodLink (hO h) idx (hY hc) ∈ zws) (w2 : Jvm.Cond.static (hY hc) ∈ zws) (w3 : Jvm.Cond.initialized (hY hc).cls ∈ zws) (hbud : zbudget h n0 n (hMc hc) (hMs hc))
    (hC : zC l G md d hc As v n Q1) (kk : ∀ (r1 : Int) (v1 : zH), Q1 r1 v1 → zJp l G md (d + 1) h n0 Q QX (pc + 3) L (zpsh (hT hc) r1 rest) v1 (n + hMc hc)) : zJp l G md (d + 1) h n0 Q QX pc L (As.reverse ++ rest) v n := by
  intro p e R s m args below meth c QW C H locs ls hP hS hLs hSt a1 a2 a3
  obtain ⟨⟨hx, hb, hml, hown, hts⟩, ⟨hKt, hZt, hB0, hB1⟩, ⟨hf1, hf2, hf3, hf4⟩, hin, hHR, hHX⟩ := id C
  refine zW_size fun hsz => ?_
  have hStA : zStk n As := fun q hq => hSt q (List.mem_append_left _ (List.mem_reverse.mpr hq))
  have hStR : zStk n rest := fun q hq => hSt q (List.mem_append_right _ hq)
  obtain ⟨b1, b2, b3⟩ := hbud
  have hgood := zWs_good hcode
  have hzm := zSZ_mono a1
  have hcat2 : ((rest.map (zc G)).map fun v => v.category).sum ≤ 8 := Nat.le_trans (zcats_ok rest) hcat
  have hsz0 : md = 0 → H.size = zgB G + n := fun q => by have := hB1 q; have := hP.2.1; omega
  have hT0 : GoodIn zws (va_wsS (hO h) idx (hY hc) (zWs hc)) := by
    intro w hw
    unfold va_wsS at hw
    rcases List.mem_append.mp hw with hw | hw
    · rcases List.mem_cons.mp hw with rfl | hw
      · exact zws_good _ w1
      · rcases List.mem_cons.mp hw with rfl | hw
        · exact zws_good _ w2
        · rw [List.mem_singleton.mp hw]
          exact zws_good _ w3
    · exact hgood w hw
  have hrun := va_runS (As := As.map (zc G)) (rest := rest.map (zc G)) (g := F0 m pc ls ((As.reverse ++ rest).map (zc G))) ⟨hx, hb, hml, hown, hts⟩ hC (va_cwS (hN hc) hts hT0 rfl rfl rfl ⟨hm.1.1, hm.1.2, hm.2.1⟩ ⟨by show d + 1 ≤ R.frames; omega, by show 8 + (hL hc + 11) + 60 * d ≤ R.locals; have := hm.2.2.1; omega⟩) ⟨zPc_blind, zPc_pre hP hKt hZt hS hStA hsz0⟩ rfl (by rw [List.length_map]; exact hn) hLs.1 (by show (As.reverse ++ rest).map (zc G) = _; rw [List.map_append, List.map_reverse]) (lv_room hcat2) hd (cells := n - n0) (slots := zSZ n - zSZ n0) (e := e) (below := below) (meth := meth) (locs := locs) ⟨by omega, by omega⟩
  refine z_back hrun hS fun r1 v1 H1 locs1 q1 q2 q3 q4 => ?_
  have key := kk r1 v1 q1 p e R s m args below meth c QW C H1 locs1 ls q2 q4 (zL_mono hLs (by omega)) (zrr_psh hT4 q3 (zStk_mono hStR (by omega))) (by omega) (by omega) (by omega)
  rw [zret_psh hT4, show n + hMc hc - n0 = n - n0 + hMc hc by omega, show zSZ (n + hMc hc) - zSZ n0 = zSZ n - zSZ n0 + hMs hc by omega] at key
  exact key
theorem zs_callV {l : Launch} {G : zG} {md d : Nat} {h : zHdr} {n0 : Nat} {Q : Int → zH → Prop} {QX : Nat → zH → Prop} {pc : Nat} {L : List zV} {v : zH} {n : Nat} {hc : zHdr} {As rest : List zV} {Q1 : Int → zH → Prop} {idx ic : Nat} {o : Int} {rc : Nat} (hd : decode (hB h) pc = .ok (.invokevirtual idx, 3)) (hm : zmokP hc) (hcode : zcode ic hc = true) (hT4 : hT hc ≤ 4) (hcat : zcats rest ≤ 8) (hn : As.length = hN hc) (w1 : Jvm.Cond.methodLink (hO h) idx (hY hc) ∈ zws) (w2 : Jvm.Cond.instanceMethod (hY hc) ∈ zws) (w3 : Jvm.Cond.selects (zrcn rc) (hY hc) (hY hc) ∈ zws) (w4 : Jvm.Cond.initialized (zrcn rc) ∈ zws) (hcn : (hY hc).cls = zrcn rc) (hrc : rc < 12 ∨ rc = 26) (hcl : zCL o = rc) (hbud : zbudget h n0 n (hMc hc) (hMs hc))
    (hC : zC l G md d hc ((2, o) :: As) v n Q1) (kk : ∀ (r1 : Int) (v1 : zH), Q1 r1 v1 → zJp l G md (d + 1) h n0 Q QX (pc + 3) L (zpsh (hT hc) r1 rest) v1 (n + hMc hc)) : zJp l G md (d + 1) h n0 Q QX pc L (As.reverse ++ (2, o) :: rest) v n := by
  intro p e R s m args below meth c QW C H locs ls hP hS hLs hSt a1 a2 a3
  obtain ⟨⟨hx, hb, hml, hown, hts⟩, ⟨hKt, hZt, hB0, hB1⟩, ⟨hf1, hf2, hf3, hf4⟩, hin, hHR, hHX⟩ := id C
  refine zW_size fun hsz => ?_
  have hStA : zStk n ((2, o) :: As) := by
    refine zStk_c.mpr ⟨hSt (2, o) (List.mem_append_right _ List.mem_cons_self), fun q hq => hSt q (List.mem_append_left _ (List.mem_reverse.mpr hq))⟩
  have hStR : zStk n rest := fun q hq => hSt q (List.mem_append_right _ (List.mem_cons_of_mem _ hq))
  have hor := (zStk_c.mp hStA).1.1
  have e0 : zc G (2, o) = .ref (zad G o) := zc_ref (zRg_ref hor)
  obtain ⟨b1, b2, b3⟩ := hbud
  have hgood := zWs_good hcode
  have hzm := zSZ_mono a1
  have hcat2 : ((rest.map (zc G)).map fun v => v.category).sum ≤ 8 := Nat.le_trans (zcats_ok rest) hcat
  have hsz0 : md = 0 → H.size = zgB G + n := fun q => by have := hB1 q; have := hP.2.1; omega
  have hrecv : ∃ cellB : Cell, H[zad G o]? = some cellB ∧ cellB.vm.isStatics = false ∧ s.vm.findClass (zrcn rc) = some cellB.cls := by
    rcases hrc with h12 | h26
    · obtain ⟨i, rfl, hi, hci⟩ := zcell hor hcl (by omega)
      rw [zad_n]
      have := va_recv hKt hP.1 (ci := rc) (q0 := i) (zcr_get h12) (by rw [zW_get hi, zE_o hci h12])
      unfold zrcn
      rw [if_neg (by omega)]
      exact this
    · subst h26
      obtain ⟨k, hk, rfl⟩ := zsc hor hcl
      rw [zad_s (by omega)]
      exact va_Orecv (hZt.2.2.2.1 k hk).1 hS
  have hT0 : GoodIn zws (wsV (hO h) idx (zrcn rc) (hY hc) (zWs hc)) := by
    intro w hw
    unfold wsV at hw
    rcases List.mem_append.mp hw with hw | hw
    · rcases List.mem_cons.mp hw with rfl | hw
      · exact zws_good _ w1
      · rcases List.mem_cons.mp hw with rfl | hw
        · exact zws_good _ w2
        · rcases List.mem_cons.mp hw with rfl | hw
          · exact zws_good _ w3
          · rw [List.mem_singleton.mp hw]
            exact zws_good _ w4
    · exact hgood w hw
  have hrun := va_runV (As := As.map (zc G)) (rest := rest.map (zc G)) (g := F0 m pc ls ((As.reverse ++ (2, o) :: rest).map (zc G))) ⟨hx, hb, hml, hown, hts⟩ hC (cwV (hN hc) hts hT0 rfl rfl rfl ⟨hcn, hm.1.1, hm.1.2, hm.2.1⟩ ⟨by show d + 1 ≤ R.frames; omega, by show 8 + (hL hc + 11) + 60 * d ≤ R.locals; have := hm.2.2.1; omega⟩) ⟨zPc_blind, hrecv, fun U hU hW => by have q := zPc_pre hP hKt hZt hS hStA hsz0 U hU hW; rw [List.map_cons, e0] at q; exact q⟩ rfl (by rw [List.length_map]; exact hn) hLs.1 (by show (As.reverse ++ (2, o) :: rest).map (zc G) = _; rw [List.map_append, List.map_reverse, List.map_cons, e0]) (lv_room hcat2) hd (cells := n - n0) (slots := zSZ n - zSZ n0) (e := e) (below := below) (meth := meth) (locs := locs) ⟨by omega, by omega⟩
  refine z_back hrun hS fun r1 v1 H1 locs1 q1 q2 q3 q4 => ?_
  have key := kk r1 v1 q1 p e R s m args below meth c QW C H1 locs1 ls q2 q4 (zL_mono hLs (by omega)) (zrr_psh hT4 q3 (zStk_mono hStR (by omega))) (by omega) (by omega) (by omega)
  rw [zret_psh hT4, show n + hMc hc - n0 = n - n0 + hMc hc by omega, show zSZ (n + hMc hc) - zSZ n0 = zSZ n - zSZ n0 + hMs hc by omega] at key
  exact key
theorem zs_callU {l : Launch} {G : zG} {md d : Nat} {h : zHdr} {n0 : Nat} {Q : Int → zH → Prop} {QX : Nat → zH → Prop} {pc : Nat} {L : List zV} {v : zH} {n : Nat} {hc : zHdr} {As rest : List zV} {Q1 : Int → zH → Prop} {idx ic : Nat} {o : Int} {rc : Nat} {x : MethodName} (hd : decode (hB h) pc = .ok (.invokevirtual idx, 3)) (hm : zmokP hc) (hcode : zcode ic hc = true) (hT4 : hT hc ≤ 4) (hcat : zcats rest ≤ 8) (hn : As.length = hN hc) (w1 : Jvm.Cond.methodLink (hO h) idx x ∈ zws) (w2 : Jvm.Cond.sameMethod x.cls (hY hc).cls x.name x.desc ∈ zws) (w3 : Jvm.Cond.selects (zrcn rc) x (hY hc) ∈ zws) (w4 : Jvm.Cond.instanceMethod (hY hc) ∈ zws) (w5 : Jvm.Cond.initialized (hY hc).cls ∈ zws) (hyx : hY hc = ⟨(hY hc).cls, x.name, x.desc⟩) (hxd : (parseMethodDescriptor x.desc).map (fun d => d.parameters.length) = some (hN hc)) (hrc : rc < 12 ∨ rc = 26) (hcl : zCL o = rc) (hbud : zbudget h n0 n (hMc hc) (hMs hc))
    (hC : zC l G md d hc ((2, o) :: As) v n Q1) (kk : ∀ (r1 : Int) (v1 : zH), Q1 r1 v1 → zJp l G md (d + 1) h n0 Q QX (pc + 3) L (zpsh (hT hc) r1 rest) v1 (n + hMc hc)) : zJp l G md (d + 1) h n0 Q QX pc L (As.reverse ++ (2, o) :: rest) v n := by
  intro p e R s m args below meth c QW C H locs ls hP hS hLs hSt a1 a2 a3
  obtain ⟨⟨hx, hb, hml, hown, hts⟩, ⟨hKt, hZt, hB0, hB1⟩, ⟨hf1, hf2, hf3, hf4⟩, hin, hHR, hHX⟩ := id C
  refine zW_size fun hsz => ?_
  have hStA : zStk n ((2, o) :: As) := by
    refine zStk_c.mpr ⟨hSt (2, o) (List.mem_append_right _ List.mem_cons_self), fun q hq => hSt q (List.mem_append_left _ (List.mem_reverse.mpr hq))⟩
  have hStR : zStk n rest := fun q hq => hSt q (List.mem_append_right _ (List.mem_cons_of_mem _ hq))
  have hor := (zStk_c.mp hStA).1.1
  have e0 : zc G (2, o) = .ref (zad G o) := zc_ref (zRg_ref hor)
  obtain ⟨b1, b2, b3⟩ := hbud
  have hgood := zWs_good hcode
  have hzm := zSZ_mono a1
  have hcat2 : ((rest.map (zc G)).map fun v => v.category).sum ≤ 8 := Nat.le_trans (zcats_ok rest) hcat
  have hsz0 : md = 0 → H.size = zgB G + n := fun q => by have := hB1 q; have := hP.2.1; omega
  have hrecv : ∃ cellB : Cell, H[zad G o]? = some cellB ∧ cellB.vm.isStatics = false ∧ s.vm.findClass (zrcn rc) = some cellB.cls := by
    rcases hrc with h12 | h26
    · obtain ⟨i, rfl, hi, hci⟩ := zcell hor hcl (by omega)
      rw [zad_n]
      have := va_recv hKt hP.1 (ci := rc) (q0 := i) (zcr_get h12) (by rw [zW_get hi, zE_o hci h12])
      unfold zrcn
      rw [if_neg (by omega)]
      exact this
    · subst h26
      obtain ⟨k, hk, rfl⟩ := zsc hor hcl
      rw [zad_s (by omega)]
      exact va_Orecv (hZt.2.2.2.1 k hk).1 hS
  have hT0 : GoodIn zws (va_wsU (hO h) idx (zrcn rc) (hY hc).cls x (hY hc) (zWs hc)) := by
    intro w hw
    unfold va_wsU at hw
    rcases List.mem_append.mp hw with hw | hw
    · rcases List.mem_cons.mp hw with rfl | hw
      · exact zws_good _ w1
      · rcases List.mem_cons.mp hw with rfl | hw
        · exact zws_good _ w2
        · rcases List.mem_cons.mp hw with rfl | hw
          · exact zws_good _ w3
          · rcases List.mem_cons.mp hw with rfl | hw
            · exact zws_good _ w4
            · rw [List.mem_singleton.mp hw]
              exact zws_good _ w5
    · exact hgood w hw
  have hrun := va_runU (As := As.map (zc G)) (rest := rest.map (zc G)) (g := F0 m pc ls ((As.reverse ++ (2, o) :: rest).map (zc G))) ⟨hx, hb, hml, hown, hts⟩ hC (va_cwU (hN hc) hts hT0 rfl rfl rfl hyx ⟨hm.1.1, hm.1.2, hxd⟩ ⟨by show d + 1 ≤ R.frames; omega, by show 8 + (hL hc + 11) + 60 * d ≤ R.locals; have := hm.2.2.1; omega⟩) ⟨zPc_blind, hrecv, fun U hU hW => by have q := zPc_pre hP hKt hZt hS hStA hsz0 U hU hW; rw [List.map_cons, e0] at q; exact q⟩ rfl (by rw [List.length_map]; exact hn) hLs.1 (by show (As.reverse ++ (2, o) :: rest).map (zc G) = _; rw [List.map_append, List.map_reverse, List.map_cons, e0]) (lv_room hcat2) hd (cells := n - n0) (slots := zSZ n - zSZ n0) (e := e) (below := below) (meth := meth) (locs := locs) ⟨by omega, by omega⟩
  refine z_back hrun hS fun r1 v1 H1 locs1 q1 q2 q3 q4 => ?_
  have key := kk r1 v1 q1 p e R s m args below meth c QW C H1 locs1 ls q2 q4 (zL_mono hLs (by omega)) (zrr_psh hT4 q3 (zStk_mono hStR (by omega))) (by omega) (by omega) (by omega)
  rw [zret_psh hT4, show n + hMc hc - n0 = n - n0 + hMc hc by omega, show zSZ (n + hMc hc) - zSZ n0 = zSZ n - zSZ n0 + hMs hc by omega] at key
  exact key
theorem zs_callI {l : Launch} {G : zG} {md d : Nat} {h : zHdr} {n0 : Nat} {Q : Int → zH → Prop} {QX : Nat → zH → Prop} {pc : Nat} {L : List zV} {v : zH} {n : Nat} {hc : zHdr} {As rest : List zV} {Q1 : Int → zH → Prop} {idx ic : Nat} {o : Int} (hd : decode (hB h) pc = .ok (.invokespecial idx, 3)) (hm : zmokP hc) (hcode : zcode ic hc = true) (hT4 : hT hc ≤ 4) (hcat : zcats rest ≤ 8) (hn : As.length = hN hc) (w1 : Jvm.Cond.methodLink (hO h) idx (hY hc) ∈ zws) (w2 : Jvm.Cond.initialized (hY hc).cls ∈ zws) (w3 : Jvm.Cond.instanceMethod (hY hc) ∈ zws) (hnm : (hY hc).name = "<init>") (hRn : hR hc = none) (hbud : zbudget h n0 n (hMc hc) (hMs hc))
    (hC : zC l G md d hc ((2, o) :: As) v n Q1) (kk : ∀ (r1 : Int) (v1 : zH), Q1 r1 v1 → zJp l G md (d + 1) h n0 Q QX (pc + 3) L (zpsh (hT hc) r1 rest) v1 (n + hMc hc)) : zJp l G md (d + 1) h n0 Q QX pc L (As.reverse ++ (2, o) :: rest) v n := by
  intro p e R s m args below meth c QW C H locs ls hP hS hLs hSt a1 a2 a3
  obtain ⟨⟨hx, hb, hml, hown, hts⟩, ⟨hKt, hZt, hB0, hB1⟩, ⟨hf1, hf2, hf3, hf4⟩, hin, hHR, hHX⟩ := id C
  refine zW_size fun hsz => ?_
  have hStA : zStk n ((2, o) :: As) := by
    refine zStk_c.mpr ⟨hSt (2, o) (List.mem_append_right _ List.mem_cons_self), fun q hq => hSt q (List.mem_append_left _ (List.mem_reverse.mpr hq))⟩
  have hStR : zStk n rest := fun q hq => hSt q (List.mem_append_right _ (List.mem_cons_of_mem _ hq))
  have hor := (zStk_c.mp hStA).1.1
  have e0 : zc G (2, o) = .ref (zad G o) := zc_ref (zRg_ref hor)
  obtain ⟨b1, b2, b3⟩ := hbud
  have hgood := zWs_good hcode
  have hzm := zSZ_mono a1
  have hcat2 : ((rest.map (zc G)).map fun v => v.category).sum ≤ 8 := Nat.le_trans (zcats_ok rest) hcat
  have hsz0 : md = 0 → H.size = zgB G + n := fun q => by have := hB1 q; have := hP.2.1; omega
  have hrun := va_runI (bytes := hB hc) (maxL := hL hc) (As := As.map (zc G)) (rest := rest.map (zc G)) (g := F0 m pc ls ((As.reverse ++ (2, o) :: rest).map (zc G))) ⟨hx, hb, hml, hown, hts⟩ hC (cwI (hN hc) hts hgood (by rw [zWs, hRn]) rfl rfl (hts _ w2) (hts _ w1) (hts _ w3) hnm ⟨hm.1.1, hm.1.2, hm.2.1⟩ ⟨by show d + 1 ≤ R.frames; omega, by show 8 + (hL hc + 11) + 60 * d ≤ R.locals; have := hm.2.2.1; omega⟩) ⟨zPc_blind, fun U hU hW => by have q := zPc_pre hP hKt hZt hS hStA hsz0 U hU hW; rw [List.map_cons, e0] at q; exact q⟩ rfl (by rw [List.length_map]; exact hn) hLs.1 (by show (As.reverse ++ (2, o) :: rest).map (zc G) = _; rw [List.map_append, List.map_reverse, List.map_cons, e0]) (lv_room hcat2) hd (cells := n - n0) (slots := zSZ n - zSZ n0) (e := e) (below := below) (meth := meth) (locs := locs) ⟨by omega, by omega⟩
  refine z_back hrun hS fun r1 v1 H1 locs1 q1 q2 q3 q4 => ?_
  have key := kk r1 v1 q1 p e R s m args below meth c QW C H1 locs1 ls q2 q4 (zL_mono hLs (by omega)) (zrr_psh hT4 q3 (zStk_mono hStR (by omega))) (by omega) (by omega) (by omega)
  rw [zret_psh hT4, show n + hMc hc - n0 = n - n0 + hMc hc by omega, show zSZ (n + hMc hc) - zSZ n0 = zSZ n - zSZ n0 + hMs hc by omega] at key
  exact key
theorem zs_callIN {l : Launch} {G : zG} {md d : Nat} {h : zHdr} {n0 : Nat} {Q : Int → zH → Prop} {QX : Nat → zH → Prop} {pc : Nat} {L : List zV} {v : zH} {n : Nat} {hc : zHdr} {As rest : List zV} {Q1 : Int → zH → Prop} {idx ic : Nat} {o : Int} (hd : decode (hB h) pc = .ok (.invokespecial idx, 3)) (hm : zmokP hc) (hcode : zcode ic hc = true) (hT4 : hT hc ≤ 4) (hcat : zcats rest ≤ 8) (hn : As.length = hN hc) (w1 : (hO h, idx, hY hc) ∈ zNst) (w2 : Jvm.Cond.initialized (hY hc).cls ∈ zws) (w3 : Jvm.Cond.instanceMethod (hY hc) ∈ zws) (hnm : (hY hc).name = "<init>") (hRn : hR hc = none) (hbud : zbudget h n0 n (hMc hc) (hMs hc))
    (hC : zC l G md d hc ((2, o) :: As) v n Q1) (kk : ∀ (r1 : Int) (v1 : zH), Q1 r1 v1 → zJp l G md (d + 1) h n0 Q QX (pc + 3) L (zpsh (hT hc) r1 rest) v1 (n + hMc hc)) : zJp l G md (d + 1) h n0 Q QX pc L (As.reverse ++ (2, o) :: rest) v n := by
  intro p e R s m args below meth c QW C H locs ls hP hS hLs hSt a1 a2 a3
  obtain ⟨⟨hx, hb, hml, hown, hts⟩, ⟨hKt, hZt, hB0, hB1⟩, ⟨hf1, hf2, hf3, hf4⟩, hin, hHR, hHX⟩ := id C
  refine zW_size fun hsz => ?_
  have hStA : zStk n ((2, o) :: As) := by
    refine zStk_c.mpr ⟨hSt (2, o) (List.mem_append_right _ List.mem_cons_self), fun q hq => hSt q (List.mem_append_left _ (List.mem_reverse.mpr hq))⟩
  have hStR : zStk n rest := fun q hq => hSt q (List.mem_append_right _ (List.mem_cons_of_mem _ hq))
  have hor := (zStk_c.mp hStA).1.1
  have e0 : zc G (2, o) = .ref (zad G o) := zc_ref (zRg_ref hor)
  obtain ⟨b1, b2, b3⟩ := hbud
  have hgood := zWs_good hcode
  have hzm := zSZ_mono a1
  have hcat2 : ((rest.map (zc G)).map fun v => v.category).sum ≤ 8 := Nat.le_trans (zcats_ok rest) hcat
  have hsz0 : md = 0 → H.size = zgB G + n := fun q => by have := hB1 q; have := hP.2.1; omega
  have hNw : va_Nw (.methodLinkNest (hO h) idx (hY hc) "WarmWall") s := hZt.2.2.2.2.2.2.2.2 _ w1
  have hrun := va_runIN (bytes := hB hc) (maxL := hL hc) (As := As.map (zc G)) (rest := rest.map (zc G)) (g := F0 m pc ls ((As.reverse ++ (2, o) :: rest).map (zc G))) ⟨hx, hb, hml, hown, hts⟩ hC ⟨va_cnB (hN hc) hts hgood (by rw [zWs, hRn]) rfl rfl hNw (hts _ w2) ⟨hm.1.1, hm.1.2, hm.2.1⟩ ⟨by show d + 1 ≤ R.frames; omega, by show 8 + (hL hc + 11) + 60 * d ≤ R.locals; have := hm.2.2.1; omega⟩, hnm, hts _ w3⟩ ⟨zPc_blind, fun U hU hW => by have q := zPc_pre hP hKt hZt hS hStA hsz0 U hU hW; rw [List.map_cons, e0] at q; exact q⟩ rfl (by rw [List.length_map]; exact hn) hLs.1 (by show (As.reverse ++ (2, o) :: rest).map (zc G) = _; rw [List.map_append, List.map_reverse, List.map_cons, e0]) (lv_room hcat2) hd (cells := n - n0) (slots := zSZ n - zSZ n0) (e := e) (below := below) (meth := meth) (locs := locs) ⟨by omega, by omega⟩
  refine z_back hrun hS fun r1 v1 H1 locs1 q1 q2 q3 q4 => ?_
  have key := kk r1 v1 q1 p e R s m args below meth c QW C H1 locs1 ls q2 q4 (zL_mono hLs (by omega)) (zrr_psh hT4 q3 (zStk_mono hStR (by omega))) (by omega) (by omega) (by omega)
  rw [zret_psh hT4, show n + hMc hc - n0 = n - n0 + hMc hc by omega, show zSZ (n + hMc hc) - zSZ n0 = zSZ n - zSZ n0 + hMs hc by omega] at key
  exact key
end
section
/-! the walk is sound: what zx comes to is enough for zJ -/
theorem z2_i {st : List zV} {k : Int → Int → List zV → Prop} (h : z2 st k) : ∃ x y r, st = (0, y) :: (0, x) :: r ∧ k x y r := by
  unfold z2 at h
  split at h
  · exact ⟨_, _, _, rfl, h⟩
  · exact h.elim
theorem z2l_i {st : List zV} {k : Int → Int → List zV → Prop} (h : z2l st k) : ∃ x y r, st = (1, y) :: (1, x) :: r ∧ k x y r := by
  unfold z2l at h
  split at h
  · exact ⟨_, _, _, rfl, h⟩
  · exact h.elim
theorem z1_i {st : List zV} {k : Int → List zV → Prop} (h : z1 st k) : ∃ x r, st = (0, x) :: r ∧ k x r := by
  unfold z1 at h
  split at h
  · exact ⟨_, _, rfl, h⟩
  · exact h.elim
theorem z1l_i {st : List zV} {k : Int → List zV → Prop} (h : z1l st k) : ∃ x r, st = (1, x) :: r ∧ k x r := by
  unfold z1l at h
  split at h
  · exact ⟨_, _, rfl, h⟩
  · exact h.elim
theorem z1r_i {st : List zV} {k : Int → List zV → Prop} (h : z1r st k) : ∃ x r, st = (2, x) :: r ∧ k x r := by
  unfold z1r at h
  split at h
  · exact ⟨_, _, rfl, h⟩
  · exact h.elim
theorem zix_i {st : List zV} {k : Int → Int → List zV → Prop} (h : zix st k) : ∃ a j r, st = (0, j) :: (2, a) :: r ∧ k a j r := by
  unfold zix at h
  split at h
  · exact ⟨_, _, _, rfl, h⟩
  · exact h.elim
theorem zixv_i {t : Nat} {st : List zV} {k : Int → Int → Int → List zV → Prop} (h : zixv t st k) : ∃ a j x r, st = (t, x) :: (0, j) :: (2, a) :: r ∧ k a j x r := by
  unfold zixv at h
  split at h
  · split at h
    · rename_i e
      have := Nat.eq_of_beq_eq_true e
      subst this
      exact ⟨_, _, _, _, rfl, h⟩
    · exact h.elim
  · exact h.elim
theorem zpf_i {st : List zV} {k : Nat → Int → Int → List zV → Prop} (h : zpf st k) : ∃ t x a r, st = (t, x) :: (2, a) :: r ∧ k t x a r := by
  unfold zpf at h
  split at h
  · exact ⟨_, _, _, _, rfl, h⟩
  · exact h.elim
theorem zget_i {L : List zV} {i t : Nat} {k : Int → Prop} (h : zget L i t k) : ∃ x, L[i]? = some (t, x) ∧ k x := by
  unfold zget at h
  split at h
  · rename_i e
    split at h
    · rename_i e2
      have := Nat.eq_of_beq_eq_true e2
      subst this
      exact ⟨_, e, h⟩
    · exact h.elim
  · exact h.elim
theorem zput_i {L : List zV} {i : Nat} {q : zV} {k : List zV → Prop} (h : zput L i q k) : zpl L i = false ∧ i < L.length ∧ k (L.set i q) := by
  unfold zput at h
  split at h
  · exact h.elim
  · rename_i e
    split at h
    · rename_i e2
      exact ⟨e, by simpa using e2, h⟩
    · exact h.elim
theorem zput2_i {L : List zV} {i : Nat} {q : zV} {k : List zV → Prop} (h : zput2 L i q k) : zpl L i = false ∧ i + 1 < L.length ∧ k ((L.set i q).set (i + 1) (3, 0)) := by
  unfold zput2 at h
  split at h
  · exact h.elim
  · rename_i e
    split at h
    · rename_i e2
      exact ⟨e, by simpa using e2, h⟩
    · exact h.elim
theorem zdp_i {d : Nat} {k : Nat → Prop} (h : zdp d k) : ∃ d', d = d' + 1 ∧ k d' := by
  unfold zdp at h
  split at h
  · exact h.elim
  · exact ⟨_, rfl, h⟩
theorem zrecv_i {st : List zV} {k : Int → Prop} (h : zrecv st k) : ∃ o r, st = (2, o) :: r ∧ k o := by
  unfold zrecv at h
  split at h
  · exact ⟨_, _, rfl, h⟩
  · exact h.elim
theorem zcall_i {l : Launch} {G : zG} {md d : Nat} {h0 h : zHdr} {n0 na : Nat} {st : List zV} {v : zH} {n : Nat} {k : List zV → zH → Nat → Prop} (hm : zmokP h) (hb0 : hMc h = 0 → n ≤ n0 + hMc h0 ∧ zSZ n ≤ zSZ n0 + hMs h0) (hh : zcall1 l G md d h0 n0 h na st v n k) :
    ∃ d', d = d' + 1 ∧ zbudget h0 n0 n (hMc h) (hMs h) ∧ zcats (st.drop na) ≤ 8 ∧ (st.take na).length = na ∧ zC l G md d' h (st.take na).reverse v n (fun r v' => k (zpsh (hT h) r (st.drop na)) v' (n + hMc h)) := by
  have key : zbudget h0 n0 n (hMc h) (hMs h) ∧ zcall l G md d h na st v n k := by
    unfold zcall1 at hh
    split at hh
    · rename_i e
      obtain ⟨b1, b2⟩ := hb0 e
      have e2 := hm.2.2.2.1 e
      refine ⟨?_, hh⟩
      unfold zbudget
      rw [e, e2]
      exact ⟨b1, b2, rfl⟩
    · exact hh
  obtain ⟨hbud, hh⟩ := key
  unfold zcall at hh
  split at hh
  · exact hh.elim
  · rename_i e1
    split at hh
    · exact hh.elim
    · rename_i e2
      obtain ⟨d', e3, h4⟩ := zdp_i hh
      exact ⟨d', e3, hbud, Nat.le_of_ble_eq_true e1, Nat.eq_of_beq_eq_true e2, h4⟩
theorem zc_w {lo : List zV} (na : Nat) : lo.take na ++ lo.drop na = lo := List.take_append_drop na lo
theorem zmsk_ok {G : zG} {n nL : Nat} {ls : Array Slot} {L : List zV} (m : List Bool) (h : zLs G n ls nL L) : zLs G n ls nL (zmsk m L) := by
  refine ⟨h.1, h.2.1, fun i t x hi ht => h.2.2 i t x ?_ ht⟩
  have key : ∀ (m : List Bool) (L : List zV) (i : Nat), (zmsk m L)[i]? = some (t, x) → L[i]? = some (t, x) := by
    intro m
    induction m with
    | nil =>
      intro L i hi
      unfold zmsk at hi
      rw [List.getElem?_map] at hi
      cases hL : L[i]? with
      | none => rw [hL] at hi; cases hi
      | some q => rw [hL] at hi; cases hi; exact absurd rfl ht
    | cons b m ih =>
      intro L i hi
      cases L with
      | nil => cases b <;> simp [zmsk] at hi
      | cons q L =>
        cases b with
        | true =>
          unfold zmsk at hi
          cases i with
          | zero => exact hi
          | succ i => rw [List.getElem?_cons_succ] at hi ⊢; exact ih L i hi
        | false =>
          unfold zmsk at hi
          cases i with
          | zero => cases hi; exact absurd rfl ht
          | succ i => rw [List.getElem?_cons_succ] at hi ⊢; exact ih L i hi
  exact key m L i hi
theorem zJ_msk {l : Launch} {G : zG} {md d : Nat} {h : zHdr} {n0 : Nat} {Q : Int → zH → Prop} {QX : Nat → zH → Prop} {pc : Nat} {L st : List zV} {v : zH} {n : Nat} (m : List Bool) (k : zJp l G md d h n0 Q QX pc (zmsk m L) st v n) : zJp l G md d h n0 Q QX pc L st v n := by
  intro p e R s m' args below meth c QW C H locs ls hP hS hLs hSt a1 a2 a3
  exact k p e R s m' args below meth c QW C H locs ls hP hS (zmsk_ok m hLs) hSt a1 a2 a3
theorem ztg_ok {code : List zIns} {t pc : Nat} {off : Int} (h : ztg code t pc off = true) : (pc : Int) + off = (zpc code t : Int) := by
  unfold ztg at h
  unfold zpc
  cases he : code[t]? with
  | none => rw [he] at h; cases h
  | some e => rw [he] at h; exact of_decide_eq_true h
theorem zbudget_b {l : Launch} {G : zG} {md d : Nat} {h : zHdr} {n0 : Nat} {Q : Int → zH → Prop} {QX : Nat → zH → Prop} {pc : Nat} {L st : List zV} {v : zH} {n : Nat} (k : n0 ≤ n → n ≤ n0 + hMc h → zSZ n ≤ zSZ n0 + hMs h → zJp l G md d h n0 Q QX pc L st v n) : zJp l G md d h n0 Q QX pc L st v n := by
  intro p e R s m' args below meth c QW C H locs ls hP hS hLs hSt a1 a2 a3
  exact k a1 a2 a3 p e R s m' args below meth c QW C H locs ls hP hS hLs hSt a1 a2 a3
theorem zstk_b {l : Launch} {G : zG} {md d : Nat} {h : zHdr} {n0 : Nat} {Q : Int → zH → Prop} {QX : Nat → zH → Prop} {pc : Nat} {L st : List zV} {v : zH} {n : Nat} (k : zStk n st → zJp l G md d h n0 Q QX pc L st v n) : zJp l G md d h n0 Q QX pc L st v n := by
  intro p e R s m' args below meth c QW C H locs ls hP hS hLs hSt a1 a2 a3
  exact k hSt p e R s m' args below meth c QW C H locs ls hP hS hLs hSt a1 a2 a3
theorem zbeq9 {k : Nat} (h : ¬ k = 9) : Nat.beq k 9 = false := by
  cases hb : Nat.beq k 9
  · rfl
  · exact absurd (Nat.eq_of_beq_eq_true hb) h
theorem z_and {a b : Bool} (h : (a && b) = true) : a = true ∧ b = true := by simpa using h
theorem zsw_mono {x : Int} {f g : Nat → Prop} {dd : Nat} (hfg : ∀ t, f t → g t) : ∀ {ts : List Nat} {lo : Int}, zsw x f dd lo ts → zsw x g dd lo ts
  | [], _, h => fun q => hfg _ (h q)
  | _ :: _, _, h => ⟨fun q => hfg _ (h.1 q), zsw_mono hfg h.2⟩
theorem zlk_mono {x : Int} {f g : Nat → Prop} {dd : Nat} (hfg : ∀ t, f t → g t) : ∀ {ps : List (Int × Int)} {ts : List Nat}, zlk x f dd ps ts → zlk x g dd ps ts
  | [], [], h => hfg _ h
  | [], _ :: _, h => hfg _ h
  | _ :: _, [], h => hfg _ h
  | _ :: _, _ :: _, h => ⟨fun q => hfg _ (h.1 q), fun q => zlk_mono hfg (h.2 q)⟩
theorem zfv_n {md : Nat} {v : zH} {i : Int} {k : Nat} (h : ¬ (md = 1 ∧ (zFn (zCL i) k).1 ≠ 0)) : zfv md v i k = v i k := by
  unfold zfv
  rw [if_neg h]
theorem zfv_f {v : zH} {i : Int} {k : Nat} {x : Int} (h : (zFn (zCL i) k).1 ≠ 0) (hx : zFK i k = x) : zfv 1 v i k = x := by
  unfold zfv
  rw [if_pos ⟨rfl, h⟩, hx]
theorem zFT_all : ∀ row ∈ zFTt, ∀ x ∈ row, x = 0 ∨ x = 2 := by decide +kernel
theorem zFT_02 (c k : Nat) : zFT c k = 0 ∨ zFT c k = 2 := by
  unfold zFT
  rw [List.getD_eq_getElem?_getD (l := zFTt), List.getD_eq_getElem?_getD]
  cases h1 : zFTt[c]? with
  | none => simp
  | some row =>
    simp only [Option.getD_some]
    cases h2 : row[k]? with
    | none => simp
    | some x => exact zFT_all row (List.mem_of_getElem? h1) x (List.mem_of_getElem? h2)
theorem zFn_all : ∀ row ∈ zFnt, ∀ x ∈ row, -10 ≤ x.2 := by decide +kernel
theorem zFn_off (c k : Nat) : (zFn c k).1 = 1 → -10 ≤ (zFn c k).2 := by
  intro _
  unfold zFn
  rw [List.getD_eq_getElem?_getD (l := zFnt), List.getD_eq_getElem?_getD]
  cases h1 : zFnt[c]? with
  | none => simp
  | some row =>
    simp only [Option.getD_some]
    cases h2 : row[k]? with
    | none => simp
    | some x => exact zFn_all row (List.mem_of_getElem? h1) x (List.mem_of_getElem? h2)
theorem zCL_lt24 {a : Int} {c : Nat} (h : zCL a = c) (hc : c < 12) : 0 ≤ a := zCL_le h (by omega)
theorem zKT_ne (k : Nat) (o : Int) : ¬ zKT k o = -1000 := by
  have hd : zKd o = 0 ∨ zKd o = 1 ∨ zKd o = 2 := by
    unfold zKd
    split
    · exact Or.inl rfl
    · split
      · exact Or.inr (Or.inl rfl)
      · exact Or.inr (Or.inr rfl)
  unfold zKT
  split
  · split
    · decide
    · split <;> decide
  · omega
  · omega
  · omega
  · omega
theorem zfin_all : ∀ ci, ci < 12 → ∀ k, k < (zcr ci).2.2 → zfin ci k = false → (zFn ci k).1 = 0 := by decide +kernel
theorem zfin_n {md ci k : Nat} (h12 : ci < 12) (hk : k < (zcr ci).2.2) (h : zfin ci k = false) : ¬ (md = 1 ∧ (zFn ci k).1 ≠ 0) := fun q => q.2 (zfin_all ci h12 k hk h)
theorem znew_i {h : zHdr} {md n0 n c : Nat} {k : Prop} (hh : znew h md n0 n c k) : md = 0 ∧ zCL n = c ∧ n + 1 ≤ n0 + hMc h ∧ zSZ (n + 1) ≤ zSZ n0 + hMs h ∧ k := by
  unfold znew at hh
  split at hh
  · exact ⟨rfl, hh⟩
  · exact hh.elim
/-- of zinv's rows, each kind's -/
theorem zinv_m {own : String} {idx : Nat} {R : zRs} (h : zinv own idx R = true) (hk : rA R ≤ 4) : zmokP (rH R) := by
  have h1 := (z_and h).1
  rw [Bool.or_eq_true] at h1
  rcases h1 with h1 | h1
  · have : 4 < rA R := by simpa using h1
    omega
  · exact zmok_ok h1
theorem zinv_0 {own : String} {idx : Nat} {R : zRs} (h : zinv own idx R = true) (hk : rA R = 0) : ∃ i5, (Jvm.Cond.methodLink own idx (hY (rH R)) ∈ zws ∧ Jvm.Cond.instanceMethod (hY (rH R)) ∈ zws ∧ Jvm.Cond.selects (zrcn (rB R)) (hY (rH R)) (hY (rH R)) ∈ zws ∧ Jvm.Cond.initialized (zrcn (rB R)) ∈ zws) ∧ zcode i5 (rH R) = true ∧ (hY (rH R)).cls = zrcn (rB R) ∧ (rB R < 12 ∨ rB R = 26) := by
  have h2 := (z_and h).2
  rw [hk] at h2
  split at h2
  all_goals first | (rename_i e _; cases e; done) | (cases h2; done) | (exfalso; omega) | skip
  · simp only [Bool.and_eq_true, decide_eq_true_eq, Bool.or_eq_true] at h2
    obtain ⟨⟨⟨⟨⟨⟨q1, q2⟩, q3⟩, q4⟩, q5⟩, q6⟩, q7⟩ := h2
    exact ⟨_, ⟨zwd_ok q1, zwd_ok q2, zwd_ok q3, zwd_ok q4⟩, q5, q6, q7⟩
theorem zinv_1 {own : String} {idx : Nat} {R : zRs} (h : zinv own idx R = true) (hk : rA R = 1) : ∃ i6 x, (Jvm.Cond.methodLink own idx x ∈ zws ∧ Jvm.Cond.sameMethod x.cls (hY (rH R)).cls x.name x.desc ∈ zws ∧ Jvm.Cond.selects (zrcn (rB R)) x (hY (rH R)) ∈ zws ∧ Jvm.Cond.instanceMethod (hY (rH R)) ∈ zws ∧ Jvm.Cond.initialized (hY (rH R)).cls ∈ zws) ∧ zcode i6 (rH R) = true ∧ hY (rH R) = ⟨(hY (rH R)).cls, x.name, x.desc⟩ ∧ (parseMethodDescriptor x.desc).map (fun d => d.parameters.length) = some (hN (rH R)) ∧ rB R < 12 := by
  have h2 := (z_and h).2
  rw [hk] at h2
  split at h2
  all_goals first | (rename_i e _; cases e; done) | (cases h2; done) | (exfalso; omega) | skip
  · simp only [Bool.and_eq_true, decide_eq_true_eq] at h2
    obtain ⟨⟨⟨⟨q1, q4⟩, q5⟩, q6⟩, q7⟩ := h2
    split at q1
    · rename_i o j x e
      simp only [Bool.and_eq_true, decide_eq_true_eq] at q1
      obtain ⟨⟨⟨⟨⟨⟨rfl, rfl⟩, g3⟩, g4⟩, g5⟩, g6⟩, g7⟩ := q1
      exact ⟨_, x, ⟨List.mem_filter.mpr ⟨zat_mem e, g3⟩, zwd_ok g4, zwd_ok g5, zwd_ok q4, zwd_ok q5⟩, q6, g6, g7, q7⟩
    · cases q1
theorem zinv_2 {own : String} {idx : Nat} {R : zRs} (h : zinv own idx R = true) (hk : rA R = 2) : ∃ i4, (Jvm.Cond.methodLink own idx (hY (rH R)) ∈ zws ∧ Jvm.Cond.static (hY (rH R)) ∈ zws ∧ Jvm.Cond.initialized (hY (rH R)).cls ∈ zws) ∧ zcode i4 (rH R) = true := by
  have h2 := (z_and h).2
  rw [hk] at h2
  split at h2
  all_goals first | (rename_i e _; cases e; done) | (cases h2; done) | (exfalso; omega) | skip
  · simp only [Bool.and_eq_true] at h2
    obtain ⟨⟨⟨q1, q2⟩, q3⟩, q4⟩ := h2
    exact ⟨_, ⟨zwd_ok q1, zwd_ok q2, zwd_ok q3⟩, q4⟩
theorem zinv_3 {own : String} {idx : Nat} {R : zRs} (h : zinv own idx R = true) (hk : rA R = 3) : ∃ i4, (Jvm.Cond.methodLink own idx (hY (rH R)) ∈ zws ∧ Jvm.Cond.initialized (hY (rH R)).cls ∈ zws ∧ Jvm.Cond.instanceMethod (hY (rH R)) ∈ zws) ∧ zcode i4 (rH R) = true ∧ (hY (rH R)).name = "<init>" ∧ hR (rH R) = none := by
  have h2 := (z_and h).2
  rw [hk] at h2
  split at h2
  all_goals first | (rename_i e _; cases e; done) | (cases h2; done) | (exfalso; omega) | skip
  · simp only [Bool.and_eq_true, decide_eq_true_eq] at h2
    obtain ⟨⟨⟨⟨⟨q1, q2⟩, q3⟩, q4⟩, q5⟩, q6⟩ := h2
    exact ⟨_, ⟨zwd_ok q1, zwd_ok q2, zwd_ok q3⟩, q4, q5, q6⟩
theorem zinv_4 {own : String} {idx : Nat} {R : zRs} (h : zinv own idx R = true) (hk : rA R = 4) : ∃ i4, ((own, idx, hY (rH R)) ∈ zNst ∧ Jvm.Cond.initialized (hY (rH R)).cls ∈ zws ∧ Jvm.Cond.instanceMethod (hY (rH R)) ∈ zws) ∧ zcode i4 (rH R) = true ∧ (hY (rH R)).name = "<init>" ∧ hR (rH R) = none := by
  have h2 := (z_and h).2
  rw [hk] at h2
  split at h2
  all_goals first | (rename_i e _; cases e; done) | (cases h2; done) | (exfalso; omega) | skip
  · simp only [Bool.and_eq_true, decide_eq_true_eq] at h2
    obtain ⟨⟨⟨⟨⟨q1, q2⟩, q3⟩, q4⟩, q5⟩, q6⟩ := h2
    exact ⟨_, ⟨q1, zwd_ok q2, zwd_ok q3⟩, q4, q5, q6⟩
theorem zinv_5 {own : String} {idx : Nat} {R : zRs} (h : zinv own idx R = true) (hk : rA R = 5) : Jvm.Cond.methodLink own idx Lib.objectInit ∈ zws ∧ Jvm.Cond.instanceMethod Lib.objectInit ∈ zws ∧ Jvm.Cond.code Lib.objectInit ⟨#[0xb1]⟩ 1 none ∈ zws := by
  have h2 := (z_and h).2
  rw [hk] at h2
  split at h2
  all_goals first | (rename_i e _; cases e; done) | (cases h2; done) | (exfalso; omega) | skip
  · simp only [Bool.and_eq_true] at h2
    obtain ⟨⟨q1, q2⟩, q3⟩ := h2
    exact ⟨zwd_ok q1, zwd_ok q2, zwd_ok q3⟩
theorem zinv_7 {own : String} {idx : Nat} {R : zRs} (h : zinv own idx R = true) (hk : rA R = 7) : Jvm.Cond.methodLink own idx arraycopyName ∈ zws ∧ Jvm.Cond.native arraycopyName ∈ zws ∧ Jvm.Cond.static arraycopyName ∈ zws ∧ Jvm.Cond.initialized "java/lang/System" ∈ zws := by
  have h2 := (z_and h).2
  rw [hk] at h2
  split at h2
  all_goals first | (rename_i e _; cases e; done) | (cases h2; done) | (exfalso; omega) | skip
  · simp only [Bool.and_eq_true] at h2
    obtain ⟨⟨⟨q1, q2⟩, q3⟩, q4⟩ := h2
    exact ⟨zwd_ok q1, zwd_ok q2, zwd_ok q3, zwd_ok q4⟩
theorem zinv_10 {own : String} {idx : Nat} {R : zRs} (h : zinv own idx R = true) (hk : rA R = 10) : Jvm.Cond.methodLink own idx Lib.Math.max.name ∈ zws ∧ Jvm.Cond.static Lib.Math.max.name ∈ zws ∧ Jvm.Cond.initialized "java/lang/Math" ∈ zws ∧ Jvm.Cond.code Lib.Math.max.name Lib.Math.max.code 2 (some .int) ∈ zws := by
  have h2 := (z_and h).2
  rw [hk] at h2
  split at h2
  all_goals first | (rename_i e _; cases e; done) | (cases h2; done) | (exfalso; omega) | skip
  · simp only [Bool.and_eq_true] at h2
    obtain ⟨⟨⟨q1, q2⟩, q3⟩, q4⟩ := h2
    exact ⟨zwd_ok q1, zwd_ok q2, zwd_ok q3, zwd_ok q4⟩
theorem zinv_11 {own : String} {idx : Nat} {R : zRs} (h : zinv own idx R = true) (hk : rA R = 11) : Jvm.Cond.methodLink own idx Lib.Math.min.name ∈ zws ∧ Jvm.Cond.static Lib.Math.min.name ∈ zws ∧ Jvm.Cond.initialized "java/lang/Math" ∈ zws ∧ Jvm.Cond.code Lib.Math.min.name Lib.Math.min.code 2 (some .int) ∈ zws := by
  have h2 := (z_and h).2
  rw [hk] at h2
  split at h2
  all_goals first | (rename_i e _; cases e; done) | (cases h2; done) | (exfalso; omega) | skip
  · simp only [Bool.and_eq_true] at h2
    obtain ⟨⟨⟨q1, q2⟩, q3⟩, q4⟩ := h2
    exact ⟨zwd_ok q1, zwd_ok q2, zwd_ok q3, zwd_ok q4⟩
theorem zinv_12 {own : String} {idx : Nat} {R : zRs} (h : zinv own idx R = true) (hk : rA R = 12) : Jvm.Cond.methodLink own idx Lib.Math.abs.name ∈ zws ∧ Jvm.Cond.static Lib.Math.abs.name ∈ zws ∧ Jvm.Cond.initialized "java/lang/Math" ∈ zws ∧ Jvm.Cond.code Lib.Math.abs.name Lib.Math.abs.code 1 (some .int) ∈ zws := by
  have h2 := (z_and h).2
  rw [hk] at h2
  split at h2
  all_goals first | (rename_i e _; cases e; done) | (cases h2; done) | (exfalso; omega) | skip
  · simp only [Bool.and_eq_true] at h2
    obtain ⟨⟨⟨q1, q2⟩, q3⟩, q4⟩ := h2
    exact ⟨zwd_ok q1, zwd_ok q2, zwd_ok q3, zwd_ok q4⟩
theorem zinv_13 {own : String} {idx : Nat} {R : zRs} (h : zinv own idx R = true) (hk : rA R = 13) : Jvm.Cond.methodLink own idx Lib.MathLoose.max_long.x ∈ zws ∧ Jvm.Cond.static Lib.MathLoose.max_long.x ∈ zws ∧ Jvm.Cond.initialized "java/lang/Math" ∈ zws ∧ Jvm.Cond.code Lib.MathLoose.max_long.x Lib.MathLoose.max_long.code 4 (some .long) ∈ zws := by
  have h2 := (z_and h).2
  rw [hk] at h2
  split at h2
  all_goals first | (rename_i e _; cases e; done) | (cases h2; done) | (exfalso; omega) | skip
  · simp only [Bool.and_eq_true] at h2
    obtain ⟨⟨⟨q1, q2⟩, q3⟩, q4⟩ := h2
    exact ⟨zwd_ok q1, zwd_ok q2, zwd_ok q3, zwd_ok q4⟩
theorem zinv_14 {own : String} {idx : Nat} {R : zRs} (h : zinv own idx R = true) (hk : rA R = 14) : Jvm.Cond.methodLink own idx Lib.MathLoose.min_long.x ∈ zws ∧ Jvm.Cond.static Lib.MathLoose.min_long.x ∈ zws ∧ Jvm.Cond.initialized "java/lang/Math" ∈ zws ∧ Jvm.Cond.code Lib.MathLoose.min_long.x Lib.MathLoose.min_long.code 4 (some .long) ∈ zws := by
  have h2 := (z_and h).2
  rw [hk] at h2
  split at h2
  all_goals first | (rename_i e _; cases e; done) | (cases h2; done) | (exfalso; omega) | skip
  · simp only [Bool.and_eq_true] at h2
    obtain ⟨⟨⟨q1, q2⟩, q3⟩, q4⟩ := h2
    exact ⟨zwd_ok q1, zwd_ok q2, zwd_ok q3, zwd_ok q4⟩
theorem zprim_i {d : Nat} {r : List zV} {k : Prop} {G : zG} (h : zprim d r k) : 1 ≤ d ∧ ((r.map (zc G)).map fun v => v.category).sum ≤ 8 ∧ k := by
  obtain ⟨d', rfl, h2⟩ := zdp_i h
  split at h2
  · rename_i e
    exact ⟨by omega, Nat.le_trans (zcats_ok _) (Nat.le_of_ble_eq_true e), h2⟩
  · exact h2.elim
theorem zst_split {st : List zV} {na : Nat} (h : (st.take na).length = na) : ((st.take na).reverse).reverse ++ st.drop na = st := by rw [List.reverse_reverse]; exact zc_w na
theorem zst_split1 {st : List zV} {k : Nat} {o : Int} {r : List zV} (h : st.drop k = (2, o) :: r) (hl : (st.take (k + 1)).length = k + 1) : (st.take (k + 1)).reverse = (2, o) :: (st.take k).reverse ∧ st = (((st.take k).reverse).reverse ++ (2, o) :: st.drop (k + 1)) ∧ ((st.take k).reverse).length = k := by
  have hk : k < st.length := by
    rw [List.length_take] at hl
    omega
  have e1 : st[k] = (2, o) := by
    have := List.drop_eq_getElem_cons hk
    rw [h] at this
    exact (List.cons.inj this).1.symm
  refine ⟨?_, ?_, ?_⟩
  · rw [List.take_succ_eq_append_getElem hk, List.reverse_append, e1]
    rfl
  · rw [List.reverse_reverse, ← e1, ← List.drop_eq_getElem_cons hk, List.take_append_drop]
  · rw [List.length_reverse, List.length_take]
    omega
theorem zrtn_i {t : Option FieldType} {x : Int} {k : Prop} (h : zrtn t x k) : znr t x ∧ k := by
  unfold zrtn at h
  split at h
  · exact ⟨trivial, h⟩
  · exact h
theorem zend_i {h : zHdr} {n0 n : Nat} {k : Prop} (h1 : n0 ≤ n) (h2 : n ≤ n0 + hMc h) (hh : zend h n0 n k) : n = n0 + hMc h ∧ k := by
  unfold zend at hh
  split at hh
  · rename_i e
    exact ⟨by omega, hh⟩
  · exact hh
set_option maxHeartbeats 4000000 in
set_option maxRecDepth 100000 in
theorem zstep_ok {l : Launch} {G : zG} {md d : Nat} {h : zHdr} {code : List zIns} {n0 : Nat} {Q : Int → zH → Prop} {QX : Nat → zH → Prop} {go : zGo} {p : Nat} {e : zIns} {L st : List zV} {v : zH} {n : Nat} (he : code[p]? = some e) (hck : zce h code p e = true) (hLL : L.length = hL h)
    (hgo : ∀ (q : Nat) (L : List zV) (st : List zV) (v : zH) (n : Nat), L.length = hL h → go (code.drop q) L st v n → zJ l G md d h code n0 Q QX q L st v n)
    (hs : zstep l G md d h code n0 Q QX go e (code.drop (p + 1)) L st v n) : zJ l G md d h code n0 Q QX p L st v n := by
  have hck0 : ∃ b1 b2 : Bool, (b1 = true ∧ decode (hB h) (iPc e) = .ok (iI e, iLen e)) ∧ (Nat.beq (zlen (iI e)) 0 || Nat.beq (iLen e) (zlen (iI e))) = true ∧ (!(zfall (iI e)) || znx code (p + 1) (iPc e + iLen e) || zexc (iI e) (iR e)) = true ∧ zci h code e = true := by
    unfold zce at hck
    have g1 := z_and hck
    have g2 := z_and g1.1
    have g3 := z_and g2.1
    have g4 := z_and g3.1
    exact ⟨_, true, ⟨g4.1, of_decide_eq_true g4.2⟩, g3.2, g2.2, g1.2⟩
  clear hck
  obtain ⟨b1, b2, ⟨hb1, hdecA⟩, hln, hfl, hci⟩ := hck0
  clear hb1
  have hln2 : zlen (iI e) ≠ 0 → iLen e = zlen (iI e) := by
    intro q
    rw [Bool.or_eq_true] at hln
    rcases hln with h0 | h0
    · exact absurd (Nat.eq_of_beq_eq_true h0) q
    · exact Nat.eq_of_beq_eq_true h0
  have hdec2 : zlen (iI e) ≠ 0 → decode (hB h) (iPc e) = .ok (iI e, zlen (iI e)) := by
    intro q
    rw [← hln2 q]
    exact hdecA
  have hpc : zpc code p = iPc e := by unfold zpc; rw [he]
  have nx : zfall (iI e) = true ∧ zexc (iI e) (iR e) = false ∧ zlen (iI e) ≠ 0 → ∀ (L : List zV) (st : List zV) (v : zH) (n : Nat), L.length = hL h → go (code.drop (p + 1)) L st v n → zJp l G md d h n0 Q QX (iPc e + zlen (iI e)) L st v n := by
    intro hf L st v n hl hg
    have key := hgo (p + 1) L st v n hl hg
    rw [hf.1, hf.2.1] at hfl
    simp only [Bool.not_true, Bool.false_or, Bool.or_false] at hfl
    have e2 : zpc code (p + 1) = iPc e + iLen e := by
      unfold znx at hfl
      unfold zpc
      cases he' : code[p + 1]? with
      | none => rw [he'] at hfl; cases hfl
      | some e' => rw [he'] at hfl; exact Nat.eq_of_beq_eq_true hfl
    unfold zJ at key
    rw [e2, hln2 hf.2.2] at key
    exact key
  unfold zJ
  rw [hpc]
  obtain ⟨pos, pc, cut, ins, len, R⟩ := e
  cases ins
  all_goals try exact False.elim hs
  all_goals change zJp l G md d h n0 Q QX pc L st v n
  all_goals try have hdec := hdec2 (Nat.succ_ne_zero _)
  case iconst k =>
    exact zs_iconst hdec ⟨of_decide_eq_true (z_and hci).1, of_decide_eq_true (z_and hci).2⟩ (nx ⟨rfl, rfl, Nat.succ_ne_zero _⟩ _ _ _ _ hLL hs)
  case bipush k =>
    exact zs_bipush hdec (of_decide_eq_true (z_and hci).1) (of_decide_eq_true (z_and hci).2) (nx ⟨rfl, rfl, Nat.succ_ne_zero _⟩ _ _ _ _ hLL hs)
  case sipush k =>
    exact zs_sipush hdec (of_decide_eq_true (z_and hci).1) (of_decide_eq_true (z_and hci).2) (nx ⟨rfl, rfl, Nat.succ_ne_zero _⟩ _ _ _ _ hLL hs)
  case ldc i =>
    simp only [zstep, zci, iI, iR] at hs hci
    by_cases hC : rC R = 0
    · rw [hC] at hs hci
      simp only at hs hci
      split at hci
      · have h1 := z_and hci
        have h2 := z_and h1.1
        exact zs_ldc hdec (zwd_ok h2.1) ⟨of_decide_eq_true h2.2, of_decide_eq_true h1.2⟩ (nx ⟨rfl, rfl, Nat.succ_ne_zero _⟩ _ _ _ _ hLL hs)
      · cases hci
    · obtain ⟨c, hc⟩ : ∃ c, rC R = c + 1 := ⟨rC R - 1, by omega⟩
      rw [hc] at hs hci
      simp only at hs hci
      have h1 := z_and hci
      have h2 : hO h = "WarmWall$Wall" := of_decide_eq_true h1.1
      have h3 := h1.2
      simp only [Bool.or_eq_true, Bool.and_eq_true, decide_eq_true_eq] at h3
      rcases h3 with (⟨e1, e2⟩ | ⟨e1, e2⟩) | ⟨e1, e2⟩
      · rw [of_decide_eq_true e2] at hs; subst e1; exact zs_ldcS (tx := "thg") (x := -11) hdec (fun U H q => by rw [h2]; exact q.2.2.2.2.1.1) (by omega) (nx ⟨rfl, rfl, Nat.succ_ne_zero _⟩ _ _ _ _ hLL hs)
      · rw [of_decide_eq_true e2] at hs; subst e1; exact zs_ldcS (tx := "rcfuh") (x := -12) hdec (fun U H q => by rw [h2]; exact q.2.2.2.2.1.2.1) (by omega) (nx ⟨rfl, rfl, Nat.succ_ne_zero _⟩ _ _ _ _ hLL hs)
      · rw [of_decide_eq_true e2] at hs; subst e1; exact zs_ldcS (tx := "wf") (x := -13) hdec (fun U H q => by rw [h2]; exact q.2.2.2.2.1.2.2) (by omega) (nx ⟨rfl, rfl, Nat.succ_ne_zero _⟩ _ _ _ _ hLL hs)
  case ldc_w i =>
    simp only [zstep, zci, iI, iR] at hs hci
    split at hci
    · have h1 := z_and hci
      have h2 := z_and h1.1
      exact zs_ldcw hdec (zwd_ok h2.1) ⟨of_decide_eq_true h2.2, of_decide_eq_true h1.2⟩ (nx ⟨rfl, rfl, Nat.succ_ne_zero _⟩ _ _ _ _ hLL hs)
    · cases hci
  case ldc2_w i =>
    simp only [zstep, zci, iI, iR] at hs hci
    split at hci
    · have h1 := z_and hci
      have h2 := z_and h1.1
      exact zs_ldc2 hdec (zwd_ok h2.1) ⟨of_decide_eq_true h2.2, of_decide_eq_true h1.2⟩ (nx ⟨rfl, rfl, Nat.succ_ne_zero _⟩ _ _ _ _ hLL hs)
    · cases hci
  case lconst f =>
    exact zs_lconst hdec (nx ⟨rfl, rfl, Nat.succ_ne_zero _⟩ _ _ _ _ hLL hs)
  case iload i =>
    obtain ⟨x, h1, h2⟩ := zget_i hs
    exact zs_iload hdec h1 (nx ⟨rfl, rfl, Nat.succ_ne_zero _⟩ _ _ _ _ hLL h2)
  case iload_n i =>
    obtain ⟨x, h1, h2⟩ := zget_i hs
    exact zs_iload_n hdec h1 (nx ⟨rfl, rfl, Nat.succ_ne_zero _⟩ _ _ _ _ hLL h2)
  case lload i =>
    obtain ⟨x, h1, h2⟩ := zget_i hs
    exact zs_lload hdec h1 (nx ⟨rfl, rfl, Nat.succ_ne_zero _⟩ _ _ _ _ hLL h2)
  case lload_n i =>
    obtain ⟨x, h1, h2⟩ := zget_i hs
    exact zs_lload_n hdec h1 (nx ⟨rfl, rfl, Nat.succ_ne_zero _⟩ _ _ _ _ hLL h2)
  case aload i =>
    obtain ⟨x, h1, h2⟩ := zget_i hs
    exact zs_aload hdec h1 (nx ⟨rfl, rfl, Nat.succ_ne_zero _⟩ _ _ _ _ hLL h2)
  case aload_n i =>
    obtain ⟨x, h1, h2⟩ := zget_i hs
    exact zs_aload_n hdec h1 (nx ⟨rfl, rfl, Nat.succ_ne_zero _⟩ _ _ _ _ hLL h2)
  case istore i =>
    obtain ⟨x, r, rfl, h1⟩ := z1_i hs
    obtain ⟨h2, h3, h4⟩ := zput_i h1
    exact zs_istore hdec h3 hLL h2 (nx ⟨rfl, rfl, Nat.succ_ne_zero _⟩ _ _ _ _ (by rw [List.length_set]; exact hLL) h4)
  case istore_n i =>
    obtain ⟨x, r, rfl, h1⟩ := z1_i hs
    obtain ⟨h2, h3, h4⟩ := zput_i h1
    exact zs_istore_n hdec h3 hLL h2 (nx ⟨rfl, rfl, Nat.succ_ne_zero _⟩ _ _ _ _ (by rw [List.length_set]; exact hLL) h4)
  case astore i =>
    obtain ⟨x, r, rfl, h1⟩ := z1r_i hs
    obtain ⟨h2, h3, h4⟩ := zput_i h1
    exact zs_astore hdec h3 hLL h2 (nx ⟨rfl, rfl, Nat.succ_ne_zero _⟩ _ _ _ _ (by rw [List.length_set]; exact hLL) h4)
  case astore_n i =>
    obtain ⟨x, r, rfl, h1⟩ := z1r_i hs
    obtain ⟨h2, h3, h4⟩ := zput_i h1
    exact zs_astore_n hdec h3 hLL h2 (nx ⟨rfl, rfl, Nat.succ_ne_zero _⟩ _ _ _ _ (by rw [List.length_set]; exact hLL) h4)
  case lstore i =>
    obtain ⟨x, r, rfl, h1⟩ := z1l_i hs
    obtain ⟨h2, h3, h4⟩ := zput2_i h1
    exact zs_lstore hdec h3 hLL h2 (nx ⟨rfl, rfl, Nat.succ_ne_zero _⟩ _ _ _ _ (by rw [List.length_set, List.length_set]; exact hLL) h4)
  case lstore_n i =>
    obtain ⟨x, r, rfl, h1⟩ := z1l_i hs
    obtain ⟨h2, h3, h4⟩ := zput2_i h1
    exact zs_lstore_n hdec h3 hLL h2 (nx ⟨rfl, rfl, Nat.succ_ne_zero _⟩ _ _ _ _ (by rw [List.length_set, List.length_set]; exact hLL) h4)
  case iinc i k =>
    obtain ⟨x, h1, h2, h3⟩ := zget_i hs
    obtain ⟨h4, h5, h6⟩ := zput_i h3
    exact zs_iinc hdec h1 hLL h4 h2 (nx ⟨rfl, rfl, Nat.succ_ne_zero _⟩ _ _ _ _ (by rw [List.length_set]; exact hLL) h6)
  case iadd =>
    obtain ⟨x, y, r, rfl, h1, h2⟩ := z2_i hs
    exact zs_iadd hdec h1 (nx ⟨rfl, rfl, Nat.succ_ne_zero _⟩ _ _ _ _ hLL h2)
  case isub =>
    obtain ⟨x, y, r, rfl, h1, h2⟩ := z2_i hs
    exact zs_isub hdec h1 (nx ⟨rfl, rfl, Nat.succ_ne_zero _⟩ _ _ _ _ hLL h2)
  case imul =>
    obtain ⟨x, y, r, rfl, h1, h2⟩ := z2_i hs
    exact zs_imul hdec h1 (nx ⟨rfl, rfl, Nat.succ_ne_zero _⟩ _ _ _ _ hLL h2)
  case ladd =>
    obtain ⟨x, y, r, rfl, h1, h2⟩ := z2l_i hs
    exact zs_ladd hdec h1 (nx ⟨rfl, rfl, Nat.succ_ne_zero _⟩ _ _ _ _ hLL h2)
  case lsub =>
    obtain ⟨x, y, r, rfl, h1, h2⟩ := z2l_i hs
    exact zs_lsub hdec h1 (nx ⟨rfl, rfl, Nat.succ_ne_zero _⟩ _ _ _ _ hLL h2)
  case lmul =>
    obtain ⟨x, y, r, rfl, h1, h2⟩ := z2l_i hs
    exact zs_lmul hdec h1 (nx ⟨rfl, rfl, Nat.succ_ne_zero _⟩ _ _ _ _ hLL h2)
  case idiv =>
    obtain ⟨x, y, r, rfl, h1⟩ := z2_i hs
    simp only [iR] at h1
    split at h1
    · unfold zpos at h1
      split at h1
      · rename_i k
        refine zstk_b fun hq => ?_
        have hxr := (zStk_c.mp (zStk_c.mp hq).2).1.1
        exact zs_idiv hdec (by first | (simp; done) | (simp; omega)) (zI_tdiv hxr (by first | (simp; done) | (simp; omega))) (nx ⟨rfl, rfl, Nat.succ_ne_zero _⟩ _ _ _ _ hLL h1)
      · exact h1.elim
    · exact zs_idiv hdec h1.1 h1.2.1 (nx ⟨rfl, rfl, Nat.succ_ne_zero _⟩ _ _ _ _ hLL h1.2.2)
  case irem =>
    obtain ⟨x, y, r, rfl, h1⟩ := z2_i hs
    simp only [iR] at h1
    split at h1
    · unfold zpos at h1
      split at h1
      · rename_i k
        refine zstk_b fun hq => ?_
        have hxr := (zStk_c.mp (zStk_c.mp hq).2).1.1
        exact zs_irem hdec (by first | (simp; done) | (simp; omega)) (zI_tdiv hxr (by first | (simp; done) | (simp; omega))) (nx ⟨rfl, rfl, Nat.succ_ne_zero _⟩ _ _ _ _ hLL h1)
      · exact h1.elim
    · exact zs_irem hdec h1.1 h1.2.1 (nx ⟨rfl, rfl, Nat.succ_ne_zero _⟩ _ _ _ _ hLL h1.2.2)
  case ldiv =>
    obtain ⟨x, y, r, rfl, h1, h2, h3⟩ := z2l_i hs
    exact zs_ldiv hdec h1 h2 (nx ⟨rfl, rfl, Nat.succ_ne_zero _⟩ _ _ _ _ hLL h3)
  case iand =>
    obtain ⟨x, y, r, rfl, h2⟩ := z2_i hs
    exact zs_iand hdec (nx ⟨rfl, rfl, Nat.succ_ne_zero _⟩ _ _ _ _ hLL h2)
  case ior =>
    obtain ⟨x, y, r, rfl, h2⟩ := z2_i hs
    exact zs_ior hdec (nx ⟨rfl, rfl, Nat.succ_ne_zero _⟩ _ _ _ _ hLL h2)
  case ixor =>
    obtain ⟨x, y, r, rfl, h2⟩ := z2_i hs
    exact zs_ixor hdec (nx ⟨rfl, rfl, Nat.succ_ne_zero _⟩ _ _ _ _ hLL h2)
  case ishl =>
    obtain ⟨x, y, r, rfl, h2⟩ := z2_i hs
    exact zs_ishl hdec (nx ⟨rfl, rfl, Nat.succ_ne_zero _⟩ _ _ _ _ hLL h2)
  case ishr =>
    obtain ⟨x, y, r, rfl, h2⟩ := z2_i hs
    exact zs_ishr hdec (nx ⟨rfl, rfl, Nat.succ_ne_zero _⟩ _ _ _ _ hLL h2)
  case iushr =>
    obtain ⟨x, y, r, rfl, h2⟩ := z2_i hs
    exact zs_iushr hdec (nx ⟨rfl, rfl, Nat.succ_ne_zero _⟩ _ _ _ _ hLL h2)
  case lcmp =>
    obtain ⟨x, y, r, rfl, h2⟩ := z2l_i hs
    exact zs_lcmp hdec (nx ⟨rfl, rfl, Nat.succ_ne_zero _⟩ _ _ _ _ hLL h2)
  case ineg =>
    obtain ⟨x, r, rfl, h1, h2⟩ := z1_i hs
    exact zs_ineg hdec h1 (nx ⟨rfl, rfl, Nat.succ_ne_zero _⟩ _ _ _ _ hLL h2)
  case i2c =>
    obtain ⟨x, r, rfl, h1, h2⟩ := z1_i hs
    exact zs_i2c hdec h1 (nx ⟨rfl, rfl, Nat.succ_ne_zero _⟩ _ _ _ _ hLL h2)
  case i2l =>
    obtain ⟨x, r, rfl, h2⟩ := z1_i hs
    exact zs_i2l hdec (nx ⟨rfl, rfl, Nat.succ_ne_zero _⟩ _ _ _ _ hLL h2)
  case l2i =>
    obtain ⟨x, r, rfl, h1, h2⟩ := z1l_i hs
    exact zs_l2i hdec h1 (nx ⟨rfl, rfl, Nat.succ_ne_zero _⟩ _ _ _ _ hLL h2)
  case dup =>
    simp only [zstep, iI] at hs
    split at hs
    · split at hs
      · exact hs.elim
      · rename_i ht
        exact zs_dup hdec ht (nx ⟨rfl, rfl, Nat.succ_ne_zero _⟩ _ _ _ _ hLL hs)
    · exact hs.elim
  case dup2 =>
    simp only [zstep, iI] at hs
    split at hs
    · exact zs_dup2 hdec (nx ⟨rfl, rfl, Nat.succ_ne_zero _⟩ _ _ _ _ hLL hs)
    · exact hs.elim
  case pop =>
    simp only [zstep, iI] at hs
    split at hs
    · exact zs_pop hdec (nx ⟨rfl, rfl, Nat.succ_ne_zero _⟩ _ _ _ _ hLL hs)
    · exact hs.elim
  case ifCond cnd off =>
    obtain ⟨x, r, rfl, h1⟩ := z1_i hs
    have ht := ztg_ok (show ztg code (rA R) pc off = true from hci)
    cases cnd
    case eq => exact zs_if_eq hdec ht (fun q => hgo _ _ _ _ _ hLL (h1.1 q)) (fun q => nx ⟨rfl, rfl, Nat.succ_ne_zero _⟩ _ _ _ _ hLL (h1.2 q))
    case ne => exact zs_if_ne hdec ht (fun q => hgo _ _ _ _ _ hLL (h1.1 q)) (fun q => nx ⟨rfl, rfl, Nat.succ_ne_zero _⟩ _ _ _ _ hLL (h1.2 q))
    case lt => exact zs_if_lt hdec ht (fun q => hgo _ _ _ _ _ hLL (h1.1 q)) (fun q => nx ⟨rfl, rfl, Nat.succ_ne_zero _⟩ _ _ _ _ hLL (h1.2 q))
    case ge => exact zs_if_ge hdec ht (fun q => hgo _ _ _ _ _ hLL (h1.1 q)) (fun q => nx ⟨rfl, rfl, Nat.succ_ne_zero _⟩ _ _ _ _ hLL (h1.2 q))
    case gt => exact zs_if_gt hdec ht (fun q => hgo _ _ _ _ _ hLL (h1.1 q)) (fun q => nx ⟨rfl, rfl, Nat.succ_ne_zero _⟩ _ _ _ _ hLL (h1.2 q))
    case le => exact zs_if_le hdec ht (fun q => hgo _ _ _ _ _ hLL (h1.1 q)) (fun q => nx ⟨rfl, rfl, Nat.succ_ne_zero _⟩ _ _ _ _ hLL (h1.2 q))
  case if_icmp cnd off =>
    obtain ⟨x, y, r, rfl, h1⟩ := z2_i hs
    have ht := ztg_ok (show ztg code (rA R) pc off = true from hci)
    cases cnd
    case eq => exact zs_icmp_eq hdec ht (fun q => hgo _ _ _ _ _ hLL (h1.1 q)) (fun q => nx ⟨rfl, rfl, Nat.succ_ne_zero _⟩ _ _ _ _ hLL (h1.2 q))
    case ne => exact zs_icmp_ne hdec ht (fun q => hgo _ _ _ _ _ hLL (h1.1 q)) (fun q => nx ⟨rfl, rfl, Nat.succ_ne_zero _⟩ _ _ _ _ hLL (h1.2 q))
    case lt => exact zs_icmp_lt hdec ht (fun q => hgo _ _ _ _ _ hLL (h1.1 q)) (fun q => nx ⟨rfl, rfl, Nat.succ_ne_zero _⟩ _ _ _ _ hLL (h1.2 q))
    case ge => exact zs_icmp_ge hdec ht (fun q => hgo _ _ _ _ _ hLL (h1.1 q)) (fun q => nx ⟨rfl, rfl, Nat.succ_ne_zero _⟩ _ _ _ _ hLL (h1.2 q))
    case gt => exact zs_icmp_gt hdec ht (fun q => hgo _ _ _ _ _ hLL (h1.1 q)) (fun q => nx ⟨rfl, rfl, Nat.succ_ne_zero _⟩ _ _ _ _ hLL (h1.2 q))
    case le => exact zs_icmp_le hdec ht (fun q => hgo _ _ _ _ _ hLL (h1.1 q)) (fun q => nx ⟨rfl, rfl, Nat.succ_ne_zero _⟩ _ _ _ _ hLL (h1.2 q))
  case goto off =>
    exact zs_goto hdec (ztg_ok (show ztg code (rA R) pc off = true from hci)) (hgo _ _ _ _ _ hLL hs)
  case tableswitch dflt lo hi offs =>
    obtain ⟨x, r, rfl, h1, h2⟩ := z1_i hs
    obtain ⟨q0, q6⟩ := z_and hci
    obtain ⟨q0, q5⟩ := z_and q0
    obtain ⟨q0, q4⟩ := z_and q0
    obtain ⟨q0, q3⟩ := z_and q0
    obtain ⟨q1, q2⟩ := z_and q0
    refine zs_tsw hdecA (of_decide_eq_true q2) (of_decide_eq_true q3) (of_decide_eq_true q5) (of_decide_eq_true q6) (ztg_ok q1) (fun k o t a b => ?_) (fun q => hgo _ _ _ _ _ hLL (h1 q)) ?_
    · have hz : (List.zip offs.toList (rW R))[k]? = some (o, t) := List.getElem?_zip_eq_some.mpr ⟨a, b⟩
      exact ztg_ok (List.all_eq_true.mp q4 _ (List.mem_of_getElem? hz))
    · exact zsw_mono (fun t ht => hgo _ _ _ _ _ hLL ht) h2
  case lookupswitch dflt ps =>
    obtain ⟨x, r, rfl, h2⟩ := z1_i hs
    obtain ⟨q0, q4⟩ := z_and hci
    obtain ⟨q0, q3⟩ := z_and q0
    obtain ⟨q1, q2⟩ := z_and q0
    refine zs_lsw hdecA (of_decide_eq_true q2) q4 (ztg_ok q1) (fun k o t a b => ?_) ?_
    · have hz : (List.zip ps.toList (rW R))[k]? = some (o, t) := List.getElem?_zip_eq_some.mpr ⟨a, b⟩
      exact ztg_ok (List.all_eq_true.mp q3 _ (List.mem_of_getElem? hz))
    · exact zlk_mono (fun t ht => hgo _ _ _ _ _ hLL ht) h2
  case getfield i =>
    obtain ⟨a, r, rfl, h1⟩ := z1r_i hs
    simp only [zgetf, zci, iI, iR] at h1 hci
    split at h1
    · rename_i hC; rw [hC] at hci; simp only at hci
      obtain ⟨q0, q2⟩ := z_and hci
      obtain ⟨q0, q1⟩ := z_and q0
      have e1 := Nat.eq_of_beq_eq_true q1; have e2 := Nat.eq_of_beq_eq_true q2
      exact zs_getf hdec q0 h1.1 e1 (fun i hi => by subst hi; exact zfv_n (by rw [h1.1, e2]; simp)) (Or.inl rfl) (Or.inr rfl) (nx ⟨rfl, rfl, Nat.succ_ne_zero _⟩ _ _ _ _ hLL h1.2)
    · rename_i hC; rw [hC] at hci; simp only at hci
      obtain ⟨q0, q2⟩ := z_and hci
      obtain ⟨q0, q1⟩ := z_and q0
      have e1 := Nat.eq_of_beq_eq_true q1; have e2 := Nat.eq_of_beq_eq_true q2
      exact zs_getf hdec q0 h1.1 e1 (fun i hi => by subst hi; exact zfv_n (by rw [h1.1, e2]; simp)) (Or.inr rfl) (Or.inl h1.2.1) (nx ⟨rfl, rfl, Nat.succ_ne_zero _⟩ _ _ _ _ hLL h1.2.2)
    · rename_i hC; rw [hC] at hci; simp only at hci
      obtain ⟨q0, q2⟩ := z_and hci
      obtain ⟨q0, q1⟩ := z_and q0
      have e1 := Nat.eq_of_beq_eq_true q1; have e2 := of_decide_eq_true q2
      split at h1
      · refine zs_getf hdec q0 h1.1 rfl (fun i hi => by subst hi; exact zfv_f (by rw [h1.1, e1]; simp) (by unfold zFK; rw [h1.1, e1, if_neg (by omega), e2])) (zFT_02 _ _) (Or.inl ?_) (nx ⟨rfl, rfl, Nat.succ_ne_zero _⟩ _ _ _ _ hLL h1.2)
        have h9 := zCL_lt24 h1.1 (zfld_ok q0).1; have h8 := zFn_off (rA R) (rB R); rw [e1, e2] at h8; have h7 := h8 rfl; omega
      · rename_i hmd
        exact zs_getf hdec q0 h1.1 rfl (fun i hi => by subst hi; exact zfv_n (fun z => hmd z.1)) (zFT_02 _ _) (Or.inl h1.2.1) (nx ⟨rfl, rfl, Nat.succ_ne_zero _⟩ _ _ _ _ hLL h1.2.2)
    · rename_i hC; rw [hC] at hci; simp only at hci
      obtain ⟨q0, q1⟩ := z_and hci
      have e1 := Nat.eq_of_beq_eq_true q1
      split at h1
      · refine zs_getf hdec q0 h1.1 rfl (fun i hi => by subst hi; exact zfv_f (by rw [h1.1, e1]; simp) (by unfold zFK; rw [h1.1, e1, if_pos rfl])) (zFT_02 _ _) (Or.inl ?_) (nx ⟨rfl, rfl, Nat.succ_ne_zero _⟩ _ _ _ _ hLL h1.2)
        exact zKT_ne _ _
      · rename_i hmd
        exact zs_getf hdec q0 h1.1 rfl (fun i hi => by subst hi; exact zfv_n (fun z => hmd z.1)) (zFT_02 _ _) (Or.inl h1.2.1) (nx ⟨rfl, rfl, Nat.succ_ne_zero _⟩ _ _ _ _ hLL h1.2.2)
    · rename_i hC; rw [hC] at hci; simp only at hci
      split at hci
      · exact zs_sval hdec (zwd_ok hci) h1.1 (nx ⟨rfl, rfl, Nat.succ_ne_zero _⟩ _ _ _ _ hLL h1.2)
      · cases hci
    · rename_i n0 n1 n2 n3 n5
      split at hci
      · rename_i e; exact absurd e n0
      · rename_i e; exact absurd e n1
      · rename_i e; exact absurd e n2
      · rename_i e; exact absurd e n3
      · rename_i e; exact absurd e n5
      · split at hci
        · exact zs_scod hdec (zwd_ok hci) h1.1 (nx ⟨rfl, rfl, Nat.succ_ne_zero _⟩ _ _ _ _ hLL h1.2)
        · cases hci
  case putfield i =>
    obtain ⟨t, x, a, r, rfl, h0, h1⟩ := zpf_i hs
    simp only [zputf, zci, iI, iR] at h0 h1 hci
    split at h1
    · exact h1.elim
    · rename_i ht; have ht := Nat.eq_of_beq_eq_true ht
      obtain ⟨q0, q1⟩ := z_and hci
      split at h1
      · rename_i hC; rw [hC] at q1; simp only [Bool.and_eq_true, Bool.not_eq_true'] at q1
        exact zs_putf hdec q0 h0 ht.symm (Or.inl ⟨Nat.eq_of_beq_eq_true q1.1.1, ht.trans (Nat.eq_of_beq_eq_true q1.1.2)⟩) (Or.inl q1.2) (zfin_n (zfld_ok q0).1 (zfld_ok q0).2.1 q1.2) (nx ⟨rfl, rfl, Nat.succ_ne_zero _⟩ _ _ _ _ hLL h1)
      · rename_i hC; rw [hC] at q1; simp only [Bool.and_eq_true, Bool.not_eq_true'] at q1
        exact zs_putf hdec q0 h0 ht.symm (Or.inr (Or.inl ⟨Nat.eq_of_beq_eq_true q1.1.1, ht.trans (Nat.eq_of_beq_eq_true q1.1.2), h1.1⟩)) (Or.inl q1.2) (zfin_n (zfld_ok q0).1 (zfld_ok q0).2.1 q1.2) (nx ⟨rfl, rfl, Nat.succ_ne_zero _⟩ _ _ _ _ hLL h1.2)
      · rename_i hC; rw [hC] at q1; simp only [Bool.and_eq_true, Bool.not_eq_true'] at q1
        exact zs_putf hdec q0 h0 ht.symm (Or.inr (Or.inr ⟨Nat.eq_of_beq_eq_true q1.1.1, ht.trans (Nat.eq_of_beq_eq_true q1.1.2)⟩)) (Or.inl q1.2) (zfin_n (zfld_ok q0).1 (zfld_ok q0).2.1 q1.2) (nx ⟨rfl, rfl, Nat.succ_ne_zero _⟩ _ _ _ _ hLL h1)
      · rename_i c0 c1 c2
        split at h1
        · split at q1
          · rename_i e; exact absurd e c0
          · rename_i e; exact absurd e c1
          · rename_i e; exact absurd e c2
          · simp only [Bool.and_eq_true] at q1
            exact zs_putf hdec q0 h0 ht.symm (Or.inl ⟨Nat.eq_of_beq_eq_true q1.1.1.1.1, ht.trans (Nat.eq_of_beq_eq_true q1.1.1.1.2)⟩) (Or.inr ⟨q1.1.1.2, q1.1.2, of_decide_eq_true q1.2⟩) (fun z => by cases z.1) (nx ⟨rfl, rfl, Nat.succ_ne_zero _⟩ _ _ _ _ hLL h1)
          · simp only [Bool.and_eq_true] at q1
            exact zs_putf hdec q0 h0 ht.symm (Or.inr (Or.inr ⟨Nat.eq_of_beq_eq_true q1.1.1.1.1, ht.trans (Nat.eq_of_beq_eq_true q1.1.1.1.2)⟩)) (Or.inr ⟨q1.1.1.2, q1.1.2, of_decide_eq_true q1.2⟩) (fun z => by cases z.1) (nx ⟨rfl, rfl, Nat.succ_ne_zero _⟩ _ _ _ _ hLL h1)
        · exact h1.elim
  case getstatic i =>
    simp only [zstep, zci, iI, iR] at hs hci
    split at hci
    · rename_i w hW
      split at hs
      · rename_i hC; rw [hC] at hci; simp only at hci
        obtain ⟨q0, q2⟩ := z_and hci
        obtain ⟨q0, q1⟩ := z_and q0
        rw [of_decide_eq_true q1] at hs
        exact zs_gst0 hdec (of_decide_eq_true q0) (zwd_ok q2) (nx ⟨rfl, rfl, Nat.succ_ne_zero _⟩ _ _ _ _ hLL hs)
      · rename_i hC; rw [hC] at hci; simp only at hci
        exact zs_gst1 hdec (zwd_ok hci) (nx ⟨rfl, rfl, Nat.succ_ne_zero _⟩ _ _ _ _ hLL hs)
      · rename_i c0 c1
        split at hci
        · rename_i e; exact absurd e c0
        · rename_i e; exact absurd e c1
        · obtain ⟨q0, q1⟩ := z_and hci
          rw [of_decide_eq_true q0] at hs
          exact zs_gst2 hdec (zwd_ok q1) (nx ⟨rfl, rfl, Nat.succ_ne_zero _⟩ _ _ _ _ hLL hs)
    · cases hci
  case iaload =>
    obtain ⟨a, j, r, rfl, h1⟩ := zix_i hs
    simp only [iR] at h1
    split at h1
    · exact zs_iald hdec h1.1 h1.2.1 (nx ⟨rfl, rfl, Nat.succ_ne_zero _⟩ _ _ _ _ hLL h1.2.2)
    · exact zs_sld hdec h1.1 h1.2.1 (nx ⟨rfl, rfl, Nat.succ_ne_zero _⟩ _ _ _ _ hLL h1.2.2)
    · obtain ⟨rfl, h2, h3⟩ := h1
      exact zs_cld hdec h2 (nx ⟨rfl, rfl, Nat.succ_ne_zero _⟩ _ _ _ _ hLL h3)
  case baload =>
    obtain ⟨a, j, r, rfl, h1⟩ := zix_i hs
    simp only [iR] at h1
    split at h1
    · exact zs_zald hdec h1.1 h1.2.1 (nx ⟨rfl, rfl, Nat.succ_ne_zero _⟩ _ _ _ _ hLL h1.2.2)
    · exact zs_bld hdec h1.1 h1.2.1 (nx ⟨rfl, rfl, Nat.succ_ne_zero _⟩ _ _ _ _ hLL h1.2.2)
  case laload =>
    obtain ⟨a, j, r, rfl, h1, h2, h3⟩ := zix_i hs
    exact zs_lald hdec h1 h2 (nx ⟨rfl, rfl, Nat.succ_ne_zero _⟩ _ _ _ _ hLL h3)
  case aaload =>
    obtain ⟨a, j, r, rfl, h1, h2, h3, h4⟩ := zix_i hs
    exact zs_aald hdec h1 h2 h3 (nx ⟨rfl, rfl, Nat.succ_ne_zero _⟩ _ _ _ _ hLL h4)
  case iastore =>
    obtain ⟨a, j, x, r, rfl, h1, h2, h3⟩ := zixv_i hs
    exact zs_iast hdec h1 h2 (nx ⟨rfl, rfl, Nat.succ_ne_zero _⟩ _ _ _ _ hLL h3)
  case bastore =>
    obtain ⟨a, j, x, r, rfl, h1, h2, h3, h4⟩ := zixv_i hs
    exact zs_zast hdec h1 h2 h3 (nx ⟨rfl, rfl, Nat.succ_ne_zero _⟩ _ _ _ _ hLL h4)
  case lastore =>
    obtain ⟨a, j, x, r, rfl, h1, h2, h3⟩ := zixv_i hs
    exact zs_last hdec h1 h2 (nx ⟨rfl, rfl, Nat.succ_ne_zero _⟩ _ _ _ _ hLL h3)
  case aastore =>
    obtain ⟨a, j, x, r, rfl, h1, h2, h3, h4⟩ := zixv_i hs
    exact zs_aast hdec h1 h2 h3 (nx ⟨rfl, rfl, Nat.succ_ne_zero _⟩ _ _ _ _ hLL h4)
  case arraylength =>
    obtain ⟨a, r, rfl, h1⟩ := z1r_i hs
    simp only [iR] at h1
    split at h1
    · exact zs_len hdec (h1.1.imp id Or.inl) (nx ⟨rfl, rfl, Nat.succ_ne_zero _⟩ _ _ _ _ hLL h1.2)
    · exact zs_slen hdec (Or.inl h1.1) (nx ⟨rfl, rfl, Nat.succ_ne_zero _⟩ _ _ _ _ hLL h1.2)
    · exact zs_slen hdec (Or.inr h1.1) (nx ⟨rfl, rfl, Nat.succ_ne_zero _⟩ _ _ _ _ hLL h1.2)
    · exact zs_len hdec (Or.inr (Or.inr h1.1)) (nx ⟨rfl, rfl, Nat.succ_ne_zero _⟩ _ _ _ _ hLL h1.2)
    · obtain ⟨rfl, h3⟩ := h1
      exact zs_clen hdec (nx ⟨rfl, rfl, Nat.succ_ne_zero _⟩ _ _ _ _ hLL h3)
  case new i =>
    simp only [zstep, zci, iI, iR, iPc] at hs hci
    split at hs
    · exact zs_exc hs.1 hs.2.1 hs.2.2
    · rename_i c9
      split at hci
      · rename_i e; exact absurd e c9
      · split at hci
        · obtain ⟨q0, q3⟩ := z_and hci
          obtain ⟨q0, q2⟩ := z_and q0
          obtain ⟨q0, q1⟩ := z_and q0
          obtain ⟨a1, a2, a3, a4, a5⟩ := znew_i hs
          exact zs_new hdec (of_decide_eq_true q0) (zwd_ok q1) (zwd_ok q2) (zwd_ok q3) a2 a1 a3 a4 (nx ⟨rfl, by simp only [zexc, iI, iR]; exact zbeq9 c9, Nat.succ_ne_zero _⟩ _ _ _ _ hLL a5)
        · cases hci
  case newarray t =>
    obtain ⟨x, r, rfl, h1⟩ := z1_i hs
    simp only [zci, iI, iR] at h1 hci
    obtain ⟨a1, a2, a3, a4, a5, a6⟩ := znew_i h1
    split at hci
    · have hA : rA R = 20 := by assumption
      rw [hA] at a2
      exact zs_newi hdec (zwd_ok hci) a2 a1 a3 a4 a5 (nx ⟨rfl, rfl, Nat.succ_ne_zero _⟩ _ _ _ _ hLL a6)
    · have hA : rA R = 21 := by assumption
      rw [hA] at a2
      exact zs_newz hdec (zwd_ok hci) a2 a1 a3 a4 a5 (nx ⟨rfl, rfl, Nat.succ_ne_zero _⟩ _ _ _ _ hLL a6)
    · have hA : rA R = 22 := by assumption
      rw [hA] at a2
      exact zs_newl hdec (zwd_ok hci) a2 a1 a3 a4 a5 (nx ⟨rfl, rfl, Nat.succ_ne_zero _⟩ _ _ _ _ hLL a6)
    · cases hci
  case anewarray i =>
    obtain ⟨x, r, rfl, h1⟩ := z1_i hs
    simp only [zci, iI, iR] at hci
    obtain ⟨a1, a2, a3, a4, a5, a6⟩ := znew_i h1
    split at hci
    · exact zs_newq hdec (zwd_ok hci) a2 a1 a3 a4 a5 (nx ⟨rfl, rfl, Nat.succ_ne_zero _⟩ _ _ _ _ hLL a6)
    · cases hci
  case invokestatic i =>
    simp only [zci, iI, iR] at hci
    obtain ⟨q0, hinv⟩ := z_and hci
    simp only [zstep, iI, iR] at hs
    split at hs
    · exact hs.elim
    · rename_i hk
      obtain ⟨w1, w2, w3, w4⟩ := zinv_7 hinv hk
      split at hs
      · obtain ⟨⟨a1, a2⟩, a3, a4⟩ := hs
        obtain ⟨d', rfl, a5⟩ := zdp_i a4
        split at a5
        · rename_i hcat
          exact zs_copy hdec w1 w2 w3 w4 (by omega) a1 a2 a3 (Nat.le_trans (zcats_ok _) (Nat.le_of_ble_eq_true hcat)) (nx ⟨rfl, rfl, Nat.succ_ne_zero _⟩ _ _ _ _ hLL a5)
        · exact a5.elim
      · exact hs.elim
    · rename_i hk
      obtain ⟨w1, w2, w3, w4⟩ := zinv_10 hinv hk
      obtain ⟨x, y, r, rfl, h1⟩ := z2_i hs
      obtain ⟨g1, g2, g3⟩ := zprim_i (G := G) h1
      exact zs_mmax hdec w1 w2 w3 w4 g1 g2 (nx ⟨rfl, rfl, Nat.succ_ne_zero _⟩ _ _ _ _ hLL g3)
    · rename_i hk
      obtain ⟨w1, w2, w3, w4⟩ := zinv_11 hinv hk
      obtain ⟨x, y, r, rfl, h1⟩ := z2_i hs
      obtain ⟨g1, g2, g3⟩ := zprim_i (G := G) h1
      exact zs_mmin hdec w1 w2 w3 w4 g1 g2 (nx ⟨rfl, rfl, Nat.succ_ne_zero _⟩ _ _ _ _ hLL g3)
    · rename_i hk
      obtain ⟨w1, w2, w3, w4⟩ := zinv_12 hinv hk
      obtain ⟨x, r, rfl, hneg, h1⟩ := z1_i hs
      obtain ⟨g1, g2, g3⟩ := zprim_i (G := G) h1
      exact zs_mabs hdec w1 w2 w3 w4 g1 g2 hneg (nx ⟨rfl, rfl, Nat.succ_ne_zero _⟩ _ _ _ _ hLL g3)
    · rename_i hk
      obtain ⟨w1, w2, w3, w4⟩ := zinv_13 hinv hk
      obtain ⟨x, y, r, rfl, h1⟩ := z2l_i hs
      obtain ⟨g1, g2, g3⟩ := zprim_i (G := G) h1
      exact zs_mmaxl hdec w1 w2 w3 w4 g1 g2 (nx ⟨rfl, rfl, Nat.succ_ne_zero _⟩ _ _ _ _ hLL g3)
    · rename_i hk
      obtain ⟨w1, w2, w3, w4⟩ := zinv_14 hinv hk
      obtain ⟨x, y, r, rfl, h1⟩ := z2l_i hs
      obtain ⟨g1, g2, g3⟩ := zprim_i (G := G) h1
      exact zs_mminl hdec w1 w2 w3 w4 g1 g2 (nx ⟨rfl, rfl, Nat.succ_ne_zero _⟩ _ _ _ _ hLL g3)
    · rename_i hk6a hk7 hk10 hk11 hk12 hk13 hk14
      by_cases hk : rA R = 2
      · have hm := zinv_m hinv (by omega)
        obtain ⟨i4, ⟨w1, w2, w3⟩, hcode⟩ := zinv_2 hinv hk
        refine zbudget_b fun b1 b2 b3 => ?_
        obtain ⟨d', rfl, hbud, hcat, hlen, hC⟩ := zcall_i hm (fun _ => ⟨b2, b3⟩) hs
        have key := zs_callS (l := l) (G := G) (md := md) (d := d') (h := h) (n0 := n0) (Q := Q) (QX := QX) (L := L) hdec hm hcode hm.2.2.2.2 hcat (by rw [List.length_reverse]; exact hlen) w1 w2 w3 hbud hC (fun r1 v1 q => nx ⟨rfl, rfl, Nat.succ_ne_zero _⟩ _ _ _ _ hLL q)
        rw [zst_split hlen] at key
        exact key
      · exfalso
        have h2 := (z_and hinv).2
        simp only [Bool.or_eq_true] at q0
        have hk6 : 5 < rA R := by
          rcases q0 with q | q
          · exact absurd (Nat.eq_of_beq_eq_true q) hk
          · simpa using q
        split at h2
        all_goals first | omega | (simp_all; done)
  case invokevirtual i =>
    simp only [zci, iI, iR] at hci
    obtain ⟨q0, hinv⟩ := z_and hci
    have hm := zinv_m hinv (by simp only [Bool.or_eq_true] at q0; rcases q0 with q | q <;> rw [Nat.eq_of_beq_eq_true q] <;> omega)
    obtain ⟨o, r, hdrop, hclo, h1⟩ := zrecv_i hs
    refine zbudget_b fun b1 b2 b3 => ?_
    obtain ⟨d', rfl, hbud, hcat, hlen, hC⟩ := zcall_i hm (fun _ => ⟨b2, b3⟩) h1
    obtain ⟨s1, s2, s3⟩ := zst_split1 hdrop hlen
    rw [s1] at hC
    simp only [Bool.or_eq_true] at q0
    rcases q0 with q | q
    · obtain ⟨i5, ⟨w1, w2, w3, w4⟩, hcode, hcn, hrc⟩ := zinv_0 hinv (Nat.eq_of_beq_eq_true q)
      have key := zs_callV (l := l) (G := G) (md := md) (d := d') (h := h) (n0 := n0) (Q := Q) (QX := QX) (L := L) (o := o) hdec hm hcode hm.2.2.2.2 hcat s3 w1 w2 w3 w4 hcn hrc hclo hbud hC (fun r1 v1 q => nx ⟨rfl, rfl, Nat.succ_ne_zero _⟩ _ _ _ _ hLL q)
      rw [← s2] at key
      exact key
    · obtain ⟨i6, x, ⟨w1, w2, w3, w4, w5⟩, hcode, hyx, hxd, hrc⟩ := zinv_1 hinv (Nat.eq_of_beq_eq_true q)
      have key := zs_callU (l := l) (G := G) (md := md) (d := d') (h := h) (n0 := n0) (Q := Q) (QX := QX) (L := L) (o := o) hdec hm hcode hm.2.2.2.2 hcat s3 w1 w2 w3 w4 w5 hyx hxd (Or.inl hrc) hclo hbud hC (fun r1 v1 q => nx ⟨rfl, rfl, Nat.succ_ne_zero _⟩ _ _ _ _ hLL q)
      rw [← s2] at key
      exact key
  case invokespecial i =>
    simp only [zci, iI, iR] at hci
    obtain ⟨q0, hinv⟩ := z_and hci
    simp only [zstep, iI, iR] at hs
    split at hs
    · rename_i hk
      obtain ⟨w1, w2, w3⟩ := zinv_5 hinv hk
      obtain ⟨x, r, rfl, h1⟩ := z1r_i hs
      obtain ⟨d', rfl, a5⟩ := zdp_i h1
      split at a5
      · rename_i hcat
        exact zs_obj hdec w1 w2 w3 (by omega) (Nat.le_trans (zcats_ok _) (Nat.le_of_ble_eq_true hcat)) (nx ⟨rfl, rfl, Nat.succ_ne_zero _⟩ _ _ _ _ hLL a5)
      · exact a5.elim
    · rename_i hk5
      have hm := zinv_m hinv (by simp only [Bool.or_eq_true] at q0; rcases q0 with (q | q) | q <;> first | (rw [Nat.eq_of_beq_eq_true q]; omega) | exact absurd (Nat.eq_of_beq_eq_true q) hk5)
      obtain ⟨o, r, hdrop, h1⟩ := zrecv_i hs
      refine zbudget_b fun b1 b2 b3 => ?_
      obtain ⟨d', rfl, hbud, hcat, hlen, hC⟩ := zcall_i hm (fun _ => ⟨b2, b3⟩) h1
      obtain ⟨s1, s2, s3⟩ := zst_split1 hdrop hlen
      rw [s1] at hC
      simp only [Bool.or_eq_true] at q0
      rcases q0 with (q | q) | q
      · obtain ⟨i4, ⟨w1, w2, w3⟩, hcode, hnm, hRn⟩ := zinv_3 hinv (Nat.eq_of_beq_eq_true q)
        have key := zs_callI (l := l) (G := G) (md := md) (d := d') (h := h) (n0 := n0) (Q := Q) (QX := QX) (L := L) (o := o) hdec hm hcode hm.2.2.2.2 hcat s3 w1 w2 w3 hnm hRn hbud hC (fun r1 v1 q => nx ⟨rfl, rfl, Nat.succ_ne_zero _⟩ _ _ _ _ hLL q)
        rw [← s2] at key
        exact key
      · obtain ⟨i4, ⟨w1, w2, w3⟩, hcode, hnm, hRn⟩ := zinv_4 hinv (Nat.eq_of_beq_eq_true q)
        have key := zs_callIN (l := l) (G := G) (md := md) (d := d') (h := h) (n0 := n0) (Q := Q) (QX := QX) (L := L) (o := o) hdec hm hcode hm.2.2.2.2 hcat s3 w1 w2 w3 hnm hRn hbud hC (fun r1 v1 q => nx ⟨rfl, rfl, Nat.succ_ne_zero _⟩ _ _ _ _ hLL q)
        rw [← s2] at key
        exact key
      · exact absurd (Nat.eq_of_beq_eq_true q) hk5
  case ireturn =>
    simp only [zstep, iI] at hs
    split at hs
    · refine zbudget_b fun b1 b2 b3 => ?_
      have hh := zrtn_i hs
      simp only [zci, iI, Bool.and_eq_true, Bool.or_eq_true] at hci
      obtain ⟨hci, hmc⟩ := hci
      have hmc := Nat.eq_of_beq_eq_true hmc
      rcases hci with q | q
      · have hT0 := Nat.eq_of_beq_eq_true q
        exact zs_ret (t := 0) hdec hT0 rfl (by omega) b3 (fun _ => hh.1) hh.2 (by omega)
      · have hT0 := Nat.eq_of_beq_eq_true q
        exact zs_ret (t := 4) hdec hT0 rfl (by omega) b3 (fun _ => hh.1) hh.2 (by omega)
    · exact hs.elim
  case lreturn =>
    simp only [zstep, iI] at hs
    split at hs
    · refine zbudget_b fun b1 b2 b3 => ?_
      obtain ⟨hci, hmc⟩ := z_and hci
      have hmc := Nat.eq_of_beq_eq_true hmc
      have hT0 := Nat.eq_of_beq_eq_true hci
      exact zs_ret (t := 1) hdec hT0 rfl (by omega) b3 (fun z => by omega) hs (by omega)
    · exact hs.elim
  case areturn =>
    simp only [zstep, iI] at hs
    split at hs
    · refine zbudget_b fun b1 b2 b3 => ?_
      obtain ⟨hci, hmc⟩ := z_and hci
      have hmc := Nat.eq_of_beq_eq_true hmc
      have hT0 := Nat.eq_of_beq_eq_true hci
      exact zs_ret (t := 2) hdec hT0 rfl (by omega) b3 (fun z => by omega) hs (by omega)
    · exact hs.elim
  case return_ =>
    simp only [zstep, iI] at hs
    split at hs
    · refine zbudget_b fun b1 b2 b3 => ?_
      have hT0 := Nat.eq_of_beq_eq_true hci
      obtain ⟨g1, g2⟩ := zend_i b1 b2 hs
      exact zs_ret (t := 3) hdec hT0 rfl g1 b3 (fun z => by omega) g2 (by omega)
    · exact hs.elim
theorem zck_at {h : zHdr} {code : List zIns} (hck : zck h code = true) {p : Nat} {e : zIns} (he : code[p]? = some e) : zce h code p e = true := by
  have hlt := (List.getElem?_eq_some_iff.mp he).1
  have := List.all_eq_true.mp hck p (List.mem_range.mpr hlt)
  rw [he] at this
  exact this
/-- THE WALK IS SOUND -/
theorem zgo {l : Launch} {G : zG} {md d : Nat} {h : zHdr} {code : List zIns} {n0 : Nat} {Q : Int → zH → Prop} {QX : Nat → zH → Prop} (hck : zck h code = true) : ∀ (f q : Nat) (L st : List zV) (v : zH) (n : Nat), L.length = hL h → zx l G md d h code n0 Q QX (zJ l G md d h code n0 Q QX) f (code.drop q) L st v n → zJ l G md d h code n0 Q QX q L st v n
  | 0, _, _, _, _, _, _, hs => hs.elim
  | f + 1, q, L, st, v, n, hLL, hs => by
    unfold zx at hs
    by_cases hq : q < code.length
    · have e1 : code.drop q = code[q] :: code.drop (q + 1) := List.drop_eq_getElem_cons hq
      rw [e1] at hs
      refine zstep_ok (List.getElem?_eq_getElem hq) (zck_at hck (List.getElem?_eq_getElem hq)) hLL (fun q2 L2 st2 v2 n2 hl2 hg => ?_) hs
      unfold zcut at hg
      by_cases hq2 : q2 < code.length
      · have e2 : code.drop q2 = code[q2] :: code.drop (q2 + 1) := List.drop_eq_getElem_cons hq2
        rw [e2] at hg
        have hce := zck_at hck (List.getElem?_eq_getElem hq2)
        generalize hE : code[q2] = E at hg hce
        obtain ⟨p0, pc0, cut, rest⟩ := E
        have hp0 : p0 = q2 := by
          unfold zce at hce
          exact Nat.eq_of_beq_eq_true (z_and (z_and (z_and (z_and hce).1).1).1).1
        cases cut with
        | some m =>
          simp only at hg
          subst hp0
          exact zJ_msk m hg
        | none =>
          simp only at hg
          refine zgo hck f q2 L2 st2 v2 n2 hl2 ?_
          rw [e2, hE]
          exact hg
      · rw [List.drop_eq_nil_of_le (by omega)] at hg
        exact hg.elim
    · rw [List.drop_eq_nil_of_le (by omega)] at hs
      exact hs.elim
end
section
/-! A METHOD'S CONTRACT out of its first place -/
def zargs (As : List zV) (nL : Nat) : List zV := As.flatMap (fun q => match q.1 with
  | 1 => [q, (3, 0)]
  | _ => [q]) ++ List.replicate (nL - (As.flatMap (fun q => match q.1 with
  | 1 => [q, (3, 0)]
  | _ => [q])).length) (3, 0)
def zflat (As : List zV) : List zV := As.flatMap (fun q => match q.1 with
  | 1 => [q, (3, 0)]
  | _ => [q])
theorem zflat_1 {x : Int} {As : List zV} : zflat ((1, x) :: As) = (1, x) :: (3, 0) :: zflat As := rfl
theorem zflat_n {t : Nat} {x : Int} {As : List zV} (h : t ≠ 1) : zflat ((t, x) :: As) = (t, x) :: zflat As := by
  unfold zflat
  rw [List.flatMap_cons]
  match t, h with
  | 0, _ => rfl
  | 1, q => exact absurd rfl q
  | k + 2, _ => rfl
theorem zcat2 {G : zG} {x : Int} : (zc G (1, x)).category = 2 := rfl
theorem zflat_sl {G : zG} : ∀ (As : List zV), (∀ q ∈ As, q.1 ≠ 3) → (lg_sl (As.map (zc G))).length = (zflat As).length ∧ ∀ (i t : Nat) (x : Int), (zflat As)[i]? = some (t, x) → t ≠ 3 → (lg_sl (As.map (zc G)))[i]? = some (.val (zc G (t, x)))
  | [], _ => ⟨rfl, fun i t x h => by simp [zflat] at h⟩
  | (t, x) :: As, hA => by
    obtain ⟨h1, h2⟩ := zflat_sl (G := G) As (fun q hq => hA q (List.mem_cons_of_mem _ hq))
    by_cases ht : t = 1
    · subst ht
      have e : lg_sl (((1, x) :: As).map (zc G)) = Slot.val (zc G (1, x)) :: Slot.second :: lg_sl (As.map (zc G)) := rfl
      rw [e, zflat_1]
      refine ⟨by simp [h1], fun i u y hi hu => ?_⟩
      match i with
      | 0 => cases hi; rfl
      | 1 => cases hi; exact absurd rfl hu
      | i + 2 => exact h2 i u y hi hu
    · have e : lg_sl (((t, x) :: As).map (zc G)) = Slot.val (zc G (t, x)) :: lg_sl (As.map (zc G)) := by
        have h7 := zcat1 (G := G) (x := x) ht
        unfold lg_sl
        rw [List.map_cons, List.flatMap_cons, h7]
        rfl
      rw [e, zflat_n ht]
      refine ⟨by simp [h1], fun i u y hi hu => ?_⟩
      match i with
      | 0 => cases hi; rfl
      | i + 1 => exact h2 i u y hi hu
theorem zflat_rg {n : Nat} : ∀ (As : List zV), zStk n As → ∀ (i t : Nat) (x : Int), (zflat As)[i]? = some (t, x) → t ≠ 3 → zRg n t x
  | [], _, i, t, x, h, _ => by simp [zflat] at h
  | (t, x) :: As, hA, i, u, y, hi, hu => by
    obtain ⟨⟨h1, -⟩, h2⟩ := zStk_c.mp hA
    by_cases ht : t = 1
    · subst ht
      rw [zflat_1] at hi
      match i with
      | 0 => cases hi; exact h1
      | 1 => cases hi; exact absurd rfl hu
      | i + 2 => exact zflat_rg As h2 i u y hi hu
    · rw [zflat_n ht] at hi
      match i with
      | 0 => cases hi; exact h1
      | i + 1 => exact zflat_rg As h2 i u y hi hu
theorem zargs_len {As : List zV} {nL : Nat} (h : (zflat As).length ≤ nL) : (zargs As nL).length = nL := by
  show (zflat As ++ List.replicate (nL - (zflat As).length) (3, 0)).length = nL
  simp
  omega
theorem zargs_ok {G : zG} {n nL : Nat} {As : List zV} (hA : zStk n As) (hl : (zflat As).length ≤ nL) : zLs G n ((lg_sl (As.map (zc G)) ++ List.replicate (nL - (lg_sl (As.map (zc G))).length) Slot.unset).toArray) nL (zargs As nL) := by
  obtain ⟨h1, h2⟩ := zflat_sl (G := G) As (fun q hq => (hA q hq).2)
  have h3 := lv_entry (As.map (zc G)) (n := nL) (by rw [h1]; exact hl)
  refine ⟨h3.1, h3.2.1, fun i t x hi ht => ?_⟩
  have hi2 : (zflat As ++ List.replicate (nL - (zflat As).length) (3, 0))[i]? = some (t, x) := hi
  by_cases hlt : i < (zflat As).length
  · rw [List.getElem?_append_left hlt] at hi2
    refine ⟨?_, zflat_rg As hA i t x hi2 ht⟩
    rw [List.getElem?_toArray, List.getElem?_append_left (by rw [h1]; exact hlt)]
    exact h2 i t x hi2 ht
  · rw [List.getElem?_append_right (by omega)] at hi2
    have := List.eq_of_mem_replicate (List.mem_of_getElem? hi2)
    cases this
    exact absurd rfl ht
theorem z_nchar {x : Int} (h1 : 0 ≤ x) (h2 : x ≤ 65535) : narrow .char (.int (Int32.ofInt x)) = .int (Int32.ofInt x) := by
  obtain ⟨n, rfl⟩ : ∃ n : Nat, x = n := ⟨x.toNat, by omega⟩
  exact (pk_charN (q := n) (by omega)).1
theorem z_nbyte {x : Int} (h1 : -128 ≤ x) (h2 : x ≤ 127) : narrow .byte (.int (Int32.ofInt x)) = .int (Int32.ofInt x) := by
  show Value.int (Int32.ofInt x).toInt8.toInt32 = _
  congr 1
  have e : (Int32.ofInt x).toInt8 = Int8.ofInt x := Int32.toInt8_ofInt
  rw [e]
  exact z_i8 h1 h2
/-- a head's answer and type fit -/
def zhok (h : zHdr) : Bool := plainFor (hY h) && decide ((hY h).cls = hO h) && (match hT h, hR h with
  | 0, some .int => true
  | 0, some .char => true
  | 0, some .byte => true
  | 4, some .boolean => true
  | 1, some .long => true
  | 2, some (.object _) => true
  | 2, some (.array _) => true
  | 3, none => true
  | _, _ => false) && (!(hK h) || decide ((hY h).name = "<init>"))
theorem zC_in {l : Launch} {G : zG} {md d : Nat} {h : zHdr} {code : List zIns} {As : List zV} {v : zH} {n : Nat} {Q : Int → zH → Prop} (hok : zhok h = true) (hpc : zpc code 0 = 0) (hl : (zflat As).length ≤ hL h) (k : zJ l G md d h code n Q (fun _ _ => False) 0 (zargs As (hL h)) [] v n) : zC l G md d h As v n Q := by
  unfold zhok at hok
  obtain ⟨hok, hini⟩ := z_and hok
  obtain ⟨hok, hty⟩ := z_and hok
  obtain ⟨hpl, hcls⟩ := z_and hok
  have hcls := of_decide_eq_true hcls
  refine va_MetF (cc := hB h) (maxL := hL h) (ret := hR h) hpl rfl ?_
  intro p e s m args below meth c s₁ B hml hv
  obtain ⟨rfl, hP, hKt, hZt, hStA, hB1⟩ := hv
  have hx := B.exec
  have hb := B.bytes
  have hr := B.returns
  have hts0 := atoms_spec (ws := zWs h) B.pre
  have hts : ∀ w ∈ zws, w.before (As.map (zc G)).toArray s = true := fun w hw => hts0 w (List.mem_cons_of_mem _ hw)
  have hown : s.vm.findClass (hO h) = some m.cls := by rw [← hcls]; exact findClass_of_methodNamed B.named
  have hlocks := B.notSynchronized
  rw [lg_entry_eq]
  have key := k p e (headSpec (zWs h) { frames := d, cells := hMc h, slots := hMs h, locals := 60 * d }).room s m (As.map (zc G)).toArray below meth c (MQ below (zQc G md h n Q) (As.map (zc G)).toArray s (hMc h) (hMs h) (zA G))
    ⟨⟨hx, hb, hml, hown, hts⟩, ⟨hKt, hZt, by have := hP.2.1; omega, hB1⟩, ⟨Nat.le_refl _, Nat.le_refl _, Nat.le_refl _, Nat.le_refl _⟩, fun q => by
      rw [q] at hini
      simp only [Bool.not_true, Bool.false_or] at hini
      exact (name_of_methodNamed B.named B.method).1.trans (of_decide_eq_true hini), ?_, fun H locs ls pc v hq => hq.elim⟩
    s.heap [] _ hP va_S.rf (zargs_ok hStA hl) (fun q hq => by cases hq) (Nat.le_refl _) (Nat.le_add_right _ _) (Nat.le_add_right _ _)
  · rw [Nat.sub_self, Nat.sub_self, hpc] at key
    exact key
  · intro H locs ls pc n' r v' hq hP' hS' hrr hn' hdec hnr
    subst hn'
    have hend : ∀ t : State, t.heap = H → s.WarmedH t.vm → zQc G md h n Q (As.map (zc G)).toArray s (.returned (zRet G (hT h) r)) t := by
      intro t ht hW
      exact ⟨⟨r, v', rfl, hq, by rw [ht]; exact hP', hrr⟩, hS'.F ht⟩
    split at hty
    · rename_i e1 e2
      rw [e1] at hdec hend hnr ⊢
      exact W.zret (ty := .int) hx hb (by rw [hr, e2]) rfl hend hS'.2.2 hdec
    · rename_i e1 e2
      rw [e1] at hdec hend hnr ⊢
      have h9 := hnr (Or.inl rfl)
      rw [e2] at h9
      exact W.zret (ty := .char) hx hb (by rw [hr, e2]) (z_nchar h9.1 h9.2) hend hS'.2.2 hdec
    · rename_i e1 e2
      rw [e1] at hdec hend hnr ⊢
      have h9 := hnr (Or.inl rfl)
      rw [e2] at h9
      exact W.zret (ty := .byte) hx hb (by rw [hr, e2]) (z_nbyte h9.1 h9.2) hend hS'.2.2 hdec
    · rename_i e1 e2
      rw [e1] at hdec hend hnr ⊢
      have h9 := hnr (Or.inr rfl)
      rw [e2] at h9
      exact W.zret (ty := .boolean) hx hb (by rw [hr, e2]) (by rcases h9 with h9 | h9 <;> subst h9 <;> rfl) hend hS'.2.2 hdec
    · rename_i e1 e2
      rw [e1] at hdec hend hrr ⊢
      exact W.lret hx hb (by rw [hr, e2]) hend hS'.2.2 hdec
    · rename_i nm e1 e2
      rw [e1] at hdec hend hrr ⊢
      have e3 : zc G (2, r) = .ref (zad G r) := zc_ref (zRg_ref hrr)
      exact W.aret hx hb (by rw [hr, e2]) (Or.inl ⟨_, rfl⟩) (Or.inr ⟨_, e3⟩) hend hS'.2.2 hdec
    · rename_i nm e1 e2
      rw [e1] at hdec hend hrr ⊢
      have e3 : zc G (2, r) = .ref (zad G r) := zc_ref (zRg_ref hrr)
      exact W.aret hx hb (by rw [hr, e2]) (Or.inr ⟨_, rfl⟩) (Or.inr ⟨_, e3⟩) hend hS'.2.2 hdec
    · rename_i e1 e2
      rw [e1] at hdec hend ⊢
      exact W.vret hx hb (by rw [hr, e2]) hend hS'.2.2 hdec
    · cases hty
/-- a contract weakened in what it promises -/
theorem zC_mono {l : Launch} {G : zG} {md d : Nat} {h : zHdr} {As : List zV} {v : zH} {n : Nat} {Q Q2 : Int → zH → Prop} (hQ : ∀ r v', Q r v' → Q2 r v') (k : zC l G md d h As v n Q) : zC l G md d h As v n Q2 := by
  intro p e ha hc hk s m args below hf happ hP hK
  obtain ⟨t, o, h1, h2, h3, h4⟩ := k p e ha hc hk s m args below hf happ hP hK
  refine ⟨t, o, h1, h2, h3, ?_⟩
  obtain ⟨⟨⟨r, v', g1, g2, g3⟩, g4⟩, g5⟩ := h4
  exact ⟨⟨⟨r, v', g1, hQ r v' g2, g3⟩, g4⟩, g5⟩
end
section
/-! the methods: heads -/
def h_Intg_bitCount : zHdr := ("java/lang/Integer", ⟨"java/lang/Integer", "bitCount", "(I)I"⟩, prog_19_method_49_code, 1, (some .int), 1, 0, 0, 0, false)
def h_Math_floorMod : zHdr := ("java/lang/Math", ⟨"java/lang/Math", "floorMod", "(II)I"⟩, prog_20_method_50_code, 3, (some .int), 2, 0, 0, 0, false)
def h_Str_charAt : zHdr := ("java/lang/String", ⟨"java/lang/String", "charAt", "(I)C"⟩, prog_22_method_56_code, 2, (some .char), 1, 0, 0, 0, false)
def h_Str_checkIndex : zHdr := ("java/lang/String", ⟨"java/lang/String", "checkIndex", "(II)V"⟩, prog_22_method_155_code, 2, none, 2, 3, 0, 0, false)
def h_Str_coder : zHdr := ("java/lang/String", ⟨"java/lang/String", "coder", "()B"⟩, prog_22_method_152_code, 1, (some .byte), 0, 0, 0, 0, false)
def h_Str_isLatin1 : zHdr := ("java/lang/String", ⟨"java/lang/String", "isLatin1", "()Z"⟩, prog_22_method_154_code, 1, (some .boolean), 0, 4, 0, 0, false)
def h_Str_length : zHdr := ("java/lang/String", ⟨"java/lang/String", "length", "()I"⟩, prog_22_method_54_code, 1, (some .int), 0, 0, 0, 0, false)
def h_SL1_charAt : zHdr := ("java/lang/StringLatin1", ⟨"java/lang/StringLatin1", "charAt", "([BI)C"⟩, prog_23_method_2_code, 2, (some .char), 2, 0, 0, 0, false)
def h_Pre_checkIndex : zHdr := ("jdk/internal/util/Preconditions", ⟨"jdk/internal/util/Preconditions", "checkIndex", "(IILjava/util/function/BiFunction;)I"⟩, prog_30_method_11_code, 3, (some .int), 3, 0, 0, 0, false)
def h_Ta_init : zHdr := ("WarmWall$Tape", ⟨"WarmWall$Tape", "<init>", "()V"⟩, prog_9_method_1_code, 1, none, 0, 3, 1, 160, true)
def h_Ta_bytesIn : zHdr := ("WarmWall$Tape", ⟨"WarmWall$Tape", "bytesIn", "(I)I"⟩, prog_9_method_2_code, 3, (some .int), 1, 0, 0, 0, false)
def h_Ta_append : zHdr := ("WarmWall$Tape", ⟨"WarmWall$Tape", "append", "(I)V"⟩, prog_9_method_3_code, 4, none, 1, 3, 0, 0, false)
def h_WR_sup : zHdr := ("WarmWall$Reader", ⟨"WarmWall$Reader", "<init>", "(LWarmWall$Tape;)V"⟩, prog_7_method_1_code, 2, none, 1, 3, 0, 0, true)
def h_LR_sup : zHdr := ("WarmWall$Reader", ⟨"WarmWall$Reader", "<init>", "(LWarmWall$Tape;)V"⟩, prog_7_method_1_code, 2, none, 1, 3, 0, 0, true)
def h_WR_sign : zHdr := ("WarmWall$Reader", ⟨"WarmWall$Reader", "sign", "()I"⟩, prog_7_method_2_code, 1, (some .int), 0, 0, 0, 0, false)
def h_LR_sign : zHdr := ("WarmWall$Reader", ⟨"WarmWall$Reader", "sign", "()I"⟩, prog_7_method_2_code, 1, (some .int), 0, 0, 0, 0, false)
def h_WR_takes : zHdr := ("WarmWall$Reader", ⟨"WarmWall$Reader", "takes", "(I)Z"⟩, prog_7_method_3_code, 2, (some .boolean), 1, 4, 0, 0, false)
def h_LR_takes : zHdr := ("WarmWall$Reader", ⟨"WarmWall$Reader", "takes", "(I)Z"⟩, prog_7_method_3_code, 2, (some .boolean), 1, 4, 0, 0, false)
def h_WR_digits : zHdr := ("WarmWall$Reader", ⟨"WarmWall$Reader", "digits", "(I)I"⟩, prog_7_method_4_code, 4, (some .int), 1, 0, 0, 0, false)
def h_LR_digits : zHdr := ("WarmWall$Reader", ⟨"WarmWall$Reader", "digits", "(I)I"⟩, prog_7_method_4_code, 4, (some .int), 1, 0, 0, 0, false)
def h_Ki_init_0 : zHdr := ("WarmWall$Kind", ⟨"WarmWall$Kind", "<init>", "(ILjava/lang/String;[I[I[I)V"⟩, prog_3_method_1_code, 6, none, 5, 3, 1, 12, true)
def h_Ki_init_1 : zHdr := ("WarmWall$Kind", ⟨"WarmWall$Kind", "<init>", "(ILjava/lang/String;[I[I[I)V"⟩, prog_3_method_1_code, 6, none, 5, 3, 1, 15, true)
def h_Ki_init_2 : zHdr := ("WarmWall$Kind", ⟨"WarmWall$Kind", "<init>", "(ILjava/lang/String;[I[I[I)V"⟩, prog_3_method_1_code, 6, none, 5, 3, 1, 10, true)
def h_Ki_has : zHdr := ("WarmWall$Kind", ⟨"WarmWall$Kind", "has", "(I)Z"⟩, prog_3_method_2_code, 2, (some .boolean), 1, 4, 0, 0, false)
def h_Ki_number : zHdr := ("WarmWall$Kind", ⟨"WarmWall$Kind", "number", "(II)I"⟩, prog_3_method_3_code, 3, (some .int), 2, 0, 0, 0, false)
def h_Ki_addsOne : zHdr := ("WarmWall$Kind", ⟨"WarmWall$Kind", "addsOne", "()Z"⟩, prog_3_method_4_code, 2, (some .boolean), 0, 4, 0, 0, false)
def h_Ki_itemOf : zHdr := ("WarmWall$Kind", ⟨"WarmWall$Kind", "itemOf", "(I)I"⟩, prog_3_method_5_code, 3, (some .int), 1, 0, 0, 0, false)
def h_Ki_tells : zHdr := ("WarmWall$Kind", ⟨"WarmWall$Kind", "tells", "(II)Z"⟩, prog_3_method_6_code, 3, (some .boolean), 2, 4, 0, 0, false)
def h_Wa_init : zHdr := ("WarmWall$Wall", ⟨"WarmWall$Wall", "<init>", "()V"⟩, prog_11_method_1_code, 1, none, 0, 3, 12, 254, true)
def h_Wa_clear : zHdr := ("WarmWall$Wall", ⟨"WarmWall$Wall", "clear", "()V"⟩, prog_11_method_2_code, 1, none, 0, 3, 0, 0, false)
def h_Wa_stands : zHdr := ("WarmWall$Wall", ⟨"WarmWall$Wall", "stands", "()Z"⟩, prog_11_method_3_code, 3, (some .boolean), 0, 4, 0, 0, false)
def h_Wa_lay : zHdr := ("WarmWall$Wall", ⟨"WarmWall$Wall", "lay", "()V"⟩, prog_11_method_4_code, 4, none, 0, 3, 0, 0, false)
def h_Wa_indexOf : zHdr := ("WarmWall$Wall", ⟨"WarmWall$Wall", "indexOf", "(I)I"⟩, prog_11_method_5_code, 2, (some .int), 1, 0, 0, 0, false)
def h_Wa_nameOf : zHdr := ("WarmWall$Wall", ⟨"WarmWall$Wall", "nameOf", "(I)I"⟩, prog_11_method_6_code, 2, (some .int), 1, 0, 0, 0, false)
def h_Wa_areBeside : zHdr := ("WarmWall$Wall", ⟨"WarmWall$Wall", "areBeside", "(II)Z"⟩, prog_11_method_7_code, 4, (some .boolean), 2, 4, 0, 0, false)
def h_WR_init : zHdr := ("WarmWall$WallReader", ⟨"WarmWall$WallReader", "<init>", "(LWarmWall$Tape;)V"⟩, prog_12_method_1_code, 2, none, 1, 3, 0, 0, true)
def h_WR_faultOf : zHdr := ("WarmWall$WallReader", ⟨"WarmWall$WallReader", "faultOf", "(LWarmWall$Wall;)I"⟩, prog_12_method_2_code, 3, (some .int), 1, 0, 0, 0, false)
def h_WR_clause : zHdr := ("WarmWall$WallReader", ⟨"WarmWall$WallReader", "clause", "(LWarmWall$Wall;)Z"⟩, prog_12_method_3_code, 2, (some .boolean), 1, 4, 0, 0, false)
def h_WR_items : zHdr := ("WarmWall$WallReader", ⟨"WarmWall$WallReader", "items", "(LWarmWall$Kind;)Z"⟩, prog_12_method_4_code, 6, (some .boolean), 1, 4, 0, 0, false)
def h_WR_row : zHdr := ("WarmWall$WallReader", ⟨"WarmWall$WallReader", "row", "(LWarmWall$Wall;)Z"⟩, prog_12_method_5_code, 4, (some .boolean), 1, 4, 0, 0, false)
def h_La_init : zHdr := ("WarmWall$Law", ⟨"WarmWall$Law", "<init>", "()V"⟩, prog_4_method_1_code, 1, none, 0, 3, 2, 321, true)
def h_La_clear : zHdr := ("WarmWall$Law", ⟨"WarmWall$Law", "clear", "()V"⟩, prog_4_method_2_code, 1, none, 0, 3, 0, 0, false)
def h_La_addNumber : zHdr := ("WarmWall$Law", ⟨"WarmWall$Law", "addNumber", "(I)V"⟩, prog_4_method_3_code, 2, none, 1, 3, 0, 0, false)
def h_La_addSign : zHdr := ("WarmWall$Law", ⟨"WarmWall$Law", "addSign", "(I)V"⟩, prog_4_method_4_code, 2, none, 1, 3, 0, 0, false)
def h_La_worth : zHdr := ("WarmWall$Law", ⟨"WarmWall$Law", "worth", "(IIII)I"⟩, prog_4_method_5_code, 9, (some .int), 4, 0, 0, 0, false)
def h_La_joined : zHdr := ("WarmWall$Law", ⟨"WarmWall$Law", "joined", "(III)I"⟩, prog_4_method_6_code, 5, (some .int), 3, 0, 0, 0, false)
def h_LR_init : zHdr := ("WarmWall$LawReader", ⟨"WarmWall$LawReader", "<init>", "(LWarmWall$Tape;)V"⟩, prog_5_method_1_code, 2, none, 1, 3, 0, 0, true)
def h_LR_faultOf : zHdr := ("WarmWall$LawReader", ⟨"WarmWall$LawReader", "faultOf", "(LWarmWall$Law;)I"⟩, prog_5_method_2_code, 3, (some .int), 1, 0, 0, 0, false)
def h_LR_clause : zHdr := ("WarmWall$LawReader", ⟨"WarmWall$LawReader", "clause", "(LWarmWall$Law;)Z"⟩, prog_5_method_3_code, 3, (some .boolean), 1, 4, 0, 0, false)
def h_LR_condition : zHdr := ("WarmWall$LawReader", ⟨"WarmWall$LawReader", "condition", "(LWarmWall$Law;IZ)Z"⟩, prog_5_method_4_code, 5, (some .boolean), 3, 4, 0, 0, false)
def h_LR_truth : zHdr := ("WarmWall$LawReader", ⟨"WarmWall$LawReader", "truth", "(LWarmWall$Law;IZ)Z"⟩, prog_5_method_5_code, 5, (some .boolean), 3, 4, 0, 0, false)
def h_LR_unit : zHdr := ("WarmWall$LawReader", ⟨"WarmWall$LawReader", "unit", "(LWarmWall$Law;IZ)Z"⟩, prog_5_method_6_code, 6, (some .boolean), 3, 4, 0, 0, false)
def h_LR_compares : zHdr := ("WarmWall$LawReader", ⟨"WarmWall$LawReader", "compares", "(I)Z"⟩, prog_5_method_7_code, 1, (some .boolean), 1, 4, 0, 0, false)
def h_LR_sum : zHdr := ("WarmWall$LawReader", ⟨"WarmWall$LawReader", "sum", "(LWarmWall$Law;I)Z"⟩, prog_5_method_8_code, 5, (some .boolean), 2, 4, 0, 0, false)
def h_LR_term : zHdr := ("WarmWall$LawReader", ⟨"WarmWall$LawReader", "term", "(LWarmWall$Law;I)Z"⟩, prog_5_method_9_code, 5, (some .boolean), 2, 4, 0, 0, false)
def h_LR_atom : zHdr := ("WarmWall$LawReader", ⟨"WarmWall$LawReader", "atom", "(LWarmWall$Law;I)Z"⟩, prog_5_method_10_code, 5, (some .boolean), 2, 4, 0, 0, false)
def h_Sk_init : zHdr := ("WarmWall$Sky", ⟨"WarmWall$Sky", "<init>", "()V"⟩, prog_8_method_1_code, 2, none, 0, 3, 18, 10850, true)
def h_Sk_draft : zHdr := ("WarmWall$Sky", ⟨"WarmWall$Sky", "draft", "()LWarmWall$Law;"⟩, prog_8_method_2_code, 1, (some (.object "WarmWall$Law")), 0, 2, 0, 0, false)
def h_Sk_obey : zHdr := ("WarmWall$Sky", ⟨"WarmWall$Sky", "obey", "(I)V"⟩, prog_8_method_3_code, 3, none, 1, 3, 0, 0, false)
def h_Sk_rainsAt : zHdr := ("WarmWall$Sky", ⟨"WarmWall$Sky", "rainsAt", "(I)Z"⟩, prog_8_method_4_code, 2, (some .boolean), 1, 4, 0, 0, false)
def h_Sk_sunOn : zHdr := ("WarmWall$Sky", ⟨"WarmWall$Sky", "sunOn", "(IIII)I"⟩, prog_8_method_5_code, 11, (some .int), 4, 0, 0, 0, false)
def h_Sk_turnTo : zHdr := ("WarmWall$Sky", ⟨"WarmWall$Sky", "turnTo", "(II)V"⟩, prog_8_method_6_code, 4, none, 2, 3, 0, 0, false)
def h_Co_init : zHdr := ("WarmWall$Course", ⟨"WarmWall$Course", "<init>", "()V"⟩, prog_2_method_1_code, 1, none, 0, 3, 8, 150, true)
def h_Co_begin : zHdr := ("WarmWall$Course", ⟨"WarmWall$Course", "begin", "(LWarmWall$Wall;)V"⟩, prog_2_method_2_code, 3, none, 1, 3, 0, 0, false)
def h_Co_follow : zHdr := ("WarmWall$Course", ⟨"WarmWall$Course", "follow", "(LWarmWall$Course;)V"⟩, prog_2_method_3_code, 2, none, 1, 3, 0, 0, false)
def h_Co_change : zHdr := ("WarmWall$Course", ⟨"WarmWall$Course", "change", "(IILWarmWall$Wall;)V"⟩, prog_2_method_4_code, 4, none, 3, 3, 0, 0, false)
def h_Co_burns : zHdr := ("WarmWall$Course", ⟨"WarmWall$Course", "burns", "(I)Z"⟩, prog_2_method_5_code, 3, (some .boolean), 1, 4, 0, 0, false)
def h_Co_givenBy : zHdr := ("WarmWall$Course", ⟨"WarmWall$Course", "givenBy", "(ILWarmWall$Wall;)I"⟩, prog_2_method_6_code, 3, (some .int), 2, 0, 0, 0, false)
def h_Co_step : zHdr := ("WarmWall$Course", ⟨"WarmWall$Course", "step", "(LWarmWall$Wall;LWarmWall$Sky;)V"⟩, prog_2_method_7_code, 7, none, 2, 3, 0, 0, false)
def h_Co_share : zHdr := ("WarmWall$Course", ⟨"WarmWall$Course", "share", "(IILWarmWall$Wall;)I"⟩, prog_2_method_8_code, 7, (some .int), 3, 0, 0, 0, false)
def h_Co_settle : zHdr := ("WarmWall$Course", ⟨"WarmWall$Course", "settle", "(ZLWarmWall$Wall;)V"⟩, prog_2_method_9_code, 5, none, 2, 3, 0, 0, false)
def h_Co_sleep : zHdr := ("WarmWall$Course", ⟨"WarmWall$Course", "sleep", "(LWarmWall$Wall;LWarmWall$Sky;)V"⟩, prog_2_method_10_code, 6, none, 2, 3, 0, 0, false)
def h_Pa_init : zHdr := ("WarmWall$Past", ⟨"WarmWall$Past", "<init>", "()V"⟩, prog_6_method_1_code, 1, none, 0, 3, 2, 1464, true)
def h_Pa_forget : zHdr := ("WarmWall$Past", ⟨"WarmWall$Past", "forget", "()V"⟩, prog_6_method_2_code, 1, none, 0, 3, 0, 0, false)
def h_Pa_keep : zHdr := ("WarmWall$Past", ⟨"WarmWall$Past", "keep", "(LWarmWall$Course;)V"⟩, prog_6_method_3_code, 2, none, 1, 3, 0, 0, false)
def h_Pa_takeBack : zHdr := ("WarmWall$Past", ⟨"WarmWall$Past", "takeBack", "(LWarmWall$Course;)Z"⟩, prog_6_method_4_code, 2, (some .boolean), 1, 4, 0, 0, false)
def h_Pa_draw : zHdr := ("WarmWall$Past", ⟨"WarmWall$Past", "draw", "(LWarmWall$Course;)V"⟩, prog_6_method_5_code, 2, none, 1, 3, 0, 0, false)
def h_Pa_comeBack : zHdr := ("WarmWall$Past", ⟨"WarmWall$Past", "comeBack", "(LWarmWall$Course;)Z"⟩, prog_6_method_6_code, 2, (some .boolean), 1, 4, 0, 0, false)
def h_To_init : zHdr := ("WarmWall$Touches", ⟨"WarmWall$Touches", "<init>", "()V"⟩, prog_10_method_1_code, 1, none, 0, 3, 3, 60, true)
def h_To_tell : zHdr := ("WarmWall$Touches", ⟨"WarmWall$Touches", "tell", "(III)Z"⟩, prog_10_method_2_code, 4, (some .boolean), 3, 4, 0, 0, false)
def h_To_lastHour : zHdr := ("WarmWall$Touches", ⟨"WarmWall$Touches", "lastHour", "()I"⟩, prog_10_method_3_code, 3, (some .int), 0, 0, 0, 0, false)
def h_To_allowAt : zHdr := ("WarmWall$Touches", ⟨"WarmWall$Touches", "allowAt", "(I[I)Z"⟩, prog_10_method_4_code, 5, (some .boolean), 2, 4, 0, 0, false)
def h_W_init : zHdr := ("WarmWall", ⟨"WarmWall", "<init>", "()V"⟩, prog_1_method_1_code, 1, none, 0, 3, 76, 16310, true)
def h_W_feed : zHdr := ("WarmWall", ⟨"WarmWall", "feed", "(IIIII)I"⟩, prog_1_method_2_code, 7, (some .int), 5, 0, 0, 0, false)
def h_W_end : zHdr := ("WarmWall", ⟨"WarmWall", "end", "(I)Z"⟩, prog_1_method_3_code, 2, (some .boolean), 1, 4, 0, 0, false)
def h_W_fault : zHdr := ("WarmWall", ⟨"WarmWall", "fault", "(I)I"⟩, prog_1_method_4_code, 2, (some .int), 1, 0, 0, 0, false)
def h_W_text : zHdr := ("WarmWall", ⟨"WarmWall", "text", "(I)I"⟩, prog_1_method_5_code, 2, (some .int), 1, 0, 0, 0, false)
def h_W_newWall : zHdr := ("WarmWall", ⟨"WarmWall", "newWall", "()I"⟩, prog_1_method_6_code, 2, (some .int), 0, 0, 0, 0, false)
def h_W_newLaw : zHdr := ("WarmWall", ⟨"WarmWall", "newLaw", "()I"⟩, prog_1_method_7_code, 1, (some .int), 0, 0, 0, 0, false)
def h_W_cell : zHdr := ("WarmWall", ⟨"WarmWall", "cell", "(II)I"⟩, prog_1_method_8_code, 4, (some .int), 2, 0, 0, 0, false)
def h_W_stone : zHdr := ("WarmWall", ⟨"WarmWall", "stone", "(II)I"⟩, prog_1_method_9_code, 3, (some .int), 2, 0, 0, 0, false)
def h_W_oven : zHdr := ("WarmWall", ⟨"WarmWall", "oven", "(II)I"⟩, prog_1_method_10_code, 3, (some .int), 2, 0, 0, 0, false)
def h_W_sleeper : zHdr := ("WarmWall", ⟨"WarmWall", "sleeper", "(II)I"⟩, prog_1_method_11_code, 3, (some .int), 2, 0, 0, 0, false)
def h_W_count : zHdr := ("WarmWall", ⟨"WarmWall", "count", "(I)I"⟩, prog_1_method_12_code, 2, (some .int), 1, 0, 0, 0, false)
def h_W_law : zHdr := ("WarmWall", ⟨"WarmWall", "law", "(I)Z"⟩, prog_1_method_13_code, 2, (some .boolean), 1, 4, 0, 0, false)
def h_W_rain : zHdr := ("WarmWall", ⟨"WarmWall", "rain", "(IZ)Z"⟩, prog_1_method_14_code, 3, (some .boolean), 2, 4, 0, 0, false)
def h_W_warm : zHdr := ("WarmWall", ⟨"WarmWall", "warm", "(II)Z"⟩, prog_1_method_15_code, 4, (some .boolean), 2, 4, 0, 0, false)
def h_W_bake : zHdr := ("WarmWall", ⟨"WarmWall", "bake", "(III)Z"⟩, prog_1_method_16_code, 4, (some .boolean), 3, 4, 0, 0, false)
def h_W_hours : zHdr := ("WarmWall", ⟨"WarmWall", "hours", "(I)I"⟩, prog_1_method_17_code, 3, (some .int), 1, 0, 0, 0, false)
def h_W_undo : zHdr := ("WarmWall", ⟨"WarmWall", "undo", "()I"⟩, prog_1_method_18_code, 1, (some .int), 0, 0, 0, 0, false)
def h_W_image : zHdr := ("WarmWall", ⟨"WarmWall", "image", "()I"⟩, prog_1_method_19_code, 1, (some .int), 0, 0, 0, 0, false)
def h_W_back : zHdr := ("WarmWall", ⟨"WarmWall", "back", "()I"⟩, prog_1_method_20_code, 1, (some .int), 0, 0, 0, 0, false)
def h_W_ahead : zHdr := ("WarmWall", ⟨"WarmWall", "ahead", "(III)I"⟩, prog_1_method_21_code, 5, (some .int), 3, 0, 0, 0, false)
def h_W_air : zHdr := ("WarmWall", ⟨"WarmWall", "air", "(I)I"⟩, prog_1_method_22_code, 2, (some .int), 1, 0, 0, 0, false)
def h_W_without : zHdr := ("WarmWall", ⟨"WarmWall", "without", "(II)I"⟩, prog_1_method_23_code, 4, (some .int), 2, 0, 0, 0, false)
def h_W_coldest : zHdr := ("WarmWall", ⟨"WarmWall", "coldest", "(II)I"⟩, prog_1_method_24_code, 7, (some .int), 2, 0, 0, 0, false)
def h_W_frost : zHdr := ("WarmWall", ⟨"WarmWall", "frost", "(I)I"⟩, prog_1_method_25_code, 5, (some .int), 1, 0, 0, 0, false)
def h_W_spread : zHdr := ("WarmWall", ⟨"WarmWall", "spread", "(I)I"⟩, prog_1_method_26_code, 5, (some .int), 1, 0, 0, 0, false)
def h_W_flow : zHdr := ("WarmWall", ⟨"WarmWall", "flow", "(III)I"⟩, prog_1_method_27_code, 8, (some .int), 3, 0, 0, 0, false)
def h_W_giver : zHdr := ("WarmWall", ⟨"WarmWall", "giver", "(II)I"⟩, prog_1_method_28_code, 5, (some .int), 2, 0, 0, 0, false)
def h_W_thaw : zHdr := ("WarmWall", ⟨"WarmWall", "thaw", "(II)I"⟩, prog_1_method_29_code, 5, (some .int), 2, 0, 0, 0, false)
def h_W_steady : zHdr := ("WarmWall", ⟨"WarmWall", "steady", "(I)I"⟩, prog_1_method_30_code, 5, (some .int), 1, 0, 0, 0, false)
def h_W_dayLike : zHdr := ("WarmWall", ⟨"WarmWall", "dayLike", "(I)I"⟩, prog_1_method_31_code, 5, (some .int), 1, 0, 0, 0, false)
def h_W_comfort : zHdr := ("WarmWall", ⟨"WarmWall", "comfort", "(II)I"⟩, prog_1_method_32_code, 4, (some .int), 2, 0, 0, 0, false)
def h_W_choice : zHdr := ("WarmWall", ⟨"WarmWall", "choice", "(I)I"⟩, prog_1_method_33_code, 5, (some .int), 1, 0, 0, 0, false)
def h_W_bestFree : zHdr := ("WarmWall", ⟨"WarmWall", "bestFree", "(I)I"⟩, prog_1_method_34_code, 5, (some .int), 1, 0, 0, 0, false)
def h_W_most : zHdr := ("WarmWall", ⟨"WarmWall", "most", "(I)I"⟩, prog_1_method_35_code, 4, (some .int), 1, 0, 0, 0, false)
def h_W_allSleepWarm : zHdr := ("WarmWall", ⟨"WarmWall", "allSleepWarm", "(I)Z"⟩, prog_1_method_36_code, 3, (some .boolean), 1, 4, 0, 0, false)
def h_W_askedBy : zHdr := ("WarmWall", ⟨"WarmWall", "askedBy", "(I)I"⟩, prog_1_method_37_code, 2, (some .int), 1, 0, 0, 0, false)
def h_W_sleepersWhoAsk : zHdr := ("WarmWall", ⟨"WarmWall", "sleepersWhoAsk", "(II)I"⟩, prog_1_method_38_code, 5, (some .int), 2, 0, 0, 0, false)
def h_W_warmCells : zHdr := ("WarmWall", ⟨"WarmWall", "warmCells", "(I)I"⟩, prog_1_method_39_code, 4, (some .int), 1, 0, 0, 0, false)
def h_W_timing : zHdr := ("WarmWall", ⟨"WarmWall", "timing", "(III)I"⟩, prog_1_method_40_code, 9, (some .int), 3, 0, 0, 0, false)
def h_W_changed : zHdr := ("WarmWall", ⟨"WarmWall", "changed", "(III)I"⟩, prog_1_method_41_code, 10, (some .int), 3, 0, 0, 0, false)
def h_W_laid : zHdr := ("WarmWall", ⟨"WarmWall", "laid", "(I)I"⟩, prog_1_method_42_code, 8, (some .int), 1, 0, 0, 0, false)
def h_W_layAnew : zHdr := ("WarmWall", ⟨"WarmWall", "layAnew", "(I)I"⟩, prog_1_method_43_code, 8, (some .int), 1, 0, 0, 0, false)
def h_W_leastOfAll : zHdr := ("WarmWall", ⟨"WarmWall", "leastOfAll", "()I"⟩, prog_1_method_44_code, 3, (some .int), 0, 0, 0, 0, false)
def h_W_touched : zHdr := ("WarmWall", ⟨"WarmWall", "touched", "(III)I"⟩, prog_1_method_45_code, 5, (some .int), 3, 0, 0, 0, false)
def h_W_fits : zHdr := ("WarmWall", ⟨"WarmWall", "fits", "(I)I"⟩, prog_1_method_46_code, 3, (some .int), 1, 0, 0, 0, false)
def h_W_sortsThatFit : zHdr := ("WarmWall", ⟨"WarmWall", "sortsThatFit", "(I)I"⟩, prog_1_method_47_code, 4, (some .int), 1, 0, 0, 0, false)
def h_W_isLikeTouches : zHdr := ("WarmWall", ⟨"WarmWall", "isLikeTouches", "(II)Z"⟩, prog_1_method_48_code, 5, (some .boolean), 2, 4, 0, 0, false)
def h_W_touch : zHdr := ("WarmWall", ⟨"WarmWall", "touch", "(III)I"⟩, prog_1_method_49_code, 11, (some .int), 3, 0, 0, 0, false)
def h_W_tryOut : zHdr := ("WarmWall", ⟨"WarmWall", "tryOut", "(III)V"⟩, prog_1_method_50_code, 6, none, 3, 3, 0, 0, false)
def h_W_trialAt : zHdr := ("WarmWall", ⟨"WarmWall", "trialAt", "(III)I"⟩, prog_1_method_51_code, 3, (some .int), 3, 0, 0, 0, false)
def h_W_unlikeWarmths : zHdr := ("WarmWall", ⟨"WarmWall", "unlikeWarmths", "(III)I"⟩, prog_1_method_52_code, 8, (some .int), 3, 0, 0, 0, false)
def h_W_within : zHdr := ("WarmWall", ⟨"WarmWall", "within", "(III)Z"⟩, prog_1_method_53_code, 3, (some .boolean), 3, 4, 0, 0, false)
def h_W_goAhead : zHdr := ("WarmWall", ⟨"WarmWall", "goAhead", "(I)V"⟩, prog_1_method_54_code, 3, none, 1, 3, 0, 0, false)
def h_W_nightAhead : zHdr := ("WarmWall", ⟨"WarmWall", "nightAhead", "()V"⟩, prog_1_method_55_code, 1, none, 0, 3, 0, 0, false)
def h_W_airAhead : zHdr := ("WarmWall", ⟨"WarmWall", "airAhead", "(I)I"⟩, prog_1_method_56_code, 4, (some .int), 1, 0, 0, 0, false)
def h_W_sumOf : zHdr := ("WarmWall", ⟨"WarmWall", "sumOf", "([I)I"⟩, prog_1_method_57_code, 4, (some .int), 1, 0, 0, 0, false)
def h_M_in : zHdr := ("WarmWallModel", ⟨"WarmWallModel", "in", "(III)Z"⟩, prog_14_method_1_code, 3, (some .boolean), 3, 4, 0, 0, false)
def h_M_has : zHdr := ("WarmWallModel", ⟨"WarmWallModel", "has", "(II)Z"⟩, prog_14_method_2_code, 2, (some .boolean), 2, 4, 0, 0, false)
def h_M_init : zHdr := ("WarmWallModel", ⟨"WarmWallModel", "<init>", "()V"⟩, prog_14_method_3_code, 1, none, 0, 3, 36, 12127, true)
def h_M_thrown : zHdr := ("WarmWallModel", ⟨"WarmWallModel", "thrown", "()I"⟩, prog_14_method_4_code, 1, (some .int), 0, 0, 0, 0, false)
def h_M_byteOf : zHdr := ("WarmWallModel", ⟨"WarmWallModel", "byteOf", "(IIIIII)I"⟩, prog_14_method_5_code, 7, (some .int), 6, 0, 0, 0, false)
def h_M_feed : zHdr := ("WarmWallModel", ⟨"WarmWallModel", "feed", "(IIIII)I"⟩, prog_14_method_6_code, 9, (some .int), 5, 0, 0, 0, false)
def h_M_end : zHdr := ("WarmWallModel", ⟨"WarmWallModel", "end", "(I)Z"⟩, prog_14_method_7_code, 2, (some .boolean), 1, 4, 0, 0, false)
def h_M_here : zHdr := ("WarmWallModel", ⟨"WarmWallModel", "here", "()I"⟩, prog_14_method_8_code, 1, (some .int), 0, 0, 0, 0, false)
def h_M_look : zHdr := ("WarmWallModel", ⟨"WarmWallModel", "look", "()I"⟩, prog_14_method_9_code, 1, (some .int), 0, 0, 0, 0, false)
def h_M_bad : zHdr := ("WarmWallModel", ⟨"WarmWallModel", "bad", "()V"⟩, prog_14_method_10_code, 1, none, 0, 3, 0, 0, false)
def h_M_isDigit : zHdr := ("WarmWallModel", ⟨"WarmWallModel", "isDigit", "(I)Z"⟩, prog_14_method_11_code, 1, (some .boolean), 1, 4, 0, 0, false)
def h_M_put : zHdr := ("WarmWallModel", ⟨"WarmWallModel", "put", "(II)V"⟩, prog_14_method_12_code, 3, none, 2, 3, 0, 0, false)
def h_M_letterOf : zHdr := ("WarmWallModel", ⟨"WarmWallModel", "letterOf", "(I)I"⟩, prog_14_method_13_code, 1, (some .int), 1, 0, 0, 0, false)
def h_M_opens : zHdr := ("WarmWallModel", ⟨"WarmWallModel", "opens", "()V"⟩, prog_14_method_14_code, 1, none, 0, 3, 0, 0, false)
def h_M_closes : zHdr := ("WarmWallModel", ⟨"WarmWallModel", "closes", "(I)V"⟩, prog_14_method_15_code, 2, none, 1, 3, 0, 0, false)
def h_M_plainNumber : zHdr := ("WarmWallModel", ⟨"WarmWallModel", "plainNumber", "()I"⟩, prog_14_method_16_code, 3, (some .int), 0, 0, 0, 0, false)
def h_M_atom : zHdr := ("WarmWallModel", ⟨"WarmWallModel", "atom", "()V"⟩, prog_14_method_17_code, 2, none, 0, 3, 0, 0, false)
def h_M_term : zHdr := ("WarmWallModel", ⟨"WarmWallModel", "term", "()V"⟩, prog_14_method_18_code, 2, none, 0, 3, 0, 0, false)
def h_M_sum : zHdr := ("WarmWallModel", ⟨"WarmWallModel", "sum", "()V"⟩, prog_14_method_19_code, 2, none, 0, 3, 0, 0, false)
def h_M_isSign : zHdr := ("WarmWallModel", ⟨"WarmWallModel", "isSign", "(I)Z"⟩, prog_14_method_20_code, 1, (some .boolean), 1, 4, 0, 0, false)
def h_M_compare : zHdr := ("WarmWallModel", ⟨"WarmWallModel", "compare", "()V"⟩, prog_14_method_21_code, 2, none, 0, 3, 0, 0, false)
def h_M_unit : zHdr := ("WarmWallModel", ⟨"WarmWallModel", "unit", "()V"⟩, prog_14_method_22_code, 2, none, 0, 3, 0, 0, false)
def h_M_goOnAnd : zHdr := ("WarmWallModel", ⟨"WarmWallModel", "goOnAnd", "()V"⟩, prog_14_method_23_code, 1, none, 0, 3, 0, 0, false)
def h_M_goOnOr : zHdr := ("WarmWallModel", ⟨"WarmWallModel", "goOnOr", "()V"⟩, prog_14_method_24_code, 1, none, 0, 3, 0, 0, false)
def h_M_condition : zHdr := ("WarmWallModel", ⟨"WarmWallModel", "condition", "()V"⟩, prog_14_method_25_code, 1, none, 0, 3, 0, 0, false)
def h_M_clause : zHdr := ("WarmWallModel", ⟨"WarmWallModel", "clause", "()V"⟩, prog_14_method_26_code, 3, none, 0, 3, 0, 0, false)
def h_M_open : zHdr := ("WarmWallModel", ⟨"WarmWallModel", "open", "(I)V"⟩, prog_14_method_27_code, 2, none, 1, 3, 0, 0, false)
def h_M_atEnd : zHdr := ("WarmWallModel", ⟨"WarmWallModel", "atEnd", "()I"⟩, prog_14_method_28_code, 1, (some .int), 0, 0, 0, 0, false)
def h_M_readLaw : zHdr := ("WarmWallModel", ⟨"WarmWallModel", "readLaw", "(I)I"⟩, prog_14_method_29_code, 2, (some .int), 1, 0, 0, 0, false)
def h_M_bounded : zHdr := ("WarmWallModel", ⟨"WarmWallModel", "bounded", "(J)I"⟩, prog_14_method_30_code, 2, (some .int), 1, 0, 0, 0, false)
def h_M_worked : zHdr := ("WarmWallModel", ⟨"WarmWallModel", "worked", "(IJJ)I"⟩, prog_14_method_31_code, 5, (some .int), 3, 0, 0, 0, false)
def h_M_workOut : zHdr := ("WarmWallModel", ⟨"WarmWallModel", "workOut", "(III)I"⟩, prog_14_method_32_code, 6, (some .int), 3, 0, 0, 0, false)
def h_M_worthOf : zHdr := ("WarmWallModel", ⟨"WarmWallModel", "worthOf", "(I)I"⟩, prog_14_method_33_code, 3, (some .int), 1, 0, 0, 0, false)
def h_M_number : zHdr := ("WarmWallModel", ⟨"WarmWallModel", "number", "(II)I"⟩, prog_14_method_34_code, 4, (some .int), 2, 0, 0, 0, false)
def h_M_itemOf : zHdr := ("WarmWallModel", ⟨"WarmWallModel", "itemOf", "(II)I"⟩, prog_14_method_35_code, 2, (some .int), 2, 0, 0, 0, false)
def h_M_highest : zHdr := ("WarmWallModel", ⟨"WarmWallModel", "highest", "(II)I"⟩, prog_14_method_36_code, 2, (some .int), 2, 0, 0, 0, false)
def h_M_usual : zHdr := ("WarmWallModel", ⟨"WarmWallModel", "usual", "(II)I"⟩, prog_14_method_37_code, 2, (some .int), 2, 0, 0, 0, false)
def h_M_items : zHdr := ("WarmWallModel", ⟨"WarmWallModel", "items", "(I[III)V"⟩, prog_14_method_38_code, 7, none, 4, 3, 0, 0, false)
def h_M_rowText : zHdr := ("WarmWallModel", ⟨"WarmWallModel", "rowText", "()V"⟩, prog_14_method_39_code, 3, none, 0, 3, 0, 0, false)
def h_M_clauseText : zHdr := ("WarmWallModel", ⟨"WarmWallModel", "clauseText", "()V"⟩, prog_14_method_40_code, 2, none, 0, 3, 0, 0, false)
def h_M_isWhole : zHdr := ("WarmWallModel", ⟨"WarmWallModel", "isWhole", "()Z"⟩, prog_14_method_41_code, 4, (some .boolean), 0, 4, 0, 0, false)
def h_M_readWall : zHdr := ("WarmWallModel", ⟨"WarmWallModel", "readWall", "()I"⟩, prog_14_method_42_code, 2, (some .int), 0, 0, 0, 0, false)
def h_M_fault : zHdr := ("WarmWallModel", ⟨"WarmWallModel", "fault", "(I)I"⟩, prog_14_method_43_code, 2, (some .int), 1, 0, 0, 0, false)
def h_M_copy : zHdr := ("WarmWallModel", ⟨"WarmWallModel", "copy", "([I[I)V"⟩, prog_14_method_44_code, 3, none, 2, 3, 0, 0, false)
def h_M_takeWall : zHdr := ("WarmWallModel", ⟨"WarmWallModel", "takeWall", "()I"⟩, prog_14_method_45_code, 2, (some .int), 0, 0, 0, 0, false)
def h_M_text : zHdr := ("WarmWallModel", ⟨"WarmWallModel", "text", "(I)I"⟩, prog_14_method_46_code, 2, (some .int), 1, 0, 0, 0, false)
def h_M_isCell : zHdr := ("WarmWallModel", ⟨"WarmWallModel", "isCell", "(I)Z"⟩, prog_14_method_47_code, 2, (some .boolean), 1, 4, 0, 0, false)
def h_M_ofStone : zHdr := ("WarmWallModel", ⟨"WarmWallModel", "ofStone", "(II)I"⟩, prog_14_method_48_code, 3, (some .int), 2, 0, 0, 0, false)
def h_M_sunOn : zHdr := ("WarmWallModel", ⟨"WarmWallModel", "sunOn", "(II)I"⟩, prog_14_method_49_code, 4, (some .int), 2, 0, 0, 0, false)
def h_M_doesBurn : zHdr := ("WarmWallModel", ⟨"WarmWallModel", "doesBurn", "(II)Z"⟩, prog_14_method_50_code, 6, (some .boolean), 2, 4, 0, 0, false)
def h_M_ovenCell : zHdr := ("WarmWallModel", ⟨"WarmWallModel", "ovenCell", "(I)I"⟩, prog_14_method_51_code, 2, (some .int), 1, 0, 0, 0, false)
def h_M_areBeside : zHdr := ("WarmWallModel", ⟨"WarmWallModel", "areBeside", "(II)Z"⟩, prog_14_method_52_code, 2, (some .boolean), 2, 4, 0, 0, false)
def h_M_beside : zHdr := ("WarmWallModel", ⟨"WarmWallModel", "beside", "(I)I"⟩, prog_14_method_53_code, 4, (some .int), 1, 0, 0, 0, false)
def h_M_pass : zHdr := ("WarmWallModel", ⟨"WarmWallModel", "pass", "()V"⟩, prog_14_method_54_code, 5, none, 0, 3, 0, 0, false)
def h_M_passAll : zHdr := ("WarmWallModel", ⟨"WarmWallModel", "passAll", "(I)V"⟩, prog_14_method_55_code, 3, none, 1, 3, 0, 0, false)
def h_M_putAside : zHdr := ("WarmWallModel", ⟨"WarmWallModel", "putAside", "()V"⟩, prog_14_method_56_code, 1, none, 0, 3, 0, 0, false)
def h_M_takeBack : zHdr := ("WarmWallModel", ⟨"WarmWallModel", "takeBack", "()V"⟩, prog_14_method_57_code, 1, none, 0, 3, 0, 0, false)
def h_M_cell : zHdr := ("WarmWallModel", ⟨"WarmWallModel", "cell", "(II)I"⟩, prog_14_method_58_code, 3, (some .int), 2, 0, 0, 0, false)
def h_M_stone : zHdr := ("WarmWallModel", ⟨"WarmWallModel", "stone", "(II)I"⟩, prog_14_method_59_code, 3, (some .int), 2, 0, 0, 0, false)
def h_M_oven : zHdr := ("WarmWallModel", ⟨"WarmWallModel", "oven", "(II)I"⟩, prog_14_method_60_code, 3, (some .int), 2, 0, 0, 0, false)
def h_M_isSleeper : zHdr := ("WarmWallModel", ⟨"WarmWallModel", "isSleeper", "(I)Z"⟩, prog_14_method_61_code, 2, (some .boolean), 1, 4, 0, 0, false)
def h_M_sleeper : zHdr := ("WarmWallModel", ⟨"WarmWallModel", "sleeper", "(II)I"⟩, prog_14_method_62_code, 3, (some .int), 2, 0, 0, 0, false)
def h_M_law : zHdr := ("WarmWallModel", ⟨"WarmWallModel", "law", "(I)Z"⟩, prog_14_method_63_code, 2, (some .boolean), 1, 4, 0, 0, false)
def h_M_rain : zHdr := ("WarmWallModel", ⟨"WarmWallModel", "rain", "(IZ)Z"⟩, prog_14_method_64_code, 3, (some .boolean), 2, 4, 0, 0, false)
def h_M_warm : zHdr := ("WarmWallModel", ⟨"WarmWallModel", "warm", "(II)Z"⟩, prog_14_method_65_code, 3, (some .boolean), 2, 4, 0, 0, false)
def h_M_bake : zHdr := ("WarmWallModel", ⟨"WarmWallModel", "bake", "(III)Z"⟩, prog_14_method_66_code, 4, (some .boolean), 3, 4, 0, 0, false)
def h_M_areHours : zHdr := ("WarmWallModel", ⟨"WarmWallModel", "areHours", "(I)Z"⟩, prog_14_method_67_code, 2, (some .boolean), 1, 4, 0, 0, false)
def h_M_hours : zHdr := ("WarmWallModel", ⟨"WarmWallModel", "hours", "(I)I"⟩, prog_14_method_68_code, 4, (some .int), 1, 0, 0, 0, false)
def h_M_undo : zHdr := ("WarmWallModel", ⟨"WarmWallModel", "undo", "()I"⟩, prog_14_method_69_code, 2, (some .int), 0, 0, 0, 0, false)
def h_M_feltAt : zHdr := ("WarmWallModel", ⟨"WarmWallModel", "feltAt", "(II)I"⟩, prog_14_method_70_code, 3, (some .int), 2, 0, 0, 0, false)
def h_M_ahead : zHdr := ("WarmWallModel", ⟨"WarmWallModel", "ahead", "(III)I"⟩, prog_14_method_71_code, 5, (some .int), 3, 0, 0, 0, false)
def h_M_airOf : zHdr := ("WarmWallModel", ⟨"WarmWallModel", "airOf", "(I)I"⟩, prog_14_method_72_code, 5, (some .int), 1, 0, 0, 0, false)
def h_M_air : zHdr := ("WarmWallModel", ⟨"WarmWallModel", "air", "(I)I"⟩, prog_14_method_73_code, 2, (some .int), 1, 0, 0, 0, false)
def h_M_layNight : zHdr := ("WarmWallModel", ⟨"WarmWallModel", "layNight", "()V"⟩, prog_14_method_74_code, 3, none, 0, 3, 0, 0, false)
def h_M_comfort : zHdr := ("WarmWallModel", ⟨"WarmWallModel", "comfort", "(II)I"⟩, prog_14_method_75_code, 3, (some .int), 2, 0, 0, 0, false)
def h_M_bestFree : zHdr := ("WarmWallModel", ⟨"WarmWallModel", "bestFree", "([Z)I"⟩, prog_14_method_76_code, 4, (some .int), 1, 0, 0, 0, false)
def h_M_choice : zHdr := ("WarmWallModel", ⟨"WarmWallModel", "choice", "(I)I"⟩, prog_14_method_77_code, 4, (some .int), 1, 0, 0, 0, false)
def h_M_canSleep : zHdr := ("WarmWallModel", ⟨"WarmWallModel", "canSleep", "(I)Z"⟩, prog_14_method_78_code, 5, (some .boolean), 1, 4, 0, 0, false)
def h_M_wants : zHdr := ("WarmWallModel", ⟨"WarmWallModel", "wants", "(I)I"⟩, prog_14_method_79_code, 2, (some .int), 1, 0, 0, 0, false)
def h_M_most : zHdr := ("WarmWallModel", ⟨"WarmWallModel", "most", "(I)I"⟩, prog_14_method_80_code, 4, (some .int), 1, 0, 0, 0, false)
def h_M_lay : zHdr := ("WarmWallModel", ⟨"WarmWallModel", "lay", "(II)V"⟩, prog_14_method_81_code, 3, none, 2, 3, 0, 0, false)
def h_M_layBack : zHdr := ("WarmWallModel", ⟨"WarmWallModel", "layBack", "(III)V"⟩, prog_14_method_82_code, 4, none, 3, 3, 0, 0, false)
def h_M_changed : zHdr := ("WarmWallModel", ⟨"WarmWallModel", "changed", "(III)I"⟩, prog_14_method_83_code, 11, (some .int), 3, 0, 0, 0, false)
def h_M_layDigits : zHdr := ("WarmWallModel", ⟨"WarmWallModel", "layDigits", "(II)I"⟩, prog_14_method_84_code, 8, (some .int), 2, 0, 0, 0, false)
def h_M_leastNight : zHdr := ("WarmWallModel", ⟨"WarmWallModel", "leastNight", "()I"⟩, prog_14_method_85_code, 3, (some .int), 0, 0, 0, 0, false)
def h_M_laid : zHdr := ("WarmWallModel", ⟨"WarmWallModel", "laid", "(I)I"⟩, prog_14_method_86_code, 9, (some .int), 1, 0, 0, 0, false)
def h_M_touched : zHdr := ("WarmWallModel", ⟨"WarmWallModel", "touched", "(III)I"⟩, prog_14_method_87_code, 4, (some .int), 3, 0, 0, 0, false)
def h_M_agrees : zHdr := ("WarmWallModel", ⟨"WarmWallModel", "agrees", "()Z"⟩, prog_14_method_88_code, 4, (some .boolean), 0, 4, 0, 0, false)
def h_M_fitsOf : zHdr := ("WarmWallModel", ⟨"WarmWallModel", "fitsOf", "(I)I"⟩, prog_14_method_89_code, 6, (some .int), 1, 0, 0, 0, false)
def h_M_fits : zHdr := ("WarmWallModel", ⟨"WarmWallModel", "fits", "(I)I"⟩, prog_14_method_90_code, 2, (some .int), 1, 0, 0, 0, false)
def h_M_tryOut : zHdr := ("WarmWallModel", ⟨"WarmWallModel", "tryOut", "(III)V"⟩, prog_14_method_91_code, 8, none, 3, 3, 0, 0, false)
def h_M_unlike : zHdr := ("WarmWallModel", ⟨"WarmWallModel", "unlike", "(III)I"⟩, prog_14_method_92_code, 8, (some .int), 3, 0, 0, 0, false)
def h_M_touch : zHdr := ("WarmWallModel", ⟨"WarmWallModel", "touch", "(III)I"⟩, prog_14_method_93_code, 9, (some .int), 3, 0, 0, 0, false)
def h_M_without : zHdr := ("WarmWallModel", ⟨"WarmWallModel", "without", "(II)I"⟩, prog_14_method_94_code, 5, (some .int), 2, 0, 0, 0, false)
def h_M_sumNow : zHdr := ("WarmWallModel", ⟨"WarmWallModel", "sumNow", "()I"⟩, prog_14_method_95_code, 3, (some .int), 0, 0, 0, 0, false)
def h_M_coldest : zHdr := ("WarmWallModel", ⟨"WarmWallModel", "coldest", "(II)I"⟩, prog_14_method_96_code, 6, (some .int), 2, 0, 0, 0, false)
def h_M_frost : zHdr := ("WarmWallModel", ⟨"WarmWallModel", "frost", "(I)I"⟩, prog_14_method_97_code, 4, (some .int), 1, 0, 0, 0, false)
def h_M_spread : zHdr := ("WarmWallModel", ⟨"WarmWallModel", "spread", "(I)I"⟩, prog_14_method_98_code, 5, (some .int), 1, 0, 0, 0, false)
def h_M_comfortAt : zHdr := ("WarmWallModel", ⟨"WarmWallModel", "comfortAt", "(I)I"⟩, prog_14_method_99_code, 2, (some .int), 1, 0, 0, 0, false)
def h_M_timing : zHdr := ("WarmWallModel", ⟨"WarmWallModel", "timing", "(III)I"⟩, prog_14_method_100_code, 11, (some .int), 3, 0, 0, 0, false)
def h_M_flow : zHdr := ("WarmWallModel", ⟨"WarmWallModel", "flow", "(III)I"⟩, prog_14_method_101_code, 6, (some .int), 3, 0, 0, 0, false)
def h_M_giver : zHdr := ("WarmWallModel", ⟨"WarmWallModel", "giver", "(II)I"⟩, prog_14_method_102_code, 5, (some .int), 2, 0, 0, 0, false)
def h_M_thaw : zHdr := ("WarmWallModel", ⟨"WarmWallModel", "thaw", "(II)I"⟩, prog_14_method_103_code, 5, (some .int), 2, 0, 0, 0, false)
def h_M_areLike : zHdr := ("WarmWallModel", ⟨"WarmWallModel", "areLike", "(II)Z"⟩, prog_14_method_104_code, 4, (some .boolean), 2, 4, 0, 0, false)
def h_M_steady : zHdr := ("WarmWallModel", ⟨"WarmWallModel", "steady", "(I)I"⟩, prog_14_method_105_code, 4, (some .int), 1, 0, 0, 0, false)
def h_M_image : zHdr := ("WarmWallModel", ⟨"WarmWallModel", "image", "()I"⟩, prog_14_method_106_code, 1, (some .int), 0, 0, 0, 0, false)
def h_M_back : zHdr := ("WarmWallModel", ⟨"WarmWallModel", "back", "()I"⟩, prog_14_method_107_code, 1, (some .int), 0, 0, 0, 0, false)
def h_M_count : zHdr := ("WarmWallModel", ⟨"WarmWallModel", "count", "(I)I"⟩, prog_14_method_108_code, 2, (some .int), 1, 0, 0, 0, false)
def h_SU16_charAt : zHdr := ("java/lang/StringUTF16", ⟨"java/lang/StringUTF16", "charAt", "([BI)C"⟩, prog_24_method_83_code, 2, (some .char), 2, 0, 0, 0, false)
end
section
/-! the methods: tables and checks -/
def k_Intg_bitCount : List zIns := [
  (0, 0, none, .iload_n 0, 1, zr0),
  (1, 1, none, .iload_n 0, 1, zr0),
  (2, 2, none, .iconst 1, 1, zr0),
  (3, 3, none, .iushr, 1, zr0),
  (4, 4, none, .ldc_w 265, 3, (zrK 1431655765 0 0 0 [4047])),
  (5, 7, none, .iand, 1, zr0),
  (6, 8, none, .isub, 1, zr0),
  (7, 9, none, .istore_n 0, 1, zr0),
  (8, 10, none, .iload_n 0, 1, zr0),
  (9, 11, none, .ldc_w 266, 3, (zrK 858993459 0 0 0 [4048])),
  (10, 14, none, .iand, 1, zr0),
  (11, 15, none, .iload_n 0, 1, zr0),
  (12, 16, none, .iconst 2, 1, zr0),
  (13, 17, none, .iushr, 1, zr0),
  (14, 18, none, .ldc_w 266, 3, (zrK 858993459 0 0 0 [4048])),
  (15, 21, none, .iand, 1, zr0),
  (16, 22, none, .iadd, 1, zr0),
  (17, 23, none, .istore_n 0, 1, zr0),
  (18, 24, none, .iload_n 0, 1, zr0),
  (19, 25, none, .iload_n 0, 1, zr0),
  (20, 26, none, .iconst 4, 1, zr0),
  (21, 27, none, .iushr, 1, zr0),
  (22, 28, none, .iadd, 1, zr0),
  (23, 29, none, .ldc_w 267, 3, (zrK 252645135 0 0 0 [4049])),
  (24, 32, none, .iand, 1, zr0),
  (25, 33, none, .istore_n 0, 1, zr0),
  (26, 34, none, .iload_n 0, 1, zr0),
  (27, 35, none, .iload_n 0, 1, zr0),
  (28, 36, none, .bipush 8, 2, zr0),
  (29, 38, none, .iushr, 1, zr0),
  (30, 39, none, .iadd, 1, zr0),
  (31, 40, none, .istore_n 0, 1, zr0),
  (32, 41, none, .iload_n 0, 1, zr0),
  (33, 42, none, .iload_n 0, 1, zr0),
  (34, 43, none, .bipush 16, 2, zr0),
  (35, 45, none, .iushr, 1, zr0),
  (36, 46, none, .iadd, 1, zr0),
  (37, 47, none, .istore_n 0, 1, zr0),
  (38, 48, none, .iload_n 0, 1, zr0),
  (39, 49, none, .bipush 63, 2, zr0),
  (40, 51, none, .iand, 1, zr0),
  (41, 52, none, .ireturn, 1, zr0)]
theorem ck_Intg_bitCount : zck h_Intg_bitCount k_Intg_bitCount = true := by decide +kernel
theorem ok_Intg_bitCount : zhok h_Intg_bitCount = true := by decide +kernel
def k_Math_floorMod : List zIns := [
  (0, 0, none, .iload_n 0, 1, zr0),
  (1, 1, none, .iload_n 1, 1, zr0),
  (2, 2, none, .irem, 1, zr0),
  (3, 3, none, .istore_n 2, 1, zr0),
  (4, 4, none, .iload_n 0, 1, zr0),
  (5, 5, none, .iload_n 1, 1, zr0),
  (6, 6, none, .ixor, 1, zr0),
  (7, 7, none, .ifCond .ge 11, 3, (zrT 14)),
  (8, 10, none, .iload_n 2, 1, zr0),
  (9, 11, none, .ifCond .eq 7, 3, (zrT 14)),
  (10, 14, none, .iload_n 2, 1, zr0),
  (11, 15, none, .iload_n 1, 1, zr0),
  (12, 16, none, .iadd, 1, zr0),
  (13, 17, none, .ireturn, 1, zr0),
  (14, 18, none, .iload_n 2, 1, zr0),
  (15, 19, none, .ireturn, 1, zr0)]
theorem ck_Math_floorMod : zck h_Math_floorMod k_Math_floorMod = true := by decide +kernel
theorem ok_Math_floorMod : zhok h_Math_floorMod = true := by decide +kernel
def k_Str_charAt : List zIns := [
  (0, 0, none, .aload_n 0, 1, zr0),
  (1, 1, none, .invokevirtual 492, 3, (zrM 0 26 [2205, 2206, 2207, 1014, 2208] h_Str_isLatin1)),
  (2, 4, none, .ifCond .eq 12, 3, (zrT 8)),
  (3, 7, none, .aload_n 0, 1, zr0),
  (4, 8, none, .getfield 9, 3, (zrF 0 0 5 [7200])),
  (5, 11, none, .iload_n 1, 1, zr0),
  (6, 12, none, .invokestatic 495, 3, (zrM 2 0 [2209, 2210, 1015, 2211] h_SL1_charAt)),
  (7, 15, none, .ireturn, 1, zr0),
  (8, 16, none, .aload_n 0, 1, zr0),
  (9, 17, none, .getfield 9, 3, (zrF 0 0 5 [7200])),
  (10, 20, none, .iload_n 1, 1, zr0),
  (11, 21, none, .invokestatic 498, 3, (zrM 2 0 [2220, 2221, 1017, 2222] h_SU16_charAt)),
  (12, 24, none, .ireturn, 1, zr0)]
theorem ck_Str_charAt : zck h_Str_charAt k_Str_charAt = true := by decide +kernel
theorem ok_Str_charAt : zhok h_Str_charAt = true := by decide +kernel
def k_Str_checkIndex : List zIns := [
  (0, 0, none, .iload_n 0, 1, zr0),
  (1, 1, none, .iload_n 1, 1, zr0),
  (2, 2, none, .getstatic 1053, 3, (zrK 0 0 0 1 [2215])),
  (3, 5, none, .invokestatic 1059, 3, (zrM 2 0 [2217, 2218, 1016, 2219] h_Pre_checkIndex)),
  (4, 8, none, .pop, 1, zr0),
  (5, 9, none, .return_, 1, zr0)]
theorem ck_Str_checkIndex : zck h_Str_checkIndex k_Str_checkIndex = true := by decide +kernel
theorem ok_Str_checkIndex : zhok h_Str_checkIndex = true := by decide +kernel
def k_Str_coder : List zIns := [
  (0, 0, none, .getstatic 38, 3, (zrK 1 0 0 2 [2199])),
  (1, 3, none, .ifCond .eq 10, 3, (zrT 5)),
  (2, 6, none, .aload_n 0, 1, zr0),
  (3, 7, none, .getfield 15, 3, (zrF 0 0 6 [7201])),
  (4, 10, none, .goto 4, 3, (zrT 6)),
  (5, 13, none, .iconst 1, 1, zr0),
  (6, 14, none, .ireturn, 1, zr0)]
theorem ck_Str_coder : zck h_Str_coder k_Str_coder = true := by decide +kernel
theorem ok_Str_coder : zhok h_Str_coder = true := by decide +kernel
def k_Str_isLatin1 : List zIns := [
  (0, 0, none, .getstatic 38, 3, (zrK 1 0 0 2 [2199])),
  (1, 3, none, .ifCond .eq 14, 3, (zrT 7)),
  (2, 6, none, .aload_n 0, 1, zr0),
  (3, 7, none, .getfield 15, 3, (zrF 0 0 6 [7201])),
  (4, 10, none, .ifCond .ne 7, 3, (zrT 7)),
  (5, 13, none, .iconst 1, 1, zr0),
  (6, 14, none, .goto 4, 3, (zrT 8)),
  (7, 17, none, .iconst 0, 1, zr0),
  (8, 18, none, .ireturn, 1, zr0)]
theorem ck_Str_isLatin1 : zck h_Str_isLatin1 k_Str_isLatin1 = true := by decide +kernel
theorem ok_Str_isLatin1 : zhok h_Str_isLatin1 = true := by decide +kernel
def k_Str_length : List zIns := [
  (0, 0, none, .aload_n 0, 1, zr0),
  (1, 1, none, .getfield 9, 3, (zrF 0 0 5 [7200])),
  (2, 4, none, .arraylength, 1, zr0),
  (3, 5, none, .aload_n 0, 1, zr0),
  (4, 6, none, .invokevirtual 335, 3, (zrM 0 26 [2195, 2196, 2197, 1014, 2198] h_Str_coder)),
  (5, 9, none, .ishr, 1, zr0),
  (6, 10, none, .ireturn, 1, zr0)]
theorem ck_Str_length : zck h_Str_length k_Str_length = true := by decide +kernel
theorem ok_Str_length : zhok h_Str_length = true := by decide +kernel
def k_SL1_charAt : List zIns := [
  (0, 0, none, .iload_n 1, 1, zr0),
  (1, 1, none, .aload_n 0, 1, zr0),
  (2, 2, none, .arraylength, 1, (zrF 0 0 2 [])),
  (3, 3, none, .invokestatic 9, 3, (zrM 2 0 [2212, 2213, 1014, 2214] h_Str_checkIndex)),
  (4, 6, none, .aload_n 0, 1, zr0),
  (5, 7, none, .iload_n 1, 1, zr0),
  (6, 8, none, .baload, 1, (zrF 0 0 1 [])),
  (7, 9, none, .sipush 255, 3, zr0),
  (8, 12, none, .iand, 1, zr0),
  (9, 13, none, .i2c, 1, zr0),
  (10, 14, none, .ireturn, 1, zr0)]
theorem ck_SL1_charAt : zck h_SL1_charAt k_SL1_charAt = true := by decide +kernel
theorem ok_SL1_charAt : zhok h_SL1_charAt = true := by decide +kernel
def k_Pre_checkIndex : List zIns := [
  (0, 0, none, .iload_n 0, 1, zr0),
  (1, 1, none, .ifCond .lt 8, 3, (zrT 5)),
  (2, 4, none, .iload_n 0, 1, zr0),
  (3, 5, none, .iload_n 1, 1, zr0),
  (4, 6, none, .if_icmp .lt 10, 3, (zrT 10)),
  (5, 9, none, .aload_n 2, 1, zr0),
  (6, 10, none, .iload_n 0, 1, zr0),
  (7, 11, none, .iload_n 1, 1, zr0),
  (8, 12, none, .invokestatic 95, 3, (zrM 6 0 [] zh0)),
  (9, 15, none, .athrow, 1, zr0),
  (10, 16, none, .iload_n 0, 1, zr0),
  (11, 17, none, .ireturn, 1, zr0)]
theorem ck_Pre_checkIndex : zck h_Pre_checkIndex k_Pre_checkIndex = true := by decide +kernel
theorem ok_Pre_checkIndex : zhok h_Pre_checkIndex = true := by decide +kernel
def k_Ta_init : List zIns := [
  (0, 0, none, .aload_n 0, 1, zr0),
  (1, 1, none, .invokespecial 3, 3, (zrM 5 0 [1038, 1031, 1032] zh0)),
  (2, 4, none, .aload_n 0, 1, zr0),
  (3, 5, none, .sipush 160, 3, zr0),
  (4, 8, none, .newarray .int, 2, (zrF 20 0 0 [1051])),
  (5, 10, none, .putfield 9, 3, (zrK 1 6 0 4 [1039])),
  (6, 13, none, .return_, 1, zr0)]
theorem ck_Ta_init : zck h_Ta_init k_Ta_init = true := by decide +kernel
theorem ok_Ta_init : zhok h_Ta_init = true := by decide +kernel
def k_Ta_bytesIn : List zIns := [
  (0, 0, none, .iconst 0, 1, zr0),
  (1, 1, none, .istore_n 1, 1, zr0),
  (2, 2, none, .bipush 24, 2, zr0),
  (3, 4, none, .istore_n 2, 1, zr0),
  (4, 5, (some [true, true, true]), .iload_n 2, 1, zr0),
  (5, 6, none, .ifCond .lt 22, 3, (zrT 15)),
  (6, 9, none, .iload_n 0, 1, zr0),
  (7, 10, none, .iload_n 2, 1, zr0),
  (8, 11, none, .iushr, 1, zr0),
  (9, 12, none, .sipush 255, 3, zr0),
  (10, 15, none, .iand, 1, zr0),
  (11, 16, none, .ifCond .eq 6, 3, (zrT 13)),
  (12, 19, none, .iinc 1 1, 3, zr0),
  (13, 22, none, .iinc 2 (-8), 3, zr0),
  (14, 25, none, .goto (-20), 3, (zrT 4)),
  (15, 28, none, .iload_n 1, 1, zr0),
  (16, 29, none, .ireturn, 1, zr0)]
theorem ck_Ta_bytesIn : zck h_Ta_bytesIn k_Ta_bytesIn = true := by decide +kernel
theorem ok_Ta_bytesIn : zhok h_Ta_bytesIn = true := by decide +kernel
def k_Ta_append : List zIns := [
  (0, 0, none, .bipush 24, 2, zr0),
  (1, 2, none, .istore_n 2, 1, zr0),
  (2, 3, (some [true, true, true, false]), .iload_n 2, 1, zr0),
  (3, 4, none, .ifCond .lt 53, 3, (zrT 32)),
  (4, 7, none, .iload_n 1, 1, zr0),
  (5, 8, none, .iload_n 2, 1, zr0),
  (6, 9, none, .iushr, 1, zr0),
  (7, 10, none, .sipush 255, 3, zr0),
  (8, 13, none, .iand, 1, zr0),
  (9, 14, none, .istore_n 3, 1, zr0),
  (10, 15, none, .iload_n 3, 1, zr0),
  (11, 16, none, .ifCond .eq 35, 3, (zrT 30)),
  (12, 19, none, .aload_n 0, 1, zr0),
  (13, 20, none, .getfield 15, 3, (zrK 0 6 1 0 [1045])),
  (14, 23, none, .aload_n 0, 1, zr0),
  (15, 24, none, .getfield 9, 3, (zrK 1 6 0 2 [1039])),
  (16, 27, none, .arraylength, 1, zr0),
  (17, 28, none, .if_icmp .ge 23, 3, (zrT 30)),
  (18, 31, none, .aload_n 0, 1, zr0),
  (19, 32, none, .getfield 9, 3, (zrK 1 6 0 2 [1039])),
  (20, 35, none, .aload_n 0, 1, zr0),
  (21, 36, none, .getfield 15, 3, (zrK 0 6 1 0 [1045])),
  (22, 39, none, .iload_n 3, 1, zr0),
  (23, 40, none, .iastore, 1, zr0),
  (24, 41, none, .aload_n 0, 1, zr0),
  (25, 42, none, .dup, 1, zr0),
  (26, 43, none, .getfield 15, 3, (zrK 0 6 1 0 [1045])),
  (27, 46, none, .iconst 1, 1, zr0),
  (28, 47, none, .iadd, 1, zr0),
  (29, 48, none, .putfield 15, 3, (zrK 0 6 1 0 [1045])),
  (30, 51, none, .iinc 2 (-8), 3, zr0),
  (31, 54, none, .goto (-51), 3, (zrT 2)),
  (32, 57, none, .return_, 1, zr0)]
theorem ck_Ta_append : zck h_Ta_append k_Ta_append = true := by decide +kernel
theorem ok_Ta_append : zhok h_Ta_append = true := by decide +kernel
def k_WR_sup : List zIns := [
  (0, 0, none, .aload_n 0, 1, zr0),
  (1, 1, none, .invokespecial 3, 3, (zrM 5 0 [1060, 1031, 1032] zh0)),
  (2, 4, none, .aload_n 0, 1, zr0),
  (3, 5, none, .aload_n 1, 1, zr0),
  (4, 6, none, .putfield 9, 3, (zrK (-2) 9 0 4 [1061])),
  (5, 9, none, .return_, 1, zr0)]
theorem ck_WR_sup : zck h_WR_sup k_WR_sup = true := by decide +kernel
theorem ok_WR_sup : zhok h_WR_sup = true := by decide +kernel
def k_LR_sup : List zIns := [
  (0, 0, none, .aload_n 0, 1, zr0),
  (1, 1, none, .invokespecial 3, 3, (zrM 5 0 [1060, 1031, 1032] zh0)),
  (2, 4, none, .aload_n 0, 1, zr0),
  (3, 5, none, .aload_n 1, 1, zr0),
  (4, 6, none, .putfield 9, 3, (zrK (-3) 3 0 4 [1061])),
  (5, 9, none, .return_, 1, zr0)]
theorem ck_LR_sup : zck h_LR_sup k_LR_sup = true := by decide +kernel
theorem ok_LR_sup : zhok h_LR_sup = true := by decide +kernel
def k_WR_sign : List zIns := [
  (0, 0, (some [true]), .aload_n 0, 1, zr0),
  (1, 1, none, .getfield 15, 3, (zrK 0 9 1 0 [1066])),
  (2, 4, none, .aload_n 0, 1, zr0),
  (3, 5, none, .getfield 9, 3, (zrK (-2) 9 0 2 [1061])),
  (4, 8, none, .getfield 19, 3, (zrK 0 6 1 0 [1041])),
  (5, 11, none, .if_icmp .ge 33, 3, (zrT 21)),
  (6, 14, none, .aload_n 0, 1, zr0),
  (7, 15, none, .getfield 9, 3, (zrK (-2) 9 0 2 [1061])),
  (8, 18, none, .getfield 24, 3, (zrK 1 6 0 2 [1040])),
  (9, 21, none, .aload_n 0, 1, zr0),
  (10, 22, none, .getfield 15, 3, (zrK 0 9 1 0 [1066])),
  (11, 25, none, .iaload, 1, zr0),
  (12, 26, none, .bipush 32, 2, zr0),
  (13, 28, none, .if_icmp .ne 16, 3, (zrT 21)),
  (14, 31, none, .aload_n 0, 1, zr0),
  (15, 32, none, .dup, 1, zr0),
  (16, 33, none, .getfield 15, 3, (zrK 0 9 1 0 [1066])),
  (17, 36, none, .iconst 1, 1, zr0),
  (18, 37, none, .iadd, 1, zr0),
  (19, 38, none, .putfield 15, 3, (zrK 0 9 1 0 [1066])),
  (20, 41, none, .goto (-41), 3, (zrT 0)),
  (21, 44, none, .aload_n 0, 1, zr0),
  (22, 45, none, .getfield 15, 3, (zrK 0 9 1 0 [1066])),
  (23, 48, none, .aload_n 0, 1, zr0),
  (24, 49, none, .getfield 9, 3, (zrK (-2) 9 0 2 [1061])),
  (25, 52, none, .getfield 19, 3, (zrK 0 6 1 0 [1041])),
  (26, 55, none, .if_icmp .ge 18, 3, (zrT 34)),
  (27, 58, none, .aload_n 0, 1, zr0),
  (28, 59, none, .getfield 9, 3, (zrK (-2) 9 0 2 [1061])),
  (29, 62, none, .getfield 24, 3, (zrK 1 6 0 2 [1040])),
  (30, 65, none, .aload_n 0, 1, zr0),
  (31, 66, none, .getfield 15, 3, (zrK 0 9 1 0 [1066])),
  (32, 69, none, .iaload, 1, zr0),
  (33, 70, none, .goto 4, 3, (zrT 35)),
  (34, 73, none, .iconst (-1), 1, zr0),
  (35, 74, none, .ireturn, 1, zr0)]
theorem ck_WR_sign : zck h_WR_sign k_WR_sign = true := by decide +kernel
theorem ok_WR_sign : zhok h_WR_sign = true := by decide +kernel
def k_LR_sign : List zIns := [
  (0, 0, (some [true]), .aload_n 0, 1, zr0),
  (1, 1, none, .getfield 15, 3, (zrK 0 3 1 0 [1066])),
  (2, 4, none, .aload_n 0, 1, zr0),
  (3, 5, none, .getfield 9, 3, (zrK (-3) 3 0 2 [1061])),
  (4, 8, none, .getfield 19, 3, (zrK 0 6 1 0 [1041])),
  (5, 11, none, .if_icmp .ge 33, 3, (zrT 21)),
  (6, 14, none, .aload_n 0, 1, zr0),
  (7, 15, none, .getfield 9, 3, (zrK (-3) 3 0 2 [1061])),
  (8, 18, none, .getfield 24, 3, (zrK 1 6 0 2 [1040])),
  (9, 21, none, .aload_n 0, 1, zr0),
  (10, 22, none, .getfield 15, 3, (zrK 0 3 1 0 [1066])),
  (11, 25, none, .iaload, 1, zr0),
  (12, 26, none, .bipush 32, 2, zr0),
  (13, 28, none, .if_icmp .ne 16, 3, (zrT 21)),
  (14, 31, none, .aload_n 0, 1, zr0),
  (15, 32, none, .dup, 1, zr0),
  (16, 33, none, .getfield 15, 3, (zrK 0 3 1 0 [1066])),
  (17, 36, none, .iconst 1, 1, zr0),
  (18, 37, none, .iadd, 1, zr0),
  (19, 38, none, .putfield 15, 3, (zrK 0 3 1 0 [1066])),
  (20, 41, none, .goto (-41), 3, (zrT 0)),
  (21, 44, none, .aload_n 0, 1, zr0),
  (22, 45, none, .getfield 15, 3, (zrK 0 3 1 0 [1066])),
  (23, 48, none, .aload_n 0, 1, zr0),
  (24, 49, none, .getfield 9, 3, (zrK (-3) 3 0 2 [1061])),
  (25, 52, none, .getfield 19, 3, (zrK 0 6 1 0 [1041])),
  (26, 55, none, .if_icmp .ge 18, 3, (zrT 34)),
  (27, 58, none, .aload_n 0, 1, zr0),
  (28, 59, none, .getfield 9, 3, (zrK (-3) 3 0 2 [1061])),
  (29, 62, none, .getfield 24, 3, (zrK 1 6 0 2 [1040])),
  (30, 65, none, .aload_n 0, 1, zr0),
  (31, 66, none, .getfield 15, 3, (zrK 0 3 1 0 [1066])),
  (32, 69, none, .iaload, 1, zr0),
  (33, 70, none, .goto 4, 3, (zrT 35)),
  (34, 73, none, .iconst (-1), 1, zr0),
  (35, 74, none, .ireturn, 1, zr0)]
theorem ck_LR_sign : zck h_LR_sign k_LR_sign = true := by decide +kernel
theorem ok_LR_sign : zhok h_LR_sign = true := by decide +kernel
def k_WR_takes : List zIns := [
  (0, 0, none, .aload_n 0, 1, zr0),
  (1, 1, none, .invokevirtual 28, 3, (zrM 1 9 [3005, 7181, 7183, 2177, 1003, 2178] h_WR_sign)),
  (2, 4, none, .iload_n 1, 1, zr0),
  (3, 5, none, .if_icmp .eq 5, 3, (zrT 6)),
  (4, 8, none, .iconst 0, 1, zr0),
  (5, 9, none, .ireturn, 1, zr0),
  (6, 10, none, .aload_n 0, 1, zr0),
  (7, 11, none, .dup, 1, zr0),
  (8, 12, none, .getfield 15, 3, (zrK 0 9 1 0 [1066])),
  (9, 15, none, .iconst 1, 1, zr0),
  (10, 16, none, .iadd, 1, zr0),
  (11, 17, none, .putfield 15, 3, (zrK 0 9 1 0 [1066])),
  (12, 20, none, .iconst 1, 1, zr0),
  (13, 21, none, .ireturn, 1, zr0)]
theorem ck_WR_takes : zck h_WR_takes k_WR_takes = true := by decide +kernel
theorem ok_WR_takes : zhok h_WR_takes = true := by decide +kernel
def k_LR_takes : List zIns := [
  (0, 0, none, .aload_n 0, 1, zr0),
  (1, 1, none, .invokevirtual 28, 3, (zrM 1 3 [3005, 7181, 7182, 2177, 1003, 2178] h_LR_sign)),
  (2, 4, none, .iload_n 1, 1, zr0),
  (3, 5, none, .if_icmp .eq 5, 3, (zrT 6)),
  (4, 8, none, .iconst 0, 1, zr0),
  (5, 9, none, .ireturn, 1, zr0),
  (6, 10, none, .aload_n 0, 1, zr0),
  (7, 11, none, .dup, 1, zr0),
  (8, 12, none, .getfield 15, 3, (zrK 0 3 1 0 [1066])),
  (9, 15, none, .iconst 1, 1, zr0),
  (10, 16, none, .iadd, 1, zr0),
  (11, 17, none, .putfield 15, 3, (zrK 0 3 1 0 [1066])),
  (12, 20, none, .iconst 1, 1, zr0),
  (13, 21, none, .ireturn, 1, zr0)]
theorem ck_LR_takes : zck h_LR_takes k_LR_takes = true := by decide +kernel
theorem ok_LR_takes : zhok h_LR_takes = true := by decide +kernel
def k_WR_digits : List zIns := [
  (0, 0, none, .iconst 0, 1, zr0),
  (1, 1, none, .istore_n 2, 1, zr0),
  (2, 2, none, .iconst 0, 1, zr0),
  (3, 3, none, .istore_n 3, 1, zr0),
  (4, 4, none, .aload_n 0, 1, zr0),
  (5, 5, none, .invokevirtual 28, 3, (zrM 1 9 [3005, 7181, 7183, 2177, 1003, 2178] h_WR_sign)),
  (6, 8, none, .pop, 1, zr0),
  (7, 9, (some [true, true, true, true]), .aload_n 0, 1, zr0),
  (8, 10, none, .getfield 15, 3, (zrK 0 9 1 0 [1066])),
  (9, 13, none, .aload_n 0, 1, zr0),
  (10, 14, none, .getfield 9, 3, (zrK (-2) 9 0 2 [1061])),
  (11, 17, none, .getfield 19, 3, (zrK 0 6 1 0 [1041])),
  (12, 20, none, .if_icmp .ge 81, 3, (zrT 55)),
  (13, 23, none, .aload_n 0, 1, zr0),
  (14, 24, none, .getfield 9, 3, (zrK (-2) 9 0 2 [1061])),
  (15, 27, none, .getfield 24, 3, (zrK 1 6 0 2 [1040])),
  (16, 30, none, .aload_n 0, 1, zr0),
  (17, 31, none, .getfield 15, 3, (zrK 0 9 1 0 [1066])),
  (18, 34, none, .iaload, 1, zr0),
  (19, 35, none, .bipush 48, 2, zr0),
  (20, 37, none, .if_icmp .lt 64, 3, (zrT 55)),
  (21, 40, none, .aload_n 0, 1, zr0),
  (22, 41, none, .getfield 9, 3, (zrK (-2) 9 0 2 [1061])),
  (23, 44, none, .getfield 24, 3, (zrK 1 6 0 2 [1040])),
  (24, 47, none, .aload_n 0, 1, zr0),
  (25, 48, none, .getfield 15, 3, (zrK 0 9 1 0 [1066])),
  (26, 51, none, .iaload, 1, zr0),
  (27, 52, none, .bipush 57, 2, zr0),
  (28, 54, none, .if_icmp .gt 47, 3, (zrT 55)),
  (29, 57, none, .iload_n 3, 1, zr0),
  (30, 58, none, .iload_n 1, 1, zr0),
  (31, 59, none, .if_icmp .ne 5, 3, (zrT 34)),
  (32, 62, none, .iconst (-1), 1, zr0),
  (33, 63, none, .ireturn, 1, zr0),
  (34, 64, none, .iload_n 2, 1, zr0),
  (35, 65, none, .bipush 10, 2, zr0),
  (36, 67, none, .imul, 1, zr0),
  (37, 68, none, .aload_n 0, 1, zr0),
  (38, 69, none, .getfield 9, 3, (zrK (-2) 9 0 2 [1061])),
  (39, 72, none, .getfield 24, 3, (zrK 1 6 0 2 [1040])),
  (40, 75, none, .aload_n 0, 1, zr0),
  (41, 76, none, .getfield 15, 3, (zrK 0 9 1 0 [1066])),
  (42, 79, none, .iaload, 1, zr0),
  (43, 80, none, .iadd, 1, zr0),
  (44, 81, none, .bipush 48, 2, zr0),
  (45, 83, none, .isub, 1, zr0),
  (46, 84, none, .istore_n 2, 1, zr0),
  (47, 85, none, .iinc 3 1, 3, zr0),
  (48, 88, none, .aload_n 0, 1, zr0),
  (49, 89, none, .dup, 1, zr0),
  (50, 90, none, .getfield 15, 3, (zrK 0 9 1 0 [1066])),
  (51, 93, none, .iconst 1, 1, zr0),
  (52, 94, none, .iadd, 1, zr0),
  (53, 95, none, .putfield 15, 3, (zrK 0 9 1 0 [1066])),
  (54, 98, none, .goto (-89), 3, (zrT 7)),
  (55, 101, none, .iload_n 3, 1, zr0),
  (56, 102, none, .ifCond .ne 7, 3, (zrT 59)),
  (57, 105, none, .iconst (-1), 1, zr0),
  (58, 106, none, .goto 4, 3, (zrT 60)),
  (59, 109, none, .iload_n 2, 1, zr0),
  (60, 110, none, .ireturn, 1, zr0)]
theorem ck_WR_digits : zck h_WR_digits k_WR_digits = true := by decide +kernel
theorem ok_WR_digits : zhok h_WR_digits = true := by decide +kernel
def k_LR_digits : List zIns := [
  (0, 0, none, .iconst 0, 1, zr0),
  (1, 1, none, .istore_n 2, 1, zr0),
  (2, 2, none, .iconst 0, 1, zr0),
  (3, 3, none, .istore_n 3, 1, zr0),
  (4, 4, none, .aload_n 0, 1, zr0),
  (5, 5, none, .invokevirtual 28, 3, (zrM 1 3 [3005, 7181, 7182, 2177, 1003, 2178] h_LR_sign)),
  (6, 8, none, .pop, 1, zr0),
  (7, 9, (some [true, true, true, true]), .aload_n 0, 1, zr0),
  (8, 10, none, .getfield 15, 3, (zrK 0 3 1 0 [1066])),
  (9, 13, none, .aload_n 0, 1, zr0),
  (10, 14, none, .getfield 9, 3, (zrK (-3) 3 0 2 [1061])),
  (11, 17, none, .getfield 19, 3, (zrK 0 6 1 0 [1041])),
  (12, 20, none, .if_icmp .ge 81, 3, (zrT 55)),
  (13, 23, none, .aload_n 0, 1, zr0),
  (14, 24, none, .getfield 9, 3, (zrK (-3) 3 0 2 [1061])),
  (15, 27, none, .getfield 24, 3, (zrK 1 6 0 2 [1040])),
  (16, 30, none, .aload_n 0, 1, zr0),
  (17, 31, none, .getfield 15, 3, (zrK 0 3 1 0 [1066])),
  (18, 34, none, .iaload, 1, zr0),
  (19, 35, none, .bipush 48, 2, zr0),
  (20, 37, none, .if_icmp .lt 64, 3, (zrT 55)),
  (21, 40, none, .aload_n 0, 1, zr0),
  (22, 41, none, .getfield 9, 3, (zrK (-3) 3 0 2 [1061])),
  (23, 44, none, .getfield 24, 3, (zrK 1 6 0 2 [1040])),
  (24, 47, none, .aload_n 0, 1, zr0),
  (25, 48, none, .getfield 15, 3, (zrK 0 3 1 0 [1066])),
  (26, 51, none, .iaload, 1, zr0),
  (27, 52, none, .bipush 57, 2, zr0),
  (28, 54, none, .if_icmp .gt 47, 3, (zrT 55)),
  (29, 57, none, .iload_n 3, 1, zr0),
  (30, 58, none, .iload_n 1, 1, zr0),
  (31, 59, none, .if_icmp .ne 5, 3, (zrT 34)),
  (32, 62, none, .iconst (-1), 1, zr0),
  (33, 63, none, .ireturn, 1, zr0),
  (34, 64, none, .iload_n 2, 1, zr0),
  (35, 65, none, .bipush 10, 2, zr0),
  (36, 67, none, .imul, 1, zr0),
  (37, 68, none, .aload_n 0, 1, zr0),
  (38, 69, none, .getfield 9, 3, (zrK (-3) 3 0 2 [1061])),
  (39, 72, none, .getfield 24, 3, (zrK 1 6 0 2 [1040])),
  (40, 75, none, .aload_n 0, 1, zr0),
  (41, 76, none, .getfield 15, 3, (zrK 0 3 1 0 [1066])),
  (42, 79, none, .iaload, 1, zr0),
  (43, 80, none, .iadd, 1, zr0),
  (44, 81, none, .bipush 48, 2, zr0),
  (45, 83, none, .isub, 1, zr0),
  (46, 84, none, .istore_n 2, 1, zr0),
  (47, 85, none, .iinc 3 1, 3, zr0),
  (48, 88, none, .aload_n 0, 1, zr0),
  (49, 89, none, .dup, 1, zr0),
  (50, 90, none, .getfield 15, 3, (zrK 0 3 1 0 [1066])),
  (51, 93, none, .iconst 1, 1, zr0),
  (52, 94, none, .iadd, 1, zr0),
  (53, 95, none, .putfield 15, 3, (zrK 0 3 1 0 [1066])),
  (54, 98, none, .goto (-89), 3, (zrT 7)),
  (55, 101, none, .iload_n 3, 1, zr0),
  (56, 102, none, .ifCond .ne 7, 3, (zrT 59)),
  (57, 105, none, .iconst (-1), 1, zr0),
  (58, 106, none, .goto 4, 3, (zrT 60)),
  (59, 109, none, .iload_n 2, 1, zr0),
  (60, 110, none, .ireturn, 1, zr0)]
theorem ck_LR_digits : zck h_LR_digits k_LR_digits = true := by decide +kernel
theorem ok_LR_digits : zhok h_LR_digits = true := by decide +kernel
def k_Ki_init_0 : List zIns := [
  (0, 0, none, .aload_n 0, 1, zr0),
  (1, 1, none, .invokespecial 3, 3, (zrM 5 0 [2002, 1031, 1032] zh0)),
  (2, 4, none, .aload_n 0, 1, zr0),
  (3, 5, none, .iload_n 1, 1, zr0),
  (4, 6, none, .putfield 9, 3, (zrK 0 1 0 3 [2003])),
  (5, 9, none, .aload_n 0, 1, zr0),
  (6, 10, none, .aload_n 2, 1, zr0),
  (7, 11, none, .putfield 15, 3, (zrK 0 1 1 4 [2004])),
  (8, 14, none, .aload_n 0, 1, zr0),
  (9, 15, none, .aload_n 3, 1, zr0),
  (10, 16, none, .putfield 19, 3, (zrK 0 1 2 4 [2005])),
  (11, 19, none, .aload_n 0, 1, zr0),
  (12, 20, none, .aload 4, 2, zr0),
  (13, 22, none, .putfield 23, 3, (zrK 0 1 3 4 [2006])),
  (14, 25, none, .aload_n 0, 1, zr0),
  (15, 26, none, .aload 5, 2, zr0),
  (16, 28, none, .putfield 26, 3, (zrK 0 1 4 4 [2007])),
  (17, 31, none, .aload_n 0, 1, zr0),
  (18, 32, none, .iload_n 1, 1, zr0),
  (19, 33, none, .aload 5, 2, zr0),
  (20, 35, none, .arraylength, 1, (zrF 0 0 1 [])),
  (21, 36, none, .imul, 1, zr0),
  (22, 37, none, .newarray .int, 2, (zrF 20 0 0 [1051])),
  (23, 39, none, .putfield 29, 3, (zrK 1 1 5 4 [2008])),
  (24, 42, none, .return_, 1, zr0)]
theorem ck_Ki_init_0 : zck h_Ki_init_0 k_Ki_init_0 = true := by decide +kernel
theorem ok_Ki_init_0 : zhok h_Ki_init_0 = true := by decide +kernel
def k_Ki_init_1 : List zIns := [
  (0, 0, none, .aload_n 0, 1, zr0),
  (1, 1, none, .invokespecial 3, 3, (zrM 5 0 [2002, 1031, 1032] zh0)),
  (2, 4, none, .aload_n 0, 1, zr0),
  (3, 5, none, .iload_n 1, 1, zr0),
  (4, 6, none, .putfield 9, 3, (zrK 0 1 0 3 [2003])),
  (5, 9, none, .aload_n 0, 1, zr0),
  (6, 10, none, .aload_n 2, 1, zr0),
  (7, 11, none, .putfield 15, 3, (zrK 0 1 1 4 [2004])),
  (8, 14, none, .aload_n 0, 1, zr0),
  (9, 15, none, .aload_n 3, 1, zr0),
  (10, 16, none, .putfield 19, 3, (zrK 0 1 2 4 [2005])),
  (11, 19, none, .aload_n 0, 1, zr0),
  (12, 20, none, .aload 4, 2, zr0),
  (13, 22, none, .putfield 23, 3, (zrK 0 1 3 4 [2006])),
  (14, 25, none, .aload_n 0, 1, zr0),
  (15, 26, none, .aload 5, 2, zr0),
  (16, 28, none, .putfield 26, 3, (zrK 0 1 4 4 [2007])),
  (17, 31, none, .aload_n 0, 1, zr0),
  (18, 32, none, .iload_n 1, 1, zr0),
  (19, 33, none, .aload 5, 2, zr0),
  (20, 35, none, .arraylength, 1, (zrF 0 0 1 [])),
  (21, 36, none, .imul, 1, zr0),
  (22, 37, none, .newarray .int, 2, (zrF 20 0 0 [1051])),
  (23, 39, none, .putfield 29, 3, (zrK 1 1 5 4 [2008])),
  (24, 42, none, .return_, 1, zr0)]
theorem ck_Ki_init_1 : zck h_Ki_init_1 k_Ki_init_1 = true := by decide +kernel
theorem ok_Ki_init_1 : zhok h_Ki_init_1 = true := by decide +kernel
def k_Ki_init_2 : List zIns := [
  (0, 0, none, .aload_n 0, 1, zr0),
  (1, 1, none, .invokespecial 3, 3, (zrM 5 0 [2002, 1031, 1032] zh0)),
  (2, 4, none, .aload_n 0, 1, zr0),
  (3, 5, none, .iload_n 1, 1, zr0),
  (4, 6, none, .putfield 9, 3, (zrK 0 1 0 3 [2003])),
  (5, 9, none, .aload_n 0, 1, zr0),
  (6, 10, none, .aload_n 2, 1, zr0),
  (7, 11, none, .putfield 15, 3, (zrK 0 1 1 4 [2004])),
  (8, 14, none, .aload_n 0, 1, zr0),
  (9, 15, none, .aload_n 3, 1, zr0),
  (10, 16, none, .putfield 19, 3, (zrK 0 1 2 4 [2005])),
  (11, 19, none, .aload_n 0, 1, zr0),
  (12, 20, none, .aload 4, 2, zr0),
  (13, 22, none, .putfield 23, 3, (zrK 0 1 3 4 [2006])),
  (14, 25, none, .aload_n 0, 1, zr0),
  (15, 26, none, .aload 5, 2, zr0),
  (16, 28, none, .putfield 26, 3, (zrK 0 1 4 4 [2007])),
  (17, 31, none, .aload_n 0, 1, zr0),
  (18, 32, none, .iload_n 1, 1, zr0),
  (19, 33, none, .aload 5, 2, zr0),
  (20, 35, none, .arraylength, 1, (zrF 0 0 1 [])),
  (21, 36, none, .imul, 1, zr0),
  (22, 37, none, .newarray .int, 2, (zrF 20 0 0 [1051])),
  (23, 39, none, .putfield 29, 3, (zrK 1 1 5 4 [2008])),
  (24, 42, none, .return_, 1, zr0)]
theorem ck_Ki_init_2 : zck h_Ki_init_2 k_Ki_init_2 = true := by decide +kernel
theorem ok_Ki_init_2 : zhok h_Ki_init_2 = true := by decide +kernel
def k_Ki_has : List zIns := [
  (0, 0, none, .iload_n 1, 1, zr0),
  (1, 1, none, .ifCond .lt 15, 3, (zrT 8)),
  (2, 4, none, .iload_n 1, 1, zr0),
  (3, 5, none, .aload_n 0, 1, zr0),
  (4, 6, none, .getfield 32, 3, (zrK 0 1 6 0 [2010])),
  (5, 9, none, .if_icmp .ge 7, 3, (zrT 8)),
  (6, 12, none, .iconst 1, 1, zr0),
  (7, 13, none, .goto 4, 3, (zrT 9)),
  (8, 16, none, .iconst 0, 1, zr0),
  (9, 17, none, .ireturn, 1, zr0)]
theorem ck_Ki_has : zck h_Ki_has k_Ki_has = true := by decide +kernel
theorem ok_Ki_has : zhok h_Ki_has = true := by decide +kernel
def k_Ki_number : List zIns := [
  (0, 0, none, .iload_n 1, 1, zr0),
  (1, 1, none, .ifCond .lt 24, 3, (zrT 13)),
  (2, 4, none, .iload_n 1, 1, zr0),
  (3, 5, none, .aload_n 0, 1, zr0),
  (4, 6, none, .getfield 32, 3, (zrK 0 1 6 0 [2010])),
  (5, 9, none, .if_icmp .ge 16, 3, (zrT 13)),
  (6, 12, none, .iload_n 2, 1, zr0),
  (7, 13, none, .ifCond .lt 12, 3, (zrT 13)),
  (8, 16, none, .iload_n 2, 1, zr0),
  (9, 17, none, .aload_n 0, 1, zr0),
  (10, 18, none, .getfield 26, 3, (zrK 0 1 4 3 [2007])),
  (11, 21, none, .arraylength, 1, (zrF 0 0 1 [])),
  (12, 22, none, .if_icmp .lt 5, 3, (zrT 15)),
  (13, 25, none, .iconst (-1), 1, zr0),
  (14, 26, none, .ireturn, 1, zr0),
  (15, 27, none, .aload_n 0, 1, zr0),
  (16, 28, none, .getfield 29, 3, (zrK 1 1 5 2 [2008])),
  (17, 31, none, .iload_n 1, 1, zr0),
  (18, 32, none, .aload_n 0, 1, zr0),
  (19, 33, none, .getfield 26, 3, (zrK 0 1 4 3 [2007])),
  (20, 36, none, .arraylength, 1, (zrF 0 0 1 [])),
  (21, 37, none, .imul, 1, zr0),
  (22, 38, none, .iload_n 2, 1, zr0),
  (23, 39, none, .iadd, 1, zr0),
  (24, 40, none, .iaload, 1, zr0),
  (25, 41, none, .ireturn, 1, zr0)]
theorem ck_Ki_number : zck h_Ki_number k_Ki_number = true := by decide +kernel
theorem ok_Ki_number : zhok h_Ki_number = true := by decide +kernel
def k_Ki_addsOne : List zIns := [
  (0, 0, none, .aload_n 0, 1, zr0),
  (1, 1, none, .getfield 32, 3, (zrK 0 1 6 0 [2010])),
  (2, 4, none, .aload_n 0, 1, zr0),
  (3, 5, none, .getfield 9, 3, (zrK 0 1 0 3 [2003])),
  (4, 8, none, .if_icmp .ne 5, 3, (zrT 7)),
  (5, 11, none, .iconst 0, 1, zr0),
  (6, 12, none, .ireturn, 1, zr0),
  (7, 13, none, .iconst 0, 1, zr0),
  (8, 14, none, .istore_n 1, 1, zr0),
  (9, 15, (some [true, true]), .iload_n 1, 1, zr0),
  (10, 16, none, .aload_n 0, 1, zr0),
  (11, 17, none, .getfield 26, 3, (zrK 0 1 4 3 [2007])),
  (12, 20, none, .arraylength, 1, (zrF 0 0 1 [])),
  (13, 21, none, .if_icmp .ge 32, 3, (zrT 31)),
  (14, 24, none, .aload_n 0, 1, zr0),
  (15, 25, none, .getfield 29, 3, (zrK 1 1 5 2 [2008])),
  (16, 28, none, .aload_n 0, 1, zr0),
  (17, 29, none, .getfield 32, 3, (zrK 0 1 6 0 [2010])),
  (18, 32, none, .aload_n 0, 1, zr0),
  (19, 33, none, .getfield 26, 3, (zrK 0 1 4 3 [2007])),
  (20, 36, none, .arraylength, 1, (zrF 0 0 1 [])),
  (21, 37, none, .imul, 1, zr0),
  (22, 38, none, .iload_n 1, 1, zr0),
  (23, 39, none, .iadd, 1, zr0),
  (24, 40, none, .aload_n 0, 1, zr0),
  (25, 41, none, .getfield 26, 3, (zrK 0 1 4 3 [2007])),
  (26, 44, none, .iload_n 1, 1, zr0),
  (27, 45, none, .iaload, 1, (zrF 0 0 1 [])),
  (28, 46, none, .iastore, 1, zr0),
  (29, 47, none, .iinc 1 1, 3, zr0),
  (30, 50, none, .goto (-35), 3, (zrT 9)),
  (31, 53, none, .aload_n 0, 1, zr0),
  (32, 54, none, .dup, 1, zr0),
  (33, 55, none, .getfield 32, 3, (zrK 0 1 6 0 [2010])),
  (34, 58, none, .iconst 1, 1, zr0),
  (35, 59, none, .iadd, 1, zr0),
  (36, 60, none, .putfield 32, 3, (zrK 0 1 6 0 [2010])),
  (37, 63, none, .iconst 1, 1, zr0),
  (38, 64, none, .ireturn, 1, zr0)]
theorem ck_Ki_addsOne : zck h_Ki_addsOne k_Ki_addsOne = true := by decide +kernel
theorem ok_Ki_addsOne : zhok h_Ki_addsOne = true := by decide +kernel
def k_Ki_itemOf : List zIns := [
  (0, 0, none, .iconst 0, 1, zr0),
  (1, 1, none, .istore_n 2, 1, zr0),
  (2, 2, (some [true, true, true]), .iload_n 2, 1, zr0),
  (3, 3, none, .aload_n 0, 1, zr0),
  (4, 4, none, .getfield 15, 3, (zrK 0 1 1 3 [2004])),
  (5, 7, none, .invokevirtual 35, 3, (zrM 0 26 [2191, 2192, 2193, 1014, 2194] h_Str_length)),
  (6, 10, none, .if_icmp .ge 23, 3, (zrT 17)),
  (7, 13, none, .aload_n 0, 1, zr0),
  (8, 14, none, .getfield 15, 3, (zrK 0 1 1 3 [2004])),
  (9, 17, none, .iload_n 2, 1, zr0),
  (10, 18, none, .invokevirtual 41, 3, (zrM 0 26 [2201, 2202, 2203, 1014, 2204] h_Str_charAt)),
  (11, 21, none, .iload_n 1, 1, zr0),
  (12, 22, none, .if_icmp .ne 5, 3, (zrT 15)),
  (13, 25, none, .iload_n 2, 1, zr0),
  (14, 26, none, .ireturn, 1, zr0),
  (15, 27, none, .iinc 2 1, 3, zr0),
  (16, 30, none, .goto (-28), 3, (zrT 2)),
  (17, 33, none, .iconst (-1), 1, zr0),
  (18, 34, none, .ireturn, 1, zr0)]
theorem ck_Ki_itemOf : zck h_Ki_itemOf k_Ki_itemOf = true := by decide +kernel
theorem ok_Ki_itemOf : zhok h_Ki_itemOf = true := by decide +kernel
def k_Ki_tells : List zIns := [
  (0, 0, none, .aload_n 0, 1, zr0),
  (1, 1, none, .getfield 32, 3, (zrK 0 1 6 0 [2010])),
  (2, 4, none, .ifCond .eq 36, 3, (zrT 22)),
  (3, 7, none, .iload_n 1, 1, zr0),
  (4, 8, none, .ifCond .lt 32, 3, (zrT 22)),
  (5, 11, none, .iload_n 1, 1, zr0),
  (6, 12, none, .aload_n 0, 1, zr0),
  (7, 13, none, .getfield 26, 3, (zrK 0 1 4 3 [2007])),
  (8, 16, none, .arraylength, 1, (zrF 0 0 1 [])),
  (9, 17, none, .if_icmp .ge 23, 3, (zrT 22)),
  (10, 20, none, .iload_n 2, 1, zr0),
  (11, 21, none, .aload_n 0, 1, zr0),
  (12, 22, none, .getfield 19, 3, (zrK 0 1 2 3 [2005])),
  (13, 25, none, .iload_n 1, 1, zr0),
  (14, 26, none, .iaload, 1, (zrF 0 0 1 [])),
  (15, 27, none, .if_icmp .lt 13, 3, (zrT 22)),
  (16, 30, none, .iload_n 2, 1, zr0),
  (17, 31, none, .aload_n 0, 1, zr0),
  (18, 32, none, .getfield 23, 3, (zrK 0 1 3 3 [2006])),
  (19, 35, none, .iload_n 1, 1, zr0),
  (20, 36, none, .iaload, 1, (zrF 0 0 1 [])),
  (21, 37, none, .if_icmp .le 5, 3, (zrT 24)),
  (22, 40, none, .iconst 0, 1, zr0),
  (23, 41, none, .ireturn, 1, zr0),
  (24, 42, none, .aload_n 0, 1, zr0),
  (25, 43, none, .getfield 29, 3, (zrK 1 1 5 2 [2008])),
  (26, 46, none, .aload_n 0, 1, zr0),
  (27, 47, none, .getfield 32, 3, (zrK 0 1 6 0 [2010])),
  (28, 50, none, .iconst 1, 1, zr0),
  (29, 51, none, .isub, 1, zr0),
  (30, 52, none, .aload_n 0, 1, zr0),
  (31, 53, none, .getfield 26, 3, (zrK 0 1 4 3 [2007])),
  (32, 56, none, .arraylength, 1, (zrF 0 0 1 [])),
  (33, 57, none, .imul, 1, zr0),
  (34, 58, none, .iload_n 1, 1, zr0),
  (35, 59, none, .iadd, 1, zr0),
  (36, 60, none, .iload_n 2, 1, zr0),
  (37, 61, none, .iastore, 1, zr0),
  (38, 62, none, .iconst 1, 1, zr0),
  (39, 63, none, .ireturn, 1, zr0)]
theorem ck_Ki_tells : zck h_Ki_tells k_Ki_tells = true := by decide +kernel
theorem ok_Ki_tells : zhok h_Ki_tells = true := by decide +kernel
def k_Wa_init : List zIns := [
  (0, 0, none, .aload_n 0, 1, zr0),
  (1, 1, none, .invokespecial 3, 3, (zrM 5 0 [1229, 1031, 1032] zh0)),
  (2, 4, none, .aload_n 0, 1, zr0),
  (3, 5, none, .new 9, 3, (zrF 1 0 0 [1230, 1231, 1012])),
  (4, 8, none, .dup, 1, zr0),
  (5, 9, none, .iconst 4, 1, zr0),
  (6, 10, none, .ldc 11, 2, (zrK (-11) 0 0 1 [])),
  (7, 12, none, .getstatic 13, 3, (zrK (-2) 0 0 0 [1233])),
  (8, 15, none, .getstatic 19, 3, (zrK (-3) 0 1 0 [1235])),
  (9, 18, none, .getstatic 22, 3, (zrK (-4) 0 2 0 [1237])),
  (10, 21, none, .invokespecial 25, 3, (zrM 3 0 [1239, 1012, 2000, 2001] h_Ki_init_0)),
  (11, 24, none, .putfield 28, 3, (zrK 1 8 0 4 [2043])),
  (12, 27, none, .aload_n 0, 1, zr0),
  (13, 28, none, .new 9, 3, (zrF 1 0 0 [1230, 1231, 1012])),
  (14, 31, none, .dup, 1, zr0),
  (15, 32, none, .iconst 3, 1, zr0),
  (16, 33, none, .ldc 32, 2, (zrK (-12) 0 0 1 [])),
  (17, 35, none, .getstatic 34, 3, (zrK (-5) 0 3 0 [2030])),
  (18, 38, none, .getstatic 37, 3, (zrK (-6) 0 4 0 [2032])),
  (19, 41, none, .getstatic 40, 3, (zrK (-7) 0 5 0 [2034])),
  (20, 44, none, .invokespecial 25, 3, (zrM 3 0 [1239, 1012, 2000, 2001] h_Ki_init_1)),
  (21, 47, none, .putfield 43, 3, (zrK 3 8 1 4 [2047])),
  (22, 50, none, .aload_n 0, 1, zr0),
  (23, 51, none, .new 9, 3, (zrF 1 0 0 [1230, 1231, 1012])),
  (24, 54, none, .dup, 1, zr0),
  (25, 55, none, .iconst 5, 1, zr0),
  (26, 56, none, .ldc 46, 2, (zrK (-13) 0 0 1 [])),
  (27, 58, none, .getstatic 48, 3, (zrK (-8) 0 6 0 [2037])),
  (28, 61, none, .getstatic 51, 3, (zrK (-9) 0 7 0 [2039])),
  (29, 64, none, .getstatic 54, 3, (zrK (-10) 0 8 0 [2041])),
  (30, 67, none, .invokespecial 25, 3, (zrM 3 0 [1239, 1012, 2000, 2001] h_Ki_init_2)),
  (31, 70, none, .putfield 57, 3, (zrK 5 8 2 4 [2051])),
  (32, 73, none, .aload_n 0, 1, zr0),
  (33, 74, none, .bipush 24, 2, zr0),
  (34, 76, none, .newarray .int, 2, (zrF 20 0 0 [1051])),
  (35, 78, none, .putfield 60, 3, (zrK 7 8 3 4 [2054])),
  (36, 81, none, .aload_n 0, 1, zr0),
  (37, 82, none, .iconst 4, 1, zr0),
  (38, 83, none, .newarray .int, 2, (zrF 20 0 0 [1051])),
  (39, 85, none, .putfield 63, 3, (zrK 8 8 4 4 [2056])),
  (40, 88, none, .aload_n 0, 1, zr0),
  (41, 89, none, .bipush 24, 2, zr0),
  (42, 91, none, .newarray .int, 2, (zrF 20 0 0 [1051])),
  (43, 93, none, .putfield 66, 3, (zrK 9 8 5 4 [2058])),
  (44, 96, none, .aload_n 0, 1, zr0),
  (45, 97, none, .bipush 24, 2, zr0),
  (46, 99, none, .newarray .int, 2, (zrF 20 0 0 [1051])),
  (47, 101, none, .putfield 69, 3, (zrK 10 8 6 4 [2061])),
  (48, 104, none, .aload_n 0, 1, zr0),
  (49, 105, none, .bipush 24, 2, zr0),
  (50, 107, none, .newarray .int, 2, (zrF 20 0 0 [1051])),
  (51, 109, none, .putfield 72, 3, (zrK 11 8 7 4 [2064])),
  (52, 112, none, .aload_n 0, 1, zr0),
  (53, 113, none, .bipush 96, 2, zr0),
  (54, 115, none, .newarray .int, 2, (zrF 20 0 0 [1051])),
  (55, 117, none, .putfield 75, 3, (zrK 12 8 8 4 [2066])),
  (56, 120, none, .return_, 1, zr0)]
theorem ck_Wa_init : zck h_Wa_init k_Wa_init = true := by decide +kernel
theorem ok_Wa_init : zhok h_Wa_init = true := by decide +kernel
def k_Wa_clear : List zIns := [
  (0, 0, none, .aload_n 0, 1, zr0),
  (1, 1, none, .getfield 28, 3, (zrK 1 8 0 2 [2043])),
  (2, 4, none, .iconst 0, 1, zr0),
  (3, 5, none, .putfield 78, 3, (zrK 0 1 6 0 [2009])),
  (4, 8, none, .aload_n 0, 1, zr0),
  (5, 9, none, .getfield 43, 3, (zrK 3 8 1 2 [2047])),
  (6, 12, none, .iconst 0, 1, zr0),
  (7, 13, none, .putfield 78, 3, (zrK 0 1 6 0 [2009])),
  (8, 16, none, .aload_n 0, 1, zr0),
  (9, 17, none, .getfield 57, 3, (zrK 5 8 2 2 [2051])),
  (10, 20, none, .iconst 0, 1, zr0),
  (11, 21, none, .putfield 78, 3, (zrK 0 1 6 0 [2009])),
  (12, 24, none, .aload_n 0, 1, zr0),
  (13, 25, none, .iconst 0, 1, zr0),
  (14, 26, none, .putfield 82, 3, (zrK 0 8 9 0 [2068])),
  (15, 29, none, .aload_n 0, 1, zr0),
  (16, 30, none, .iconst 0, 1, zr0),
  (17, 31, none, .putfield 85, 3, (zrK 0 8 10 0 [2071])),
  (18, 34, none, .aload_n 0, 1, zr0),
  (19, 35, none, .iconst 0, 1, zr0),
  (20, 36, none, .putfield 88, 3, (zrK 0 8 11 0 [2075])),
  (21, 39, none, .return_, 1, zr0)]
theorem ck_Wa_clear : zck h_Wa_clear k_Wa_clear = true := by decide +kernel
theorem ok_Wa_clear : zhok h_Wa_clear = true := by decide +kernel
def k_Wa_stands : List zIns := [
  (0, 0, none, .aload_n 0, 1, zr0),
  (1, 1, none, .getfield 28, 3, (zrK 1 8 0 2 [2043])),
  (2, 4, none, .getfield 78, 3, (zrK 0 1 6 0 [2009])),
  (3, 7, none, .ifCond .eq 10, 3, (zrT 7)),
  (4, 10, none, .aload_n 0, 1, zr0),
  (5, 11, none, .getfield 82, 3, (zrK 0 8 9 0 [2068])),
  (6, 14, none, .ifCond .ne 5, 3, (zrT 9)),
  (7, 17, none, .iconst 0, 1, zr0),
  (8, 18, none, .ireturn, 1, zr0),
  (9, 19, none, .iconst 0, 1, zr0),
  (10, 20, none, .istore_n 1, 1, zr0),
  (11, 21, (some [true, true, false]), .iload_n 1, 1, zr0),
  (12, 22, none, .aload_n 0, 1, zr0),
  (13, 23, none, .getfield 82, 3, (zrK 0 8 9 0 [2068])),
  (14, 26, none, .if_icmp .ge 67, 3, (zrT 52)),
  (15, 29, none, .aload_n 0, 1, zr0),
  (16, 30, none, .getfield 63, 3, (zrK 8 8 4 2 [2056])),
  (17, 33, none, .iload_n 1, 1, zr0),
  (18, 34, none, .iaload, 1, zr0),
  (19, 35, none, .aload_n 0, 1, zr0),
  (20, 36, none, .getfield 63, 3, (zrK 8 8 4 2 [2056])),
  (21, 39, none, .iconst 0, 1, zr0),
  (22, 40, none, .iaload, 1, zr0),
  (23, 41, none, .if_icmp .eq 5, 3, (zrT 26)),
  (24, 44, none, .iconst 0, 1, zr0),
  (25, 45, none, .ireturn, 1, zr0),
  (26, 46, none, .iconst 0, 1, zr0),
  (27, 47, none, .istore_n 2, 1, zr0),
  (28, 48, (some [true, true, true]), .iload_n 2, 1, zr0),
  (29, 49, none, .aload_n 0, 1, zr0),
  (30, 50, none, .getfield 63, 3, (zrK 8 8 4 2 [2056])),
  (31, 53, none, .iload_n 1, 1, zr0),
  (32, 54, none, .iaload, 1, zr0),
  (33, 55, none, .if_icmp .ge 32, 3, (zrT 50)),
  (34, 58, none, .aload_n 0, 1, zr0),
  (35, 59, none, .getfield 60, 3, (zrK 7 8 3 2 [2054])),
  (36, 62, none, .iload_n 1, 1, zr0),
  (37, 63, none, .bipush 6, 2, zr0),
  (38, 65, none, .imul, 1, zr0),
  (39, 66, none, .iload_n 2, 1, zr0),
  (40, 67, none, .iadd, 1, zr0),
  (41, 68, none, .iaload, 1, zr0),
  (42, 69, none, .aload_n 0, 1, zr0),
  (43, 70, none, .getfield 28, 3, (zrK 1 8 0 2 [2043])),
  (44, 73, none, .getfield 78, 3, (zrK 0 1 6 0 [2009])),
  (45, 76, none, .if_icmp .lt 5, 3, (zrT 48)),
  (46, 79, none, .iconst 0, 1, zr0),
  (47, 80, none, .ireturn, 1, zr0),
  (48, 81, none, .iinc 2 1, 3, zr0),
  (49, 84, none, .goto (-36), 3, (zrT 28)),
  (50, 87, none, .iinc 1 1, 3, zr0),
  (51, 90, none, .goto (-69), 3, (zrT 11)),
  (52, 93, none, .iconst 0, 1, zr0),
  (53, 94, none, .istore_n 1, 1, zr0),
  (54, 95, (some [true, true, false]), .iload_n 1, 1, zr0),
  (55, 96, none, .aload_n 0, 1, zr0),
  (56, 97, none, .getfield 43, 3, (zrK 3 8 1 2 [2047])),
  (57, 100, none, .getfield 78, 3, (zrK 0 1 6 0 [2009])),
  (58, 103, none, .if_icmp .ge 45, 3, (zrT 81)),
  (59, 106, none, .aload_n 0, 1, zr0),
  (60, 107, none, .getfield 43, 3, (zrK 3 8 1 2 [2047])),
  (61, 110, none, .iload_n 1, 1, zr0),
  (62, 111, none, .iconst 0, 1, zr0),
  (63, 112, none, .invokevirtual 91, 3, (zrM 0 1 [3024, 3025, 3026, 1012, 3027] h_Ki_number)),
  (64, 115, none, .aload_n 0, 1, zr0),
  (65, 116, none, .getfield 82, 3, (zrK 0 8 9 0 [2068])),
  (66, 119, none, .if_icmp .ge 21, 3, (zrT 77)),
  (67, 122, none, .aload_n 0, 1, zr0),
  (68, 123, none, .getfield 43, 3, (zrK 3 8 1 2 [2047])),
  (69, 126, none, .iload_n 1, 1, zr0),
  (70, 127, none, .iconst 1, 1, zr0),
  (71, 128, none, .invokevirtual 91, 3, (zrM 0 1 [3024, 3025, 3026, 1012, 3027] h_Ki_number)),
  (72, 131, none, .aload_n 0, 1, zr0),
  (73, 132, none, .getfield 63, 3, (zrK 8 8 4 2 [2056])),
  (74, 135, none, .iconst 0, 1, zr0),
  (75, 136, none, .iaload, 1, zr0),
  (76, 137, none, .if_icmp .lt 5, 3, (zrT 79)),
  (77, 140, none, .iconst 0, 1, zr0),
  (78, 141, none, .ireturn, 1, zr0),
  (79, 142, none, .iinc 1 1, 3, zr0),
  (80, 145, none, .goto (-50), 3, (zrT 54)),
  (81, 148, none, .iconst 1, 1, zr0),
  (82, 149, none, .ireturn, 1, zr0)]
theorem ck_Wa_stands : zck h_Wa_stands k_Wa_stands = true := by decide +kernel
theorem ok_Wa_stands : zhok h_Wa_stands = true := by decide +kernel
def k_Wa_lay : List zIns := [
  (0, 0, none, .aload_n 0, 1, zr0),
  (1, 1, none, .aload_n 0, 1, zr0),
  (2, 2, none, .getfield 63, 3, (zrK 8 8 4 2 [2056])),
  (3, 5, none, .iconst 0, 1, zr0),
  (4, 6, none, .iaload, 1, zr0),
  (5, 7, none, .putfield 85, 3, (zrK 0 8 10 0 [2071])),
  (6, 10, none, .aload_n 0, 1, zr0),
  (7, 11, none, .aload_n 0, 1, zr0),
  (8, 12, none, .getfield 82, 3, (zrK 0 8 9 0 [2068])),
  (9, 15, none, .aload_n 0, 1, zr0),
  (10, 16, none, .getfield 85, 3, (zrK 0 8 10 0 [2071])),
  (11, 19, none, .imul, 1, zr0),
  (12, 20, none, .putfield 88, 3, (zrK 0 8 11 0 [2075])),
  (13, 23, none, .iconst 0, 1, zr0),
  (14, 24, none, .istore_n 1, 1, zr0),
  (15, 25, (some [true, true, false, false]), .iload_n 1, 1, zr0),
  (16, 26, none, .aload_n 0, 1, zr0),
  (17, 27, none, .getfield 82, 3, (zrK 0 8 9 0 [2068])),
  (18, 30, none, .if_icmp .ge 165, 3, (zrT 126)),
  (19, 33, none, .iconst 0, 1, zr0),
  (20, 34, none, .istore_n 2, 1, zr0),
  (21, 35, (some [true, true, true, false]), .iload_n 2, 1, zr0),
  (22, 36, none, .aload_n 0, 1, zr0),
  (23, 37, none, .getfield 85, 3, (zrK 0 8 10 0 [2071])),
  (24, 40, none, .if_icmp .ge 149, 3, (zrT 124)),
  (25, 43, none, .iload_n 1, 1, zr0),
  (26, 44, none, .aload_n 0, 1, zr0),
  (27, 45, none, .getfield 85, 3, (zrK 0 8 10 0 [2071])),
  (28, 48, none, .imul, 1, zr0),
  (29, 49, none, .iload_n 2, 1, zr0),
  (30, 50, none, .iadd, 1, zr0),
  (31, 51, none, .istore_n 3, 1, zr0),
  (32, 52, none, .aload_n 0, 1, zr0),
  (33, 53, none, .getfield 66, 3, (zrK 9 8 5 2 [2058])),
  (34, 56, none, .iload_n 3, 1, zr0),
  (35, 57, none, .iload_n 1, 1, zr0),
  (36, 58, none, .iastore, 1, zr0),
  (37, 59, none, .aload_n 0, 1, zr0),
  (38, 60, none, .getfield 69, 3, (zrK 10 8 6 2 [2061])),
  (39, 63, none, .iload_n 3, 1, zr0),
  (40, 64, none, .iload_n 2, 1, zr0),
  (41, 65, none, .iastore, 1, zr0),
  (42, 66, none, .aload_n 0, 1, zr0),
  (43, 67, none, .getfield 72, 3, (zrK 11 8 7 2 [2064])),
  (44, 70, none, .iload_n 3, 1, zr0),
  (45, 71, none, .aload_n 0, 1, zr0),
  (46, 72, none, .getfield 60, 3, (zrK 7 8 3 2 [2054])),
  (47, 75, none, .iload_n 1, 1, zr0),
  (48, 76, none, .bipush 6, 2, zr0),
  (49, 78, none, .imul, 1, zr0),
  (50, 79, none, .iload_n 2, 1, zr0),
  (51, 80, none, .iadd, 1, zr0),
  (52, 81, none, .iaload, 1, zr0),
  (53, 82, none, .iastore, 1, zr0),
  (54, 83, none, .aload_n 0, 1, zr0),
  (55, 84, none, .getfield 75, 3, (zrK 12 8 8 2 [2066])),
  (56, 87, none, .iload_n 3, 1, zr0),
  (57, 88, none, .iconst 4, 1, zr0),
  (58, 89, none, .imul, 1, zr0),
  (59, 90, none, .iload_n 1, 1, zr0),
  (60, 91, none, .ifCond .le 12, 3, (zrT 66)),
  (61, 94, none, .iload_n 3, 1, zr0),
  (62, 95, none, .aload_n 0, 1, zr0),
  (63, 96, none, .getfield 85, 3, (zrK 0 8 10 0 [2071])),
  (64, 99, none, .isub, 1, zr0),
  (65, 100, none, .goto 4, 3, (zrT 67)),
  (66, 103, none, .iconst (-1), 1, zr0),
  (67, 104, none, .iastore, 1, zr0),
  (68, 105, none, .aload_n 0, 1, zr0),
  (69, 106, none, .getfield 75, 3, (zrK 12 8 8 2 [2066])),
  (70, 109, none, .iload_n 3, 1, zr0),
  (71, 110, none, .iconst 4, 1, zr0),
  (72, 111, none, .imul, 1, zr0),
  (73, 112, none, .iconst 1, 1, zr0),
  (74, 113, none, .iadd, 1, zr0),
  (75, 114, none, .iload_n 1, 1, zr0),
  (76, 115, none, .aload_n 0, 1, zr0),
  (77, 116, none, .getfield 82, 3, (zrK 0 8 9 0 [2068])),
  (78, 119, none, .iconst 1, 1, zr0),
  (79, 120, none, .isub, 1, zr0),
  (80, 121, none, .if_icmp .ge 12, 3, (zrT 86)),
  (81, 124, none, .iload_n 3, 1, zr0),
  (82, 125, none, .aload_n 0, 1, zr0),
  (83, 126, none, .getfield 85, 3, (zrK 0 8 10 0 [2071])),
  (84, 129, none, .iadd, 1, zr0),
  (85, 130, none, .goto 4, 3, (zrT 87)),
  (86, 133, none, .iconst (-1), 1, zr0),
  (87, 134, none, .iastore, 1, zr0),
  (88, 135, none, .aload_n 0, 1, zr0),
  (89, 136, none, .getfield 75, 3, (zrK 12 8 8 2 [2066])),
  (90, 139, none, .iload_n 3, 1, zr0),
  (91, 140, none, .iconst 4, 1, zr0),
  (92, 141, none, .imul, 1, zr0),
  (93, 142, none, .iconst 2, 1, zr0),
  (94, 143, none, .iadd, 1, zr0),
  (95, 144, none, .iload_n 2, 1, zr0),
  (96, 145, none, .ifCond .le 9, 3, (zrT 101)),
  (97, 148, none, .iload_n 3, 1, zr0),
  (98, 149, none, .iconst 1, 1, zr0),
  (99, 150, none, .isub, 1, zr0),
  (100, 151, none, .goto 4, 3, (zrT 102)),
  (101, 154, none, .iconst (-1), 1, zr0),
  (102, 155, none, .iastore, 1, zr0),
  (103, 156, none, .aload_n 0, 1, zr0),
  (104, 157, none, .getfield 75, 3, (zrK 12 8 8 2 [2066])),
  (105, 160, none, .iload_n 3, 1, zr0),
  (106, 161, none, .iconst 4, 1, zr0),
  (107, 162, none, .imul, 1, zr0),
  (108, 163, none, .iconst 3, 1, zr0),
  (109, 164, none, .iadd, 1, zr0),
  (110, 165, none, .iload_n 2, 1, zr0),
  (111, 166, none, .aload_n 0, 1, zr0),
  (112, 167, none, .getfield 85, 3, (zrK 0 8 10 0 [2071])),
  (113, 170, none, .iconst 1, 1, zr0),
  (114, 171, none, .isub, 1, zr0),
  (115, 172, none, .if_icmp .ge 9, 3, (zrT 120)),
  (116, 175, none, .iload_n 3, 1, zr0),
  (117, 176, none, .iconst 1, 1, zr0),
  (118, 177, none, .iadd, 1, zr0),
  (119, 178, none, .goto 4, 3, (zrT 121)),
  (120, 181, none, .iconst (-1), 1, zr0),
  (121, 182, none, .iastore, 1, zr0),
  (122, 183, none, .iinc 2 1, 3, zr0),
  (123, 186, none, .goto (-151), 3, (zrT 21)),
  (124, 189, none, .iinc 1 1, 3, zr0),
  (125, 192, none, .goto (-167), 3, (zrT 15)),
  (126, 195, none, .return_, 1, zr0)]
theorem ck_Wa_lay : zck h_Wa_lay k_Wa_lay = true := by decide +kernel
theorem ok_Wa_lay : zhok h_Wa_lay = true := by decide +kernel
def k_Wa_indexOf : List zIns := [
  (0, 0, none, .iload_n 1, 1, zr0),
  (1, 1, none, .ifCond .lt 25, 3, (zrT 14)),
  (2, 4, none, .iload_n 1, 1, zr0),
  (3, 5, none, .bipush 10, 2, zr0),
  (4, 7, none, .idiv, 1, (zrF 0 0 1 [])),
  (5, 8, none, .aload_n 0, 1, zr0),
  (6, 9, none, .getfield 82, 3, (zrK 0 8 9 0 [2068])),
  (7, 12, none, .if_icmp .ge 14, 3, (zrT 14)),
  (8, 15, none, .iload_n 1, 1, zr0),
  (9, 16, none, .bipush 10, 2, zr0),
  (10, 18, none, .irem, 1, (zrF 0 0 1 [])),
  (11, 19, none, .aload_n 0, 1, zr0),
  (12, 20, none, .getfield 85, 3, (zrK 0 8 10 0 [2071])),
  (13, 23, none, .if_icmp .lt 5, 3, (zrT 16)),
  (14, 26, none, .iconst (-1), 1, zr0),
  (15, 27, none, .ireturn, 1, zr0),
  (16, 28, none, .iload_n 1, 1, zr0),
  (17, 29, none, .bipush 10, 2, zr0),
  (18, 31, none, .idiv, 1, (zrF 0 0 1 [])),
  (19, 32, none, .aload_n 0, 1, zr0),
  (20, 33, none, .getfield 85, 3, (zrK 0 8 10 0 [2071])),
  (21, 36, none, .imul, 1, zr0),
  (22, 37, none, .iload_n 1, 1, zr0),
  (23, 38, none, .bipush 10, 2, zr0),
  (24, 40, none, .irem, 1, (zrF 0 0 1 [])),
  (25, 41, none, .iadd, 1, zr0),
  (26, 42, none, .ireturn, 1, zr0)]
theorem ck_Wa_indexOf : zck h_Wa_indexOf k_Wa_indexOf = true := by decide +kernel
theorem ok_Wa_indexOf : zhok h_Wa_indexOf = true := by decide +kernel
def k_Wa_nameOf : List zIns := [
  (0, 0, none, .iload_n 1, 1, zr0),
  (1, 1, none, .ifCond .lt 11, 3, (zrT 6)),
  (2, 4, none, .iload_n 1, 1, zr0),
  (3, 5, none, .aload_n 0, 1, zr0),
  (4, 6, none, .getfield 88, 3, (zrK 0 8 11 0 [2075])),
  (5, 9, none, .if_icmp .lt 7, 3, (zrT 8)),
  (6, 12, none, .iconst (-1), 1, zr0),
  (7, 13, none, .goto 19, 3, (zrT 19)),
  (8, 16, none, .bipush 10, 2, zr0),
  (9, 18, none, .aload_n 0, 1, zr0),
  (10, 19, none, .getfield 66, 3, (zrK 9 8 5 2 [2058])),
  (11, 22, none, .iload_n 1, 1, zr0),
  (12, 23, none, .iaload, 1, zr0),
  (13, 24, none, .imul, 1, zr0),
  (14, 25, none, .aload_n 0, 1, zr0),
  (15, 26, none, .getfield 69, 3, (zrK 10 8 6 2 [2061])),
  (16, 29, none, .iload_n 1, 1, zr0),
  (17, 30, none, .iaload, 1, zr0),
  (18, 31, none, .iadd, 1, zr0),
  (19, 32, none, .ireturn, 1, zr0)]
theorem ck_Wa_nameOf : zck h_Wa_nameOf k_Wa_nameOf = true := by decide +kernel
theorem ok_Wa_nameOf : zhok h_Wa_nameOf = true := by decide +kernel
def k_Wa_areBeside : List zIns := [
  (0, 0, none, .iload_n 1, 1, zr0),
  (1, 1, none, .ifCond .lt 11, 3, (zrT 6)),
  (2, 4, none, .iload_n 1, 1, zr0),
  (3, 5, none, .aload_n 0, 1, zr0),
  (4, 6, none, .getfield 88, 3, (zrK 0 8 11 0 [2075])),
  (5, 9, none, .if_icmp .lt 5, 3, (zrT 8)),
  (6, 12, none, .iconst 0, 1, zr0),
  (7, 13, none, .ireturn, 1, zr0),
  (8, 14, none, .iconst 0, 1, zr0),
  (9, 15, none, .istore_n 3, 1, zr0),
  (10, 16, (some [true, true, true, true]), .iload_n 3, 1, zr0),
  (11, 17, none, .iconst 4, 1, zr0),
  (12, 18, none, .if_icmp .ge 25, 3, (zrT 27)),
  (13, 21, none, .aload_n 0, 1, zr0),
  (14, 22, none, .getfield 75, 3, (zrK 12 8 8 2 [2066])),
  (15, 25, none, .iload_n 1, 1, zr0),
  (16, 26, none, .iconst 4, 1, zr0),
  (17, 27, none, .imul, 1, zr0),
  (18, 28, none, .iload_n 3, 1, zr0),
  (19, 29, none, .iadd, 1, zr0),
  (20, 30, none, .iaload, 1, zr0),
  (21, 31, none, .iload_n 2, 1, zr0),
  (22, 32, none, .if_icmp .ne 5, 3, (zrT 25)),
  (23, 35, none, .iconst 1, 1, zr0),
  (24, 36, none, .ireturn, 1, zr0),
  (25, 37, none, .iinc 3 1, 3, zr0),
  (26, 40, none, .goto (-24), 3, (zrT 10)),
  (27, 43, none, .iconst 0, 1, zr0),
  (28, 44, none, .ireturn, 1, zr0)]
theorem ck_Wa_areBeside : zck h_Wa_areBeside k_Wa_areBeside = true := by decide +kernel
theorem ok_Wa_areBeside : zhok h_Wa_areBeside = true := by decide +kernel
def k_WR_init : List zIns := [
  (0, 0, none, .aload_n 0, 1, zr0),
  (1, 1, none, .aload_n 1, 1, zr0),
  (2, 2, none, .invokespecial 3, 3, (zrM 3 0 [1057, 1003, 1058, 1059] h_WR_sup)),
  (3, 5, none, .return_, 1, zr0)]
theorem ck_WR_init : zck h_WR_init k_WR_init = true := by decide +kernel
theorem ok_WR_init : zhok h_WR_init = true := by decide +kernel
def k_WR_faultOf : List zIns := [
  (0, 0, none, .aload_n 0, 1, zr0),
  (1, 1, none, .iconst 0, 1, zr0),
  (2, 2, none, .putfield 9, 3, (zrK 0 9 1 0 [1067, 1068])),
  (3, 5, none, .aload_n 1, 1, zr0),
  (4, 6, none, .invokevirtual 15, 3, (zrM 0 8 [2165, 2166, 2167, 1011, 2168] h_Wa_clear)),
  (5, 9, none, .iconst 0, 1, zr0),
  (6, 10, none, .istore_n 2, 1, zr0),
  (7, 11, (some [true, true, true]), .iload_n 2, 1, zr0),
  (8, 12, none, .aload_n 0, 1, zr0),
  (9, 13, none, .getfield 21, 3, (zrK (-2) 9 0 2 [1062, 1063])),
  (10, 16, none, .getfield 25, 3, (zrK 0 6 1 0 [1042])),
  (11, 19, none, .if_icmp .gt 34, 3, (zrT 26)),
  (12, 22, none, .aload_n 0, 1, zr0),
  (13, 23, none, .aload_n 1, 1, zr0),
  (14, 24, none, .invokevirtual 30, 3, (zrM 0 9 [2169, 2171, 0, 1004, 2172] h_WR_clause)),
  (15, 27, none, .ifCond .ne 8, 3, (zrT 19)),
  (16, 30, none, .aload_n 0, 1, zr0),
  (17, 31, none, .getfield 9, 3, (zrK 0 9 1 0 [1067, 1068])),
  (18, 34, none, .ireturn, 1, zr0),
  (19, 35, none, .aload_n 0, 1, zr0),
  (20, 36, none, .bipush 59, 2, zr0),
  (21, 38, none, .invokevirtual 34, 3, (zrM 1 9 [3014, 3015, 3017, 3018, 1003, 3019] h_WR_takes)),
  (22, 41, none, .ifCond .ne 6, 3, (zrT 24)),
  (23, 44, none, .goto 9, 3, (zrT 26)),
  (24, 47, none, .iinc 2 1, 3, zr0),
  (25, 50, none, .goto (-39), 3, (zrT 7)),
  (26, 53, none, .aload_n 0, 1, zr0),
  (27, 54, none, .invokevirtual 38, 3, (zrM 1 9 [2173, 2174, 2176, 2177, 1003, 2178] h_WR_sign)),
  (28, 57, none, .iconst (-1), 1, zr0),
  (29, 58, none, .if_icmp .ne 14, 3, (zrT 35)),
  (30, 61, none, .aload_n 1, 1, zr0),
  (31, 62, none, .invokevirtual 42, 3, (zrM 0 8 [3020, 3021, 3022, 1011, 3023] h_Wa_stands)),
  (32, 65, none, .ifCond .eq 7, 3, (zrT 35)),
  (33, 68, none, .iconst (-1), 1, zr0),
  (34, 69, none, .goto 7, 3, (zrT 37)),
  (35, 72, none, .aload_n 0, 1, zr0),
  (36, 73, none, .getfield 9, 3, (zrK 0 9 1 0 [1067, 1068])),
  (37, 76, none, .ireturn, 1, zr0)]
theorem ck_WR_faultOf : zck h_WR_faultOf k_WR_faultOf = true := by decide +kernel
theorem ok_WR_faultOf : zhok h_WR_faultOf = true := by decide +kernel
def k_WR_clause : List zIns := [
  (0, 0, none, .aload_n 0, 1, zr0),
  (1, 1, none, .invokevirtual 38, 3, (zrM 1 9 [2173, 2174, 2176, 2177, 1003, 2178] h_WR_sign)),
  (2, 4, none, .tableswitch 81 108 115 #[75, 81, 66, 57, 81, 81, 81, 48], 48, (zrF 22 0 0 [18, 22, 13, 8, 22, 22, 22, 3])),
  (3, 52, none, .aload_n 0, 1, zr0),
  (4, 53, none, .aload_n 1, 1, zr0),
  (5, 54, none, .getfield 46, 3, (zrK 1 8 0 2 [2044])),
  (6, 57, none, .invokevirtual 50, 3, (zrM 0 9 [2179, 2181, 1, 1004, 2182] h_WR_items)),
  (7, 60, none, .ireturn, 1, zr0),
  (8, 61, none, .aload_n 0, 1, zr0),
  (9, 62, none, .aload_n 1, 1, zr0),
  (10, 63, none, .getfield 54, 3, (zrK 3 8 1 2 [2049])),
  (11, 66, none, .invokevirtual 50, 3, (zrM 0 9 [2179, 2181, 1, 1004, 2182] h_WR_items)),
  (12, 69, none, .ireturn, 1, zr0),
  (13, 70, none, .aload_n 0, 1, zr0),
  (14, 71, none, .aload_n 1, 1, zr0),
  (15, 72, none, .getfield 57, 3, (zrK 5 8 2 2 [2052])),
  (16, 75, none, .invokevirtual 50, 3, (zrM 0 9 [2179, 2181, 1, 1004, 2182] h_WR_items)),
  (17, 78, none, .ireturn, 1, zr0),
  (18, 79, none, .aload_n 0, 1, zr0),
  (19, 80, none, .aload_n 1, 1, zr0),
  (20, 81, none, .invokevirtual 60, 3, (zrM 0 9 [3010, 3012, 2, 1004, 3013] h_WR_row)),
  (21, 84, none, .ireturn, 1, zr0),
  (22, 85, none, .iconst 0, 1, zr0),
  (23, 86, none, .ireturn, 1, zr0)]
theorem ck_WR_clause : zck h_WR_clause k_WR_clause = true := by decide +kernel
theorem ok_WR_clause : zhok h_WR_clause = true := by decide +kernel
def k_WR_items : List zIns := [
  (0, 0, none, .aload_n 1, 1, zr0),
  (1, 1, none, .invokevirtual 63, 3, (zrM 0 1 [2183, 2184, 2185, 1012, 2186] h_Ki_addsOne)),
  (2, 4, none, .ifCond .ne 5, 3, (zrT 5)),
  (3, 7, none, .iconst 0, 1, zr0),
  (4, 8, none, .ireturn, 1, zr0),
  (5, 9, none, .aload_n 0, 1, zr0),
  (6, 10, none, .dup, 1, zr0),
  (7, 11, none, .getfield 9, 3, (zrK 0 9 1 0 [1067, 1068])),
  (8, 14, none, .iconst 1, 1, zr0),
  (9, 15, none, .iadd, 1, zr0),
  (10, 16, none, .putfield 9, 3, (zrK 0 9 1 0 [1067, 1068])),
  (11, 19, none, .iconst 0, 1, zr0),
  (12, 20, none, .istore_n 2, 1, zr0),
  (13, 21, none, .iconst 0, 1, zr0),
  (14, 22, none, .istore_n 3, 1, zr0),
  (15, 23, (some [true, true, true, true, false, false]), .iload_n 3, 1, zr0),
  (16, 24, none, .aload_n 0, 1, zr0),
  (17, 25, none, .getfield 21, 3, (zrK (-2) 9 0 2 [1062, 1063])),
  (18, 28, none, .getfield 25, 3, (zrK 0 6 1 0 [1042])),
  (19, 31, none, .if_icmp .gt 95, 3, (zrT 74)),
  (20, 34, none, .aload_n 1, 1, zr0),
  (21, 35, none, .aload_n 0, 1, zr0),
  (22, 36, none, .invokevirtual 38, 3, (zrM 1 9 [2173, 2174, 2176, 2177, 1003, 2178] h_WR_sign)),
  (23, 39, none, .invokevirtual 68, 3, (zrM 0 1 [2187, 2188, 2189, 1012, 2190] h_Ki_itemOf)),
  (24, 42, none, .istore 4, 2, zr0),
  (25, 44, none, .iload 4, 2, zr0),
  (26, 46, none, .iconst (-1), 1, zr0),
  (27, 47, none, .if_icmp .ne 6, 3, (zrT 29)),
  (28, 50, none, .goto 76, 3, (zrT 74)),
  (29, 53, none, .iload_n 2, 1, zr0),
  (30, 54, none, .iload 4, 2, zr0),
  (31, 56, none, .ishr, 1, zr0),
  (32, 57, none, .iconst 1, 1, zr0),
  (33, 58, none, .iand, 1, zr0),
  (34, 59, none, .iconst 1, 1, zr0),
  (35, 60, none, .if_icmp .ne 5, 3, (zrT 38)),
  (36, 63, none, .iconst 0, 1, zr0),
  (37, 64, none, .ireturn, 1, zr0),
  (38, 65, none, .iload_n 2, 1, zr0),
  (39, 66, none, .iconst 1, 1, zr0),
  (40, 67, none, .iload 4, 2, zr0),
  (41, 69, none, .ishl, 1, zr0),
  (42, 70, none, .ior, 1, zr0),
  (43, 71, none, .istore_n 2, 1, zr0),
  (44, 72, none, .aload_n 0, 1, zr0),
  (45, 73, none, .dup, 1, zr0),
  (46, 74, none, .getfield 9, 3, (zrK 0 9 1 0 [1067, 1068])),
  (47, 77, none, .iconst 1, 1, zr0),
  (48, 78, none, .iadd, 1, zr0),
  (49, 79, none, .putfield 9, 3, (zrK 0 9 1 0 [1067, 1068])),
  (50, 82, none, .aload_n 0, 1, zr0),
  (51, 83, none, .iconst 2, 1, zr0),
  (52, 84, none, .invokevirtual 72, 3, (zrM 1 9 [2239, 3000, 3002, 3003, 1003, 3004] h_WR_digits)),
  (53, 87, none, .istore 5, 2, zr0),
  (54, 89, none, .iload 5, 2, zr0),
  (55, 91, none, .iconst (-1), 1, zr0),
  (56, 92, none, .if_icmp .ne 5, 3, (zrT 59)),
  (57, 95, none, .iconst 0, 1, zr0),
  (58, 96, none, .ireturn, 1, zr0),
  (59, 97, none, .aload_n 1, 1, zr0),
  (60, 98, none, .iload 4, 2, zr0),
  (61, 100, none, .iload 5, 2, zr0),
  (62, 102, none, .invokevirtual 75, 3, (zrM 0 1 [3006, 3007, 3008, 1012, 3009] h_Ki_tells)),
  (63, 105, none, .ifCond .ne 15, 3, (zrT 72)),
  (64, 108, none, .aload_n 0, 1, zr0),
  (65, 109, none, .dup, 1, zr0),
  (66, 110, none, .getfield 9, 3, (zrK 0 9 1 0 [1067, 1068])),
  (67, 113, none, .iconst 1, 1, zr0),
  (68, 114, none, .isub, 1, zr0),
  (69, 115, none, .putfield 9, 3, (zrK 0 9 1 0 [1067, 1068])),
  (70, 118, none, .iconst 0, 1, zr0),
  (71, 119, none, .ireturn, 1, zr0),
  (72, 120, none, .iinc 3 1, 3, zr0),
  (73, 123, none, .goto (-100), 3, (zrT 15)),
  (74, 126, none, .iconst 1, 1, zr0),
  (75, 127, none, .ireturn, 1, zr0)]
theorem ck_WR_items : zck h_WR_items k_WR_items = true := by decide +kernel
theorem ok_WR_items : zhok h_WR_items = true := by decide +kernel
def k_WR_row : List zIns := [
  (0, 0, none, .aload_n 1, 1, zr0),
  (1, 1, none, .getfield 79, 3, (zrK 0 8 9 0 [2069])),
  (2, 4, none, .iconst 4, 1, zr0),
  (3, 5, none, .if_icmp .ne 5, 3, (zrT 6)),
  (4, 8, none, .iconst 0, 1, zr0),
  (5, 9, none, .ireturn, 1, zr0),
  (6, 10, none, .aload_n 0, 1, zr0),
  (7, 11, none, .dup, 1, zr0),
  (8, 12, none, .getfield 9, 3, (zrK 0 9 1 0 [1067, 1068])),
  (9, 15, none, .iconst 1, 1, zr0),
  (10, 16, none, .iadd, 1, zr0),
  (11, 17, none, .putfield 9, 3, (zrK 0 9 1 0 [1067, 1068])),
  (12, 20, none, .iconst 0, 1, zr0),
  (13, 21, none, .istore_n 2, 1, zr0),
  (14, 22, none, .aload_n 0, 1, zr0),
  (15, 23, none, .invokevirtual 38, 3, (zrM 1 9 [2173, 2174, 2176, 2177, 1003, 2178] h_WR_sign)),
  (16, 26, none, .istore_n 3, 1, zr0),
  (17, 27, (some [true, true, true, true]), .iload_n 3, 1, zr0),
  (18, 28, none, .bipush 65, 2, zr0),
  (19, 30, none, .if_icmp .lt 56, 3, (zrT 51)),
  (20, 33, none, .iload_n 3, 1, zr0),
  (21, 34, none, .bipush 68, 2, zr0),
  (22, 36, none, .if_icmp .gt 50, 3, (zrT 51)),
  (23, 39, none, .iload_n 2, 1, zr0),
  (24, 40, none, .bipush 6, 2, zr0),
  (25, 42, none, .if_icmp .ne 5, 3, (zrT 28)),
  (26, 45, none, .iconst 0, 1, zr0),
  (27, 46, none, .ireturn, 1, zr0),
  (28, 47, none, .aload_n 1, 1, zr0),
  (29, 48, none, .getfield 82, 3, (zrK 7 8 3 2 [2055])),
  (30, 51, none, .aload_n 1, 1, zr0),
  (31, 52, none, .getfield 79, 3, (zrK 0 8 9 0 [2069])),
  (32, 55, none, .bipush 6, 2, zr0),
  (33, 57, none, .imul, 1, zr0),
  (34, 58, none, .iload_n 2, 1, zr0),
  (35, 59, none, .iadd, 1, zr0),
  (36, 60, none, .iload_n 3, 1, zr0),
  (37, 61, none, .bipush 65, 2, zr0),
  (38, 63, none, .isub, 1, zr0),
  (39, 64, none, .iastore, 1, zr0),
  (40, 65, none, .iinc 2 1, 3, zr0),
  (41, 68, none, .aload_n 0, 1, zr0),
  (42, 69, none, .dup, 1, zr0),
  (43, 70, none, .getfield 9, 3, (zrK 0 9 1 0 [1067, 1068])),
  (44, 73, none, .iconst 1, 1, zr0),
  (45, 74, none, .iadd, 1, zr0),
  (46, 75, none, .putfield 9, 3, (zrK 0 9 1 0 [1067, 1068])),
  (47, 78, none, .aload_n 0, 1, zr0),
  (48, 79, none, .invokevirtual 38, 3, (zrM 1 9 [2173, 2174, 2176, 2177, 1003, 2178] h_WR_sign)),
  (49, 82, none, .istore_n 3, 1, zr0),
  (50, 83, none, .goto (-56), 3, (zrT 17)),
  (51, 86, none, .iload_n 2, 1, zr0),
  (52, 87, none, .ifCond .ne 5, 3, (zrT 55)),
  (53, 90, none, .iconst 0, 1, zr0),
  (54, 91, none, .ireturn, 1, zr0),
  (55, 92, none, .aload_n 1, 1, zr0),
  (56, 93, none, .getfield 86, 3, (zrK 8 8 4 2 [2057])),
  (57, 96, none, .aload_n 1, 1, zr0),
  (58, 97, none, .getfield 79, 3, (zrK 0 8 9 0 [2069])),
  (59, 100, none, .iload_n 2, 1, zr0),
  (60, 101, none, .iastore, 1, zr0),
  (61, 102, none, .aload_n 1, 1, zr0),
  (62, 103, none, .dup, 1, zr0),
  (63, 104, none, .getfield 79, 3, (zrK 0 8 9 0 [2069])),
  (64, 107, none, .iconst 1, 1, zr0),
  (65, 108, none, .iadd, 1, zr0),
  (66, 109, none, .putfield 79, 3, (zrK 0 8 9 0 [2069])),
  (67, 112, none, .iconst 1, 1, zr0),
  (68, 113, none, .ireturn, 1, zr0)]
theorem ck_WR_row : zck h_WR_row k_WR_row = true := by decide +kernel
theorem ok_WR_row : zhok h_WR_row = true := by decide +kernel
def k_La_init : List zIns := [
  (0, 0, none, .aload_n 0, 1, zr0),
  (1, 1, none, .invokespecial 3, 3, (zrM 5 0 [1097, 1031, 1032] zh0)),
  (2, 4, none, .aload_n 0, 1, zr0),
  (3, 5, none, .sipush 160, 3, zr0),
  (4, 8, none, .newarray .int, 2, (zrF 20 0 0 [1051])),
  (5, 10, none, .putfield 9, 3, (zrK 1 2 0 4 [1098])),
  (6, 13, none, .aload_n 0, 1, zr0),
  (7, 14, none, .sipush 161, 3, zr0),
  (8, 17, none, .newarray .int, 2, (zrF 20 0 0 [1051])),
  (9, 19, none, .putfield 15, 3, (zrK 2 2 1 4 [1099])),
  (10, 22, none, .return_, 1, zr0)]
theorem ck_La_init : zck h_La_init k_La_init = true := by decide +kernel
theorem ok_La_init : zhok h_La_init = true := by decide +kernel
def k_La_clear : List zIns := [
  (0, 0, none, .aload_n 0, 1, zr0),
  (1, 1, none, .iconst 0, 1, zr0),
  (2, 2, none, .putfield 18, 3, (zrK 0 2 2 0 [1100])),
  (3, 5, none, .aload_n 0, 1, zr0),
  (4, 6, none, .iconst 0, 1, zr0),
  (5, 7, none, .putfield 22, 3, (zrK 0 2 3 1 [1101])),
  (6, 10, none, .return_, 1, zr0)]
theorem ck_La_clear : zck h_La_clear k_La_clear = true := by decide +kernel
theorem ok_La_clear : zhok h_La_clear = true := by decide +kernel
def k_La_addNumber : List zIns := [
  (0, 0, none, .aload_n 0, 1, zr0),
  (1, 1, none, .getfield 18, 3, (zrK 0 2 2 0 [1100])),
  (2, 4, none, .aload_n 0, 1, zr0),
  (3, 5, none, .getfield 9, 3, (zrK 1 2 0 2 [1098])),
  (4, 8, none, .arraylength, 1, zr0),
  (5, 9, none, .if_icmp .ge 23, 3, (zrT 18)),
  (6, 12, none, .aload_n 0, 1, zr0),
  (7, 13, none, .getfield 9, 3, (zrK 1 2 0 2 [1098])),
  (8, 16, none, .aload_n 0, 1, zr0),
  (9, 17, none, .getfield 18, 3, (zrK 0 2 2 0 [1100])),
  (10, 20, none, .iload_n 1, 1, zr0),
  (11, 21, none, .iastore, 1, zr0),
  (12, 22, none, .aload_n 0, 1, zr0),
  (13, 23, none, .dup, 1, zr0),
  (14, 24, none, .getfield 18, 3, (zrK 0 2 2 0 [1100])),
  (15, 27, none, .iconst 1, 1, zr0),
  (16, 28, none, .iadd, 1, zr0),
  (17, 29, none, .putfield 18, 3, (zrK 0 2 2 0 [1100])),
  (18, 32, none, .return_, 1, zr0)]
theorem ck_La_addNumber : zck h_La_addNumber k_La_addNumber = true := by decide +kernel
theorem ok_La_addNumber : zhok h_La_addNumber = true := by decide +kernel
def k_La_addSign : List zIns := [
  (0, 0, none, .aload_n 0, 1, zr0),
  (1, 1, none, .iload_n 1, 1, zr0),
  (2, 2, none, .ineg, 1, zr0),
  (3, 3, none, .invokevirtual 26, 3, (zrM 0 2 [3069, 3070, 3071, 1007, 3072] h_La_addNumber)),
  (4, 6, none, .iload_n 1, 1, zr0),
  (5, 7, none, .bipush 100, 2, zr0),
  (6, 9, none, .if_icmp .ne 8, 3, (zrT 10)),
  (7, 12, none, .aload_n 0, 1, zr0),
  (8, 13, none, .iconst 1, 1, zr0),
  (9, 14, none, .putfield 22, 3, (zrK 0 2 3 1 [1101])),
  (10, 17, none, .return_, 1, zr0)]
theorem ck_La_addSign : zck h_La_addSign k_La_addSign = true := by decide +kernel
theorem ok_La_addSign : zhok h_La_addSign = true := by decide +kernel
def k_La_worth : List zIns := [
  (0, 0, none, .iconst 0, 1, zr0),
  (1, 1, none, .istore 5, 2, zr0),
  (2, 3, none, .iconst 0, 1, zr0),
  (3, 4, none, .istore 6, 2, zr0),
  (4, 6, none, .iconst 0, 1, zr0),
  (5, 7, none, .istore 7, 2, zr0),
  (6, 9, (some [true, true, true, true, true, true, true, true, false]), .iload 7, 2, zr0),
  (7, 11, none, .aload_n 0, 1, zr0),
  (8, 12, none, .getfield 18, 3, (zrK 0 2 2 0 [1100])),
  (9, 15, none, .if_icmp .ge 319, 3, (zrT 134)),
  (10, 18, none, .iload 5, 2, zr0),
  (11, 20, none, .ifCond .lt 314, 3, (zrT 134)),
  (12, 23, none, .iload 5, 2, zr0),
  (13, 25, none, .aload_n 0, 1, zr0),
  (14, 26, none, .getfield 15, 3, (zrK 2 2 1 2 [1099])),
  (15, 29, none, .arraylength, 1, zr0),
  (16, 30, none, .iconst 1, 1, zr0),
  (17, 31, none, .isub, 1, zr0),
  (18, 32, none, .if_icmp .ge 302, 3, (zrT 134)),
  (19, 35, none, .aload_n 0, 1, zr0),
  (20, 36, none, .getfield 9, 3, (zrK 1 2 0 2 [1098])),
  (21, 39, none, .iload 7, 2, zr0),
  (22, 41, none, .iaload, 1, zr0),
  (23, 42, none, .ineg, 1, zr0),
  (24, 43, none, .istore 8, 2, zr0),
  (25, 45, none, .iload 6, 2, zr0),
  (26, 47, none, .ifCond .eq 20, 3, (zrT 35)),
  (27, 50, none, .iload 8, 2, zr0),
  (28, 52, none, .bipush 59, 2, zr0),
  (29, 54, none, .if_icmp .eq 7, 3, (zrT 32)),
  (30, 57, none, .iconst 1, 1, zr0),
  (31, 58, none, .goto 4, 3, (zrT 33)),
  (32, 61, none, .iconst 0, 1, zr0),
  (33, 62, none, .istore 6, 2, zr0),
  (34, 64, none, .goto 264, 3, (zrT 132)),
  (35, 67, none, .iload 8, 2, zr0),
  (36, 69, none, .lookupswitch 202 #[(33, 106), (59, 75), (63, 83), (99, 173), (100, 142), (104, 125), (114, 159), (115, 187)], 75, (zrF 103 0 0 [53, 37, 42, 89, 73, 64, 82, 96])),
  (37, 144, none, .aload_n 0, 1, zr0),
  (38, 145, none, .getfield 15, 3, (zrK 2 2 1 2 [1099])),
  (39, 148, none, .iload 5, 2, zr0),
  (40, 150, none, .iaload, 1, zr0),
  (41, 151, none, .ireturn, 1, zr0),
  (42, 152, none, .aload_n 0, 1, zr0),
  (43, 153, none, .getfield 15, 3, (zrK 2 2 1 2 [1099])),
  (44, 156, none, .iload 5, 2, zr0),
  (45, 158, none, .iaload, 1, zr0),
  (46, 159, none, .ifCond .ne 7, 3, (zrT 49)),
  (47, 162, none, .iconst 1, 1, zr0),
  (48, 163, none, .goto 4, 3, (zrT 50)),
  (49, 166, none, .iconst 0, 1, zr0),
  (50, 167, none, .istore 6, 2, zr0),
  (51, 169, none, .iinc 5 (-1), 3, zr0),
  (52, 172, none, .goto 156, 3, (zrT 132)),
  (53, 175, none, .aload_n 0, 1, zr0),
  (54, 176, none, .getfield 15, 3, (zrK 2 2 1 2 [1099])),
  (55, 179, none, .iload 5, 2, zr0),
  (56, 181, none, .iconst 1, 1, zr0),
  (57, 182, none, .aload_n 0, 1, zr0),
  (58, 183, none, .getfield 15, 3, (zrK 2 2 1 2 [1099])),
  (59, 186, none, .iload 5, 2, zr0),
  (60, 188, none, .iaload, 1, zr0),
  (61, 189, none, .isub, 1, zr0),
  (62, 190, none, .iastore, 1, zr0),
  (63, 191, none, .goto 137, 3, (zrT 132)),
  (64, 194, none, .aload_n 0, 1, zr0),
  (65, 195, none, .getfield 15, 3, (zrK 2 2 1 2 [1099])),
  (66, 198, none, .iinc 5 1, 3, zr0),
  (67, 201, none, .iload 5, 2, zr0),
  (68, 203, none, .iload_n 1, 1, zr0),
  (69, 204, none, .bipush 24, 2, zr0),
  (70, 206, none, .irem, 1, (zrF 0 0 1 [])),
  (71, 207, none, .iastore, 1, zr0),
  (72, 208, none, .goto 120, 3, (zrT 132)),
  (73, 211, none, .aload_n 0, 1, zr0),
  (74, 212, none, .getfield 15, 3, (zrK 2 2 1 2 [1099])),
  (75, 215, none, .iinc 5 1, 3, zr0),
  (76, 218, none, .iload 5, 2, zr0),
  (77, 220, none, .iload_n 1, 1, zr0),
  (78, 221, none, .bipush 24, 2, zr0),
  (79, 223, none, .idiv, 1, (zrF 0 0 1 [])),
  (80, 224, none, .iastore, 1, zr0),
  (81, 225, none, .goto 103, 3, (zrT 132)),
  (82, 228, none, .aload_n 0, 1, zr0),
  (83, 229, none, .getfield 15, 3, (zrK 2 2 1 2 [1099])),
  (84, 232, none, .iinc 5 1, 3, zr0),
  (85, 235, none, .iload 5, 2, zr0),
  (86, 237, none, .iload_n 2, 1, zr0),
  (87, 238, none, .iastore, 1, zr0),
  (88, 239, none, .goto 89, 3, (zrT 132)),
  (89, 242, none, .aload_n 0, 1, zr0),
  (90, 243, none, .getfield 15, 3, (zrK 2 2 1 2 [1099])),
  (91, 246, none, .iinc 5 1, 3, zr0),
  (92, 249, none, .iload 5, 2, zr0),
  (93, 251, none, .iload_n 3, 1, zr0),
  (94, 252, none, .iastore, 1, zr0),
  (95, 253, none, .goto 75, 3, (zrT 132)),
  (96, 256, none, .aload_n 0, 1, zr0),
  (97, 257, none, .getfield 15, 3, (zrK 2 2 1 2 [1099])),
  (98, 260, none, .iinc 5 1, 3, zr0),
  (99, 263, none, .iload 5, 2, zr0),
  (100, 265, none, .iload 4, 2, zr0),
  (101, 267, none, .iastore, 1, zr0),
  (102, 268, none, .goto 60, 3, (zrT 132)),
  (103, 271, none, .iload 8, 2, zr0),
  (104, 273, none, .ifCond .gt 19, 3, (zrT 113)),
  (105, 276, none, .aload_n 0, 1, zr0),
  (106, 277, none, .getfield 15, 3, (zrK 2 2 1 2 [1099])),
  (107, 280, none, .iinc 5 1, 3, zr0),
  (108, 283, none, .iload 5, 2, zr0),
  (109, 285, none, .iload 8, 2, zr0),
  (110, 287, none, .ineg, 1, zr0),
  (111, 288, none, .iastore, 1, zr0),
  (112, 289, none, .goto 39, 3, (zrT 132)),
  (113, 292, none, .iload 5, 2, zr0),
  (114, 294, none, .ifCond .le 34, 3, (zrT 132)),
  (115, 297, none, .iinc 5 (-1), 3, zr0),
  (116, 300, none, .aload_n 0, 1, zr0),
  (117, 301, none, .getfield 15, 3, (zrK 2 2 1 2 [1099])),
  (118, 304, none, .iload 5, 2, zr0),
  (119, 306, none, .aload_n 0, 1, zr0),
  (120, 307, none, .getfield 15, 3, (zrK 2 2 1 2 [1099])),
  (121, 310, none, .iload 5, 2, zr0),
  (122, 312, none, .iaload, 1, zr0),
  (123, 313, none, .iload 8, 2, zr0),
  (124, 315, none, .aload_n 0, 1, zr0),
  (125, 316, none, .getfield 15, 3, (zrK 2 2 1 2 [1099])),
  (126, 319, none, .iload 5, 2, zr0),
  (127, 321, none, .iconst 1, 1, zr0),
  (128, 322, none, .iadd, 1, zr0),
  (129, 323, none, .iaload, 1, zr0),
  (130, 324, none, .invokestatic 30, 3, (zrM 2 0 [3204, 3205, 1007, 3206] h_La_joined)),
  (131, 327, none, .iastore, 1, zr0),
  (132, 328, none, .iinc 7 1, 3, zr0),
  (133, 331, none, .goto (-322), 3, (zrT 6)),
  (134, 334, none, .iconst 0, 1, zr0),
  (135, 335, none, .ireturn, 1, zr0)]
theorem ck_La_worth : zck h_La_worth k_La_worth = true := by decide +kernel
theorem ok_La_worth : zhok h_La_worth = true := by decide +kernel
def k_La_joined : List zIns := [
  (0, 0, none, .iload_n 1, 1, zr0),
  (1, 1, none, .tableswitch 195 38 62 #[191, 195, 195, 195, 133, 115, 195, 124, 195, 142, 195, 195, 195, 195, 195, 195, 195, 195, 195, 195, 195, 195, 169, 158, 180], 115, (zrF 58 0 0 [54, 58, 58, 58, 16, 2, 58, 9, 58, 23, 58, 58, 58, 58, 58, 58, 58, 58, 58, 58, 58, 58, 40, 33, 47])),
  (2, 116, none, .iload_n 0, 1, zr0),
  (3, 117, none, .i2l, 1, zr0),
  (4, 118, none, .iload_n 2, 1, zr0),
  (5, 119, none, .i2l, 1, zr0),
  (6, 120, none, .ladd, 1, zr0),
  (7, 121, none, .lstore_n 3, 1, zr0),
  (8, 122, none, .goto 78, 3, (zrT 62)),
  (9, 125, none, .iload_n 0, 1, zr0),
  (10, 126, none, .i2l, 1, zr0),
  (11, 127, none, .iload_n 2, 1, zr0),
  (12, 128, none, .i2l, 1, zr0),
  (13, 129, none, .lsub, 1, zr0),
  (14, 130, none, .lstore_n 3, 1, zr0),
  (15, 131, none, .goto 69, 3, (zrT 62)),
  (16, 134, none, .iload_n 0, 1, zr0),
  (17, 135, none, .i2l, 1, zr0),
  (18, 136, none, .iload_n 2, 1, zr0),
  (19, 137, none, .i2l, 1, zr0),
  (20, 138, none, .lmul, 1, zr0),
  (21, 139, none, .lstore_n 3, 1, zr0),
  (22, 140, none, .goto 60, 3, (zrT 62)),
  (23, 143, none, .iload_n 2, 1, zr0),
  (24, 144, none, .ifCond .ne 7, 3, (zrT 27)),
  (25, 147, none, .lconst 0, 1, zr0),
  (26, 148, none, .goto 7, 3, (zrT 31)),
  (27, 151, none, .iload_n 0, 1, zr0),
  (28, 152, none, .iload_n 2, 1, zr0),
  (29, 153, none, .idiv, 1, zr0),
  (30, 154, none, .i2l, 1, zr0),
  (31, 155, none, .lstore_n 3, 1, zr0),
  (32, 156, none, .goto 44, 3, (zrT 62)),
  (33, 159, none, .iload_n 0, 1, zr0),
  (34, 160, none, .iload_n 2, 1, zr0),
  (35, 161, none, .if_icmp .ne 7, 3, (zrT 38)),
  (36, 164, none, .iconst 1, 1, zr0),
  (37, 165, none, .goto 4, 3, (zrT 39)),
  (38, 168, none, .iconst 0, 1, zr0),
  (39, 169, none, .ireturn, 1, zr0),
  (40, 170, none, .iload_n 0, 1, zr0),
  (41, 171, none, .iload_n 2, 1, zr0),
  (42, 172, none, .if_icmp .ge 7, 3, (zrT 45)),
  (43, 175, none, .iconst 1, 1, zr0),
  (44, 176, none, .goto 4, 3, (zrT 46)),
  (45, 179, none, .iconst 0, 1, zr0),
  (46, 180, none, .ireturn, 1, zr0),
  (47, 181, none, .iload_n 0, 1, zr0),
  (48, 182, none, .iload_n 2, 1, zr0),
  (49, 183, none, .if_icmp .le 7, 3, (zrT 52)),
  (50, 186, none, .iconst 1, 1, zr0),
  (51, 187, none, .goto 4, 3, (zrT 53)),
  (52, 190, none, .iconst 0, 1, zr0),
  (53, 191, none, .ireturn, 1, zr0),
  (54, 192, none, .iload_n 0, 1, zr0),
  (55, 193, none, .iload_n 2, 1, zr0),
  (56, 194, none, .iand, 1, zr0),
  (57, 195, none, .ireturn, 1, zr0),
  (58, 196, none, .iload_n 0, 1, zr0),
  (59, 197, none, .iload_n 2, 1, zr0),
  (60, 198, none, .ior, 1, zr0),
  (61, 199, none, .ireturn, 1, zr0),
  (62, 200, none, .lload_n 3, 1, zr0),
  (63, 201, none, .ldc2_w 34, 3, (zrK 1000000 0 0 0 [3207])),
  (64, 204, none, .lcmp, 1, zr0),
  (65, 205, none, .ifCond .le 8, 3, (zrT 68)),
  (66, 208, none, .ldc 36, 2, (zrK 1000000 0 0 0 [3208])),
  (67, 210, none, .goto 18, 3, (zrT 76)),
  (68, 213, none, .lload_n 3, 1, zr0),
  (69, 214, none, .ldc2_w 37, 3, (zrK (-1000000) 0 0 0 [3209])),
  (70, 217, none, .lcmp, 1, zr0),
  (71, 218, none, .ifCond .ge 8, 3, (zrT 74)),
  (72, 221, none, .ldc 39, 2, (zrK (-1000000) 0 0 0 [3210])),
  (73, 223, none, .goto 5, 3, (zrT 76)),
  (74, 226, none, .lload_n 3, 1, zr0),
  (75, 227, none, .l2i, 1, zr0),
  (76, 228, none, .ireturn, 1, zr0)]
theorem ck_La_joined : zck h_La_joined k_La_joined = true := by decide +kernel
theorem ok_La_joined : zhok h_La_joined = true := by decide +kernel
def k_LR_init : List zIns := [
  (0, 0, none, .aload_n 0, 1, zr0),
  (1, 1, none, .aload_n 1, 1, zr0),
  (2, 2, none, .invokespecial 3, 3, (zrM 3 0 [1081, 1003, 1058, 1059] h_LR_sup)),
  (3, 5, none, .return_, 1, zr0)]
theorem ck_LR_init : zck h_LR_init k_LR_init = true := by decide +kernel
theorem ok_LR_init : zhok h_LR_init = true := by decide +kernel
def k_LR_faultOf : List zIns := [
  (0, 0, none, .aload_n 0, 1, zr0),
  (1, 1, none, .iconst 0, 1, zr0),
  (2, 2, none, .putfield 9, 3, (zrK 0 3 1 0 [1069, 1070])),
  (3, 5, none, .aload_n 1, 1, zr0),
  (4, 6, none, .invokevirtual 15, 3, (zrM 0 2 [3039, 3040, 3041, 1007, 3042] h_La_clear)),
  (5, 9, none, .iconst 0, 1, zr0),
  (6, 10, none, .istore_n 2, 1, zr0),
  (7, 11, (some [true, true, true]), .iload_n 2, 1, zr0),
  (8, 12, none, .aload_n 0, 1, zr0),
  (9, 13, none, .getfield 21, 3, (zrK (-3) 3 0 2 [1064, 1065])),
  (10, 16, none, .getfield 25, 3, (zrK 0 6 1 0 [1043])),
  (11, 19, none, .if_icmp .gt 40, 3, (zrT 29)),
  (12, 22, none, .aload_n 0, 1, zr0),
  (13, 23, none, .aload_n 1, 1, zr0),
  (14, 24, none, .invokevirtual 30, 3, (zrM 0 3 [3043, 3045, 3, 1005, 3046] h_LR_clause)),
  (15, 27, none, .ifCond .ne 8, 3, (zrT 19)),
  (16, 30, none, .aload_n 0, 1, zr0),
  (17, 31, none, .getfield 9, 3, (zrK 0 3 1 0 [1069, 1070])),
  (18, 34, none, .ireturn, 1, zr0),
  (19, 35, none, .aload_n 1, 1, zr0),
  (20, 36, none, .bipush 59, 2, zr0),
  (21, 38, none, .invokevirtual 34, 3, (zrM 0 2 [3065, 3066, 3067, 1007, 3068] h_La_addSign)),
  (22, 41, none, .aload_n 0, 1, zr0),
  (23, 42, none, .bipush 59, 2, zr0),
  (24, 44, none, .invokevirtual 38, 3, (zrM 1 3 [3047, 3048, 3049, 3018, 1003, 3019] h_LR_takes)),
  (25, 47, none, .ifCond .ne 6, 3, (zrT 27)),
  (26, 50, none, .goto 9, 3, (zrT 29)),
  (27, 53, none, .iinc 2 1, 3, zr0),
  (28, 56, none, .goto (-45), 3, (zrT 7)),
  (29, 59, none, .aload_n 0, 1, zr0),
  (30, 60, none, .invokevirtual 42, 3, (zrM 1 3 [3050, 3051, 3052, 2177, 1003, 2178] h_LR_sign)),
  (31, 63, none, .iconst (-1), 1, zr0),
  (32, 64, none, .if_icmp .ne 7, 3, (zrT 35)),
  (33, 67, none, .iconst (-1), 1, zr0),
  (34, 68, none, .goto 7, 3, (zrT 37)),
  (35, 71, none, .aload_n 0, 1, zr0),
  (36, 72, none, .getfield 9, 3, (zrK 0 3 1 0 [1069, 1070])),
  (37, 75, none, .ireturn, 1, zr0)]
theorem ck_LR_faultOf : zck h_LR_faultOf k_LR_faultOf = true := by decide +kernel
theorem ok_LR_faultOf : zhok h_LR_faultOf = true := by decide +kernel
def k_LR_clause : List zIns := [
  (0, 0, none, .aload_n 0, 1, zr0),
  (1, 1, none, .bipush 121, 2, zr0),
  (2, 3, none, .invokevirtual 38, 3, (zrM 1 3 [3047, 3048, 3049, 3018, 1003, 3019] h_LR_takes)),
  (3, 6, none, .ifCond .eq 12, 3, (zrT 8)),
  (4, 9, none, .aload_n 0, 1, zr0),
  (5, 10, none, .bipush 58, 2, zr0),
  (6, 12, none, .invokevirtual 38, 3, (zrM 1 3 [3047, 3048, 3049, 3018, 1003, 3019] h_LR_takes)),
  (7, 15, none, .ifCond .ne 5, 3, (zrT 10)),
  (8, 18, none, .iconst 0, 1, zr0),
  (9, 19, none, .ireturn, 1, zr0),
  (10, 20, none, .aload_n 0, 1, zr0),
  (11, 21, none, .invokevirtual 42, 3, (zrM 1 3 [3050, 3051, 3052, 2177, 1003, 2178] h_LR_sign)),
  (12, 24, none, .bipush 33, 2, zr0),
  (13, 26, none, .if_icmp .eq 16, 3, (zrT 20)),
  (14, 29, none, .aload_n 0, 1, zr0),
  (15, 30, none, .invokevirtual 42, 3, (zrM 1 3 [3050, 3051, 3052, 2177, 1003, 2178] h_LR_sign)),
  (16, 33, none, .bipush 40, 2, zr0),
  (17, 35, none, .if_icmp .eq 7, 3, (zrT 20)),
  (18, 38, none, .iconst 1, 1, zr0),
  (19, 39, none, .goto 4, 3, (zrT 21)),
  (20, 42, none, .iconst 0, 1, zr0),
  (21, 43, none, .istore_n 2, 1, zr0),
  (22, 44, none, .iload_n 2, 1, zr0),
  (23, 45, none, .ifCond .eq 26, 3, (zrT 37)),
  (24, 48, none, .aload_n 0, 1, zr0),
  (25, 49, none, .aload_n 1, 1, zr0),
  (26, 50, none, .iconst 0, 1, zr0),
  (27, 51, none, .invokevirtual 46, 3, (zrM 0 3 [3053, 3055, 4, 1005, 3056] h_LR_sum)),
  (28, 54, none, .ifCond .ne 5, 3, (zrT 31)),
  (29, 57, none, .iconst 0, 1, zr0),
  (30, 58, none, .ireturn, 1, zr0),
  (31, 59, none, .aload_n 0, 1, zr0),
  (32, 60, none, .invokevirtual 42, 3, (zrM 1 3 [3050, 3051, 3052, 2177, 1003, 2178] h_LR_sign)),
  (33, 63, none, .invokestatic 50, 3, (zrM 2 0 [3077, 3078, 1005, 3079] h_LR_compares)),
  (34, 66, none, .ifCond .ne 5, 3, (zrT 37)),
  (35, 69, none, .iconst 1, 1, zr0),
  (36, 70, none, .ireturn, 1, zr0),
  (37, 71, none, .aload_n 0, 1, zr0),
  (38, 72, none, .aload_n 1, 1, zr0),
  (39, 73, none, .iconst 0, 1, zr0),
  (40, 74, none, .iload_n 2, 1, zr0),
  (41, 75, none, .invokevirtual 53, 3, (zrM 0 3 [3080, 3082, 7, 1005, 3083] h_LR_condition)),
  (42, 78, none, .ifCond .eq 12, 3, (zrT 47)),
  (43, 81, none, .aload_n 0, 1, zr0),
  (44, 82, none, .bipush 63, 2, zr0),
  (45, 84, none, .invokevirtual 38, 3, (zrM 1 3 [3047, 3048, 3049, 3018, 1003, 3019] h_LR_takes)),
  (46, 87, none, .ifCond .ne 5, 3, (zrT 49)),
  (47, 90, none, .iconst 0, 1, zr0),
  (48, 91, none, .ireturn, 1, zr0),
  (49, 92, none, .aload_n 1, 1, zr0),
  (50, 93, none, .bipush 63, 2, zr0),
  (51, 95, none, .invokevirtual 34, 3, (zrM 0 2 [3065, 3066, 3067, 1007, 3068] h_La_addSign)),
  (52, 98, none, .aload_n 0, 1, zr0),
  (53, 99, none, .aload_n 1, 1, zr0),
  (54, 100, none, .iconst 0, 1, zr0),
  (55, 101, none, .invokevirtual 46, 3, (zrM 0 3 [3053, 3055, 4, 1005, 3056] h_LR_sum)),
  (56, 104, none, .ireturn, 1, zr0)]
theorem ck_LR_clause : zck h_LR_clause k_LR_clause = true := by decide +kernel
theorem ok_LR_clause : zhok h_LR_clause = true := by decide +kernel
def k_LR_condition : List zIns := [
  (0, 0, none, .iconst 0, 1, zr0),
  (1, 1, none, .istore 4, 2, zr0),
  (2, 3, (some [true, true, true, true, true]), .iload 4, 2, zr0),
  (3, 5, none, .aload_n 0, 1, zr0),
  (4, 6, none, .getfield 21, 3, (zrK (-3) 3 0 2 [1064, 1065])),
  (5, 9, none, .getfield 25, 3, (zrK 0 6 1 0 [1043])),
  (6, 12, none, .if_icmp .gt 56, 3, (zrT 34)),
  (7, 15, none, .aload_n 0, 1, zr0),
  (8, 16, none, .aload_n 1, 1, zr0),
  (9, 17, none, .iload_n 2, 1, zr0),
  (10, 18, none, .iload_n 3, 1, zr0),
  (11, 19, none, .ifCond .eq 12, 3, (zrT 16)),
  (12, 22, none, .iload 4, 2, zr0),
  (13, 24, none, .ifCond .ne 7, 3, (zrT 16)),
  (14, 27, none, .iconst 1, 1, zr0),
  (15, 28, none, .goto 4, 3, (zrT 17)),
  (16, 31, none, .iconst 0, 1, zr0),
  (17, 32, none, .invokevirtual 57, 3, (zrM 0 3 [3084, 3086, 8, 1005, 3087] h_LR_truth)),
  (18, 35, none, .ifCond .ne 5, 3, (zrT 21)),
  (19, 38, none, .iconst 0, 1, zr0),
  (20, 39, none, .ireturn, 1, zr0),
  (21, 40, none, .iload 4, 2, zr0),
  (22, 42, none, .ifCond .le 9, 3, (zrT 26)),
  (23, 45, none, .aload_n 1, 1, zr0),
  (24, 46, none, .bipush 124, 2, zr0),
  (25, 48, none, .invokevirtual 34, 3, (zrM 0 2 [3065, 3066, 3067, 1007, 3068] h_La_addSign)),
  (26, 51, none, .aload_n 0, 1, zr0),
  (27, 52, none, .bipush 124, 2, zr0),
  (28, 54, none, .invokevirtual 38, 3, (zrM 1 3 [3047, 3048, 3049, 3018, 1003, 3019] h_LR_takes)),
  (29, 57, none, .ifCond .ne 5, 3, (zrT 32)),
  (30, 60, none, .iconst 1, 1, zr0),
  (31, 61, none, .ireturn, 1, zr0),
  (32, 62, none, .iinc 4 1, 3, zr0),
  (33, 65, none, .goto (-62), 3, (zrT 2)),
  (34, 68, none, .iconst 0, 1, zr0),
  (35, 69, none, .ireturn, 1, zr0)]
theorem ck_LR_condition : zck h_LR_condition k_LR_condition = true := by decide +kernel
theorem ok_LR_condition : zhok h_LR_condition = true := by decide +kernel
def k_LR_truth : List zIns := [
  (0, 0, none, .iconst 0, 1, zr0),
  (1, 1, none, .istore 4, 2, zr0),
  (2, 3, (some [true, true, true, true, true]), .iload 4, 2, zr0),
  (3, 5, none, .aload_n 0, 1, zr0),
  (4, 6, none, .getfield 21, 3, (zrK (-3) 3 0 2 [1064, 1065])),
  (5, 9, none, .getfield 25, 3, (zrK 0 6 1 0 [1043])),
  (6, 12, none, .if_icmp .gt 56, 3, (zrT 34)),
  (7, 15, none, .aload_n 0, 1, zr0),
  (8, 16, none, .aload_n 1, 1, zr0),
  (9, 17, none, .iload_n 2, 1, zr0),
  (10, 18, none, .iload_n 3, 1, zr0),
  (11, 19, none, .ifCond .eq 12, 3, (zrT 16)),
  (12, 22, none, .iload 4, 2, zr0),
  (13, 24, none, .ifCond .ne 7, 3, (zrT 16)),
  (14, 27, none, .iconst 1, 1, zr0),
  (15, 28, none, .goto 4, 3, (zrT 17)),
  (16, 31, none, .iconst 0, 1, zr0),
  (17, 32, none, .invokevirtual 60, 3, (zrM 0 3 [3088, 3090, 9, 1005, 3091] h_LR_unit)),
  (18, 35, none, .ifCond .ne 5, 3, (zrT 21)),
  (19, 38, none, .iconst 0, 1, zr0),
  (20, 39, none, .ireturn, 1, zr0),
  (21, 40, none, .iload 4, 2, zr0),
  (22, 42, none, .ifCond .le 9, 3, (zrT 26)),
  (23, 45, none, .aload_n 1, 1, zr0),
  (24, 46, none, .bipush 38, 2, zr0),
  (25, 48, none, .invokevirtual 34, 3, (zrM 0 2 [3065, 3066, 3067, 1007, 3068] h_La_addSign)),
  (26, 51, none, .aload_n 0, 1, zr0),
  (27, 52, none, .bipush 38, 2, zr0),
  (28, 54, none, .invokevirtual 38, 3, (zrM 1 3 [3047, 3048, 3049, 3018, 1003, 3019] h_LR_takes)),
  (29, 57, none, .ifCond .ne 5, 3, (zrT 32)),
  (30, 60, none, .iconst 1, 1, zr0),
  (31, 61, none, .ireturn, 1, zr0),
  (32, 62, none, .iinc 4 1, 3, zr0),
  (33, 65, none, .goto (-62), 3, (zrT 2)),
  (34, 68, none, .iconst 0, 1, zr0),
  (35, 69, none, .ireturn, 1, zr0)]
theorem ck_LR_truth : zck h_LR_truth k_LR_truth = true := by decide +kernel
theorem ok_LR_truth : zhok h_LR_truth = true := by decide +kernel
def k_LR_unit : List zIns := [
  (0, 0, none, .aload_n 0, 1, zr0),
  (1, 1, none, .invokevirtual 42, 3, (zrM 1 3 [3050, 3051, 3052, 2177, 1003, 2178] h_LR_sign)),
  (2, 4, none, .istore 4, 2, zr0),
  (3, 6, none, .iload_n 3, 1, zr0),
  (4, 7, none, .ifCond .ne 91, 3, (zrT 56)),
  (5, 10, none, .iload 4, 2, zr0),
  (6, 12, none, .bipush 33, 2, zr0),
  (7, 14, none, .if_icmp .eq 10, 3, (zrT 11)),
  (8, 17, none, .iload 4, 2, zr0),
  (9, 19, none, .bipush 40, 2, zr0),
  (10, 21, none, .if_icmp .ne 77, 3, (zrT 56)),
  (11, 24, none, .iload_n 2, 1, zr0),
  (12, 25, none, .bipush 6, 2, zr0),
  (13, 27, none, .if_icmp .ne 5, 3, (zrT 16)),
  (14, 30, none, .iconst 0, 1, zr0),
  (15, 31, none, .ireturn, 1, zr0),
  (16, 32, none, .aload_n 0, 1, zr0),
  (17, 33, none, .dup, 1, zr0),
  (18, 34, none, .getfield 9, 3, (zrK 0 3 1 0 [1069, 1070])),
  (19, 37, none, .iconst 1, 1, zr0),
  (20, 38, none, .iadd, 1, zr0),
  (21, 39, none, .putfield 9, 3, (zrK 0 3 1 0 [1069, 1070])),
  (22, 42, none, .iload 4, 2, zr0),
  (23, 44, none, .bipush 40, 2, zr0),
  (24, 46, none, .if_icmp .ne 30, 3, (zrT 41)),
  (25, 49, none, .aload_n 0, 1, zr0),
  (26, 50, none, .aload_n 1, 1, zr0),
  (27, 51, none, .iload_n 2, 1, zr0),
  (28, 52, none, .iconst 1, 1, zr0),
  (29, 53, none, .iadd, 1, zr0),
  (30, 54, none, .iconst 0, 1, zr0),
  (31, 55, none, .invokevirtual 53, 3, (zrM 0 3 [3080, 3082, 7, 1005, 3083] h_LR_condition)),
  (32, 58, none, .ifCond .eq 16, 3, (zrT 39)),
  (33, 61, none, .aload_n 0, 1, zr0),
  (34, 62, none, .bipush 41, 2, zr0),
  (35, 64, none, .invokevirtual 38, 3, (zrM 1 3 [3047, 3048, 3049, 3018, 1003, 3019] h_LR_takes)),
  (36, 67, none, .ifCond .eq 7, 3, (zrT 39)),
  (37, 70, none, .iconst 1, 1, zr0),
  (38, 71, none, .goto 4, 3, (zrT 40)),
  (39, 74, none, .iconst 0, 1, zr0),
  (40, 75, none, .ireturn, 1, zr0),
  (41, 76, none, .aload_n 0, 1, zr0),
  (42, 77, none, .aload_n 1, 1, zr0),
  (43, 78, none, .iload_n 2, 1, zr0),
  (44, 79, none, .iconst 1, 1, zr0),
  (45, 80, none, .iadd, 1, zr0),
  (46, 81, none, .iconst 0, 1, zr0),
  (47, 82, none, .invokevirtual 60, 3, (zrM 0 3 [3088, 3090, 9, 1005, 3091] h_LR_unit)),
  (48, 85, none, .ifCond .ne 5, 3, (zrT 51)),
  (49, 88, none, .iconst 0, 1, zr0),
  (50, 89, none, .ireturn, 1, zr0),
  (51, 90, none, .aload_n 1, 1, zr0),
  (52, 91, none, .bipush 33, 2, zr0),
  (53, 93, none, .invokevirtual 34, 3, (zrM 0 2 [3065, 3066, 3067, 1007, 3068] h_La_addSign)),
  (54, 96, none, .iconst 1, 1, zr0),
  (55, 97, none, .ireturn, 1, zr0),
  (56, 98, none, .iload_n 3, 1, zr0),
  (57, 99, none, .ifCond .ne 14, 3, (zrT 65)),
  (58, 102, none, .aload_n 0, 1, zr0),
  (59, 103, none, .aload_n 1, 1, zr0),
  (60, 104, none, .iload_n 2, 1, zr0),
  (61, 105, none, .invokevirtual 46, 3, (zrM 0 3 [3053, 3055, 4, 1005, 3056] h_LR_sum)),
  (62, 108, none, .ifCond .ne 5, 3, (zrT 65)),
  (63, 111, none, .iconst 0, 1, zr0),
  (64, 112, none, .ireturn, 1, zr0),
  (65, 113, none, .aload_n 0, 1, zr0),
  (66, 114, none, .invokevirtual 42, 3, (zrM 1 3 [3050, 3051, 3052, 2177, 1003, 2178] h_LR_sign)),
  (67, 117, none, .istore 5, 2, zr0),
  (68, 119, none, .iload 5, 2, zr0),
  (69, 121, none, .invokestatic 50, 3, (zrM 2 0 [3077, 3078, 1005, 3079] h_LR_compares)),
  (70, 124, none, .ifCond .ne 5, 3, (zrT 73)),
  (71, 127, none, .iconst 0, 1, zr0),
  (72, 128, none, .ireturn, 1, zr0),
  (73, 129, none, .aload_n 0, 1, zr0),
  (74, 130, none, .dup, 1, zr0),
  (75, 131, none, .getfield 9, 3, (zrK 0 3 1 0 [1069, 1070])),
  (76, 134, none, .iconst 1, 1, zr0),
  (77, 135, none, .iadd, 1, zr0),
  (78, 136, none, .putfield 9, 3, (zrK 0 3 1 0 [1069, 1070])),
  (79, 139, none, .aload_n 0, 1, zr0),
  (80, 140, none, .aload_n 1, 1, zr0),
  (81, 141, none, .iload_n 2, 1, zr0),
  (82, 142, none, .invokevirtual 46, 3, (zrM 0 3 [3053, 3055, 4, 1005, 3056] h_LR_sum)),
  (83, 145, none, .ifCond .ne 5, 3, (zrT 86)),
  (84, 148, none, .iconst 0, 1, zr0),
  (85, 149, none, .ireturn, 1, zr0),
  (86, 150, none, .aload_n 1, 1, zr0),
  (87, 151, none, .iload 5, 2, zr0),
  (88, 153, none, .invokevirtual 34, 3, (zrM 0 2 [3065, 3066, 3067, 1007, 3068] h_La_addSign)),
  (89, 156, none, .iconst 1, 1, zr0),
  (90, 157, none, .ireturn, 1, zr0)]
theorem ck_LR_unit : zck h_LR_unit k_LR_unit = true := by decide +kernel
theorem ok_LR_unit : zhok h_LR_unit = true := by decide +kernel
def k_LR_compares : List zIns := [
  (0, 0, none, .iload_n 0, 1, zr0),
  (1, 1, none, .bipush 61, 2, zr0),
  (2, 3, none, .if_icmp .eq 15, 3, (zrT 9)),
  (3, 6, none, .iload_n 0, 1, zr0),
  (4, 7, none, .bipush 60, 2, zr0),
  (5, 9, none, .if_icmp .eq 9, 3, (zrT 9)),
  (6, 12, none, .iload_n 0, 1, zr0),
  (7, 13, none, .bipush 62, 2, zr0),
  (8, 15, none, .if_icmp .ne 7, 3, (zrT 11)),
  (9, 18, none, .iconst 1, 1, zr0),
  (10, 19, none, .goto 4, 3, (zrT 12)),
  (11, 22, none, .iconst 0, 1, zr0),
  (12, 23, none, .ireturn, 1, zr0)]
theorem ck_LR_compares : zck h_LR_compares k_LR_compares = true := by decide +kernel
theorem ok_LR_compares : zhok h_LR_compares = true := by decide +kernel
def k_LR_sum : List zIns := [
  (0, 0, none, .bipush 43, 2, zr0),
  (1, 2, none, .istore_n 3, 1, zr0),
  (2, 3, none, .iconst 0, 1, zr0),
  (3, 4, none, .istore 4, 2, zr0),
  (4, 6, (some [true, true, true, true, true]), .iload 4, 2, zr0),
  (5, 8, none, .aload_n 0, 1, zr0),
  (6, 9, none, .getfield 21, 3, (zrK (-3) 3 0 2 [1064, 1065])),
  (7, 12, none, .getfield 25, 3, (zrK 0 6 1 0 [1043])),
  (8, 15, none, .if_icmp .gt 59, 3, (zrT 40)),
  (9, 18, none, .aload_n 0, 1, zr0),
  (10, 19, none, .aload_n 1, 1, zr0),
  (11, 20, none, .iload_n 2, 1, zr0),
  (12, 21, none, .invokevirtual 63, 3, (zrM 0 3 [3057, 3059, 5, 1005, 3060] h_LR_term)),
  (13, 24, none, .ifCond .ne 5, 3, (zrT 16)),
  (14, 27, none, .iconst 0, 1, zr0),
  (15, 28, none, .ireturn, 1, zr0),
  (16, 29, none, .iload 4, 2, zr0),
  (17, 31, none, .ifCond .le 8, 3, (zrT 21)),
  (18, 34, none, .aload_n 1, 1, zr0),
  (19, 35, none, .iload_n 3, 1, zr0),
  (20, 36, none, .invokevirtual 34, 3, (zrM 0 2 [3065, 3066, 3067, 1007, 3068] h_La_addSign)),
  (21, 39, none, .aload_n 0, 1, zr0),
  (22, 40, none, .invokevirtual 42, 3, (zrM 1 3 [3050, 3051, 3052, 2177, 1003, 2178] h_LR_sign)),
  (23, 43, none, .istore_n 3, 1, zr0),
  (24, 44, none, .iload_n 3, 1, zr0),
  (25, 45, none, .bipush 43, 2, zr0),
  (26, 47, none, .if_icmp .eq 11, 3, (zrT 32)),
  (27, 50, none, .iload_n 3, 1, zr0),
  (28, 51, none, .bipush 45, 2, zr0),
  (29, 53, none, .if_icmp .eq 5, 3, (zrT 32)),
  (30, 56, none, .iconst 1, 1, zr0),
  (31, 57, none, .ireturn, 1, zr0),
  (32, 58, none, .aload_n 0, 1, zr0),
  (33, 59, none, .dup, 1, zr0),
  (34, 60, none, .getfield 9, 3, (zrK 0 3 1 0 [1069, 1070])),
  (35, 63, none, .iconst 1, 1, zr0),
  (36, 64, none, .iadd, 1, zr0),
  (37, 65, none, .putfield 9, 3, (zrK 0 3 1 0 [1069, 1070])),
  (38, 68, none, .iinc 4 1, 3, zr0),
  (39, 71, none, .goto (-65), 3, (zrT 4)),
  (40, 74, none, .iconst 0, 1, zr0),
  (41, 75, none, .ireturn, 1, zr0)]
theorem ck_LR_sum : zck h_LR_sum k_LR_sum = true := by decide +kernel
theorem ok_LR_sum : zhok h_LR_sum = true := by decide +kernel
def k_LR_term : List zIns := [
  (0, 0, none, .bipush 42, 2, zr0),
  (1, 2, none, .istore_n 3, 1, zr0),
  (2, 3, none, .iconst 0, 1, zr0),
  (3, 4, none, .istore 4, 2, zr0),
  (4, 6, (some [true, true, true, true, true]), .iload 4, 2, zr0),
  (5, 8, none, .aload_n 0, 1, zr0),
  (6, 9, none, .getfield 21, 3, (zrK (-3) 3 0 2 [1064, 1065])),
  (7, 12, none, .getfield 25, 3, (zrK 0 6 1 0 [1043])),
  (8, 15, none, .if_icmp .gt 59, 3, (zrT 40)),
  (9, 18, none, .aload_n 0, 1, zr0),
  (10, 19, none, .aload_n 1, 1, zr0),
  (11, 20, none, .iload_n 2, 1, zr0),
  (12, 21, none, .invokevirtual 66, 3, (zrM 0 3 [3061, 3063, 6, 1005, 3064] h_LR_atom)),
  (13, 24, none, .ifCond .ne 5, 3, (zrT 16)),
  (14, 27, none, .iconst 0, 1, zr0),
  (15, 28, none, .ireturn, 1, zr0),
  (16, 29, none, .iload 4, 2, zr0),
  (17, 31, none, .ifCond .le 8, 3, (zrT 21)),
  (18, 34, none, .aload_n 1, 1, zr0),
  (19, 35, none, .iload_n 3, 1, zr0),
  (20, 36, none, .invokevirtual 34, 3, (zrM 0 2 [3065, 3066, 3067, 1007, 3068] h_La_addSign)),
  (21, 39, none, .aload_n 0, 1, zr0),
  (22, 40, none, .invokevirtual 42, 3, (zrM 1 3 [3050, 3051, 3052, 2177, 1003, 2178] h_LR_sign)),
  (23, 43, none, .istore_n 3, 1, zr0),
  (24, 44, none, .iload_n 3, 1, zr0),
  (25, 45, none, .bipush 42, 2, zr0),
  (26, 47, none, .if_icmp .eq 11, 3, (zrT 32)),
  (27, 50, none, .iload_n 3, 1, zr0),
  (28, 51, none, .bipush 47, 2, zr0),
  (29, 53, none, .if_icmp .eq 5, 3, (zrT 32)),
  (30, 56, none, .iconst 1, 1, zr0),
  (31, 57, none, .ireturn, 1, zr0),
  (32, 58, none, .aload_n 0, 1, zr0),
  (33, 59, none, .dup, 1, zr0),
  (34, 60, none, .getfield 9, 3, (zrK 0 3 1 0 [1069, 1070])),
  (35, 63, none, .iconst 1, 1, zr0),
  (36, 64, none, .iadd, 1, zr0),
  (37, 65, none, .putfield 9, 3, (zrK 0 3 1 0 [1069, 1070])),
  (38, 68, none, .iinc 4 1, 3, zr0),
  (39, 71, none, .goto (-65), 3, (zrT 4)),
  (40, 74, none, .iconst 0, 1, zr0),
  (41, 75, none, .ireturn, 1, zr0)]
theorem ck_LR_term : zck h_LR_term k_LR_term = true := by decide +kernel
theorem ok_LR_term : zhok h_LR_term = true := by decide +kernel
def k_LR_atom : List zIns := [
  (0, 0, none, .aload_n 0, 1, zr0),
  (1, 1, none, .invokevirtual 42, 3, (zrM 1 3 [3050, 3051, 3052, 2177, 1003, 2178] h_LR_sign)),
  (2, 4, none, .istore_n 3, 1, zr0),
  (3, 5, none, .iload_n 3, 1, zr0),
  (4, 6, none, .lookupswitch 119 #[(91, 58), (99, 102), (100, 102), (104, 102), (114, 102), (115, 102)], 58, (zrF 42 0 0 [5, 31, 31, 31, 31, 31])),
  (5, 64, none, .iload_n 2, 1, zr0),
  (6, 65, none, .bipush 6, 2, zr0),
  (7, 67, none, .if_icmp .ne 5, 3, (zrT 10)),
  (8, 70, none, .iconst 0, 1, zr0),
  (9, 71, none, .ireturn, 1, zr0),
  (10, 72, none, .aload_n 0, 1, zr0),
  (11, 73, none, .dup, 1, zr0),
  (12, 74, none, .getfield 9, 3, (zrK 0 3 1 0 [1069, 1070])),
  (13, 77, none, .iconst 1, 1, zr0),
  (14, 78, none, .iadd, 1, zr0),
  (15, 79, none, .putfield 9, 3, (zrK 0 3 1 0 [1069, 1070])),
  (16, 82, none, .aload_n 0, 1, zr0),
  (17, 83, none, .aload_n 1, 1, zr0),
  (18, 84, none, .iload_n 2, 1, zr0),
  (19, 85, none, .iconst 1, 1, zr0),
  (20, 86, none, .iadd, 1, zr0),
  (21, 87, none, .invokevirtual 46, 3, (zrM 0 3 [3053, 3055, 4, 1005, 3056] h_LR_sum)),
  (22, 90, none, .ifCond .eq 16, 3, (zrT 29)),
  (23, 93, none, .aload_n 0, 1, zr0),
  (24, 94, none, .bipush 93, 2, zr0),
  (25, 96, none, .invokevirtual 38, 3, (zrM 1 3 [3047, 3048, 3049, 3018, 1003, 3019] h_LR_takes)),
  (26, 99, none, .ifCond .eq 7, 3, (zrT 29)),
  (27, 102, none, .iconst 1, 1, zr0),
  (28, 103, none, .goto 4, 3, (zrT 30)),
  (29, 106, none, .iconst 0, 1, zr0),
  (30, 107, none, .ireturn, 1, zr0),
  (31, 108, none, .aload_n 0, 1, zr0),
  (32, 109, none, .dup, 1, zr0),
  (33, 110, none, .getfield 9, 3, (zrK 0 3 1 0 [1069, 1070])),
  (34, 113, none, .iconst 1, 1, zr0),
  (35, 114, none, .iadd, 1, zr0),
  (36, 115, none, .putfield 9, 3, (zrK 0 3 1 0 [1069, 1070])),
  (37, 118, none, .aload_n 1, 1, zr0),
  (38, 119, none, .iload_n 3, 1, zr0),
  (39, 120, none, .invokevirtual 34, 3, (zrM 0 2 [3065, 3066, 3067, 1007, 3068] h_La_addSign)),
  (40, 123, none, .iconst 1, 1, zr0),
  (41, 124, none, .ireturn, 1, zr0),
  (42, 125, none, .aload_n 0, 1, zr0),
  (43, 126, none, .iconst 4, 1, zr0),
  (44, 127, none, .invokevirtual 69, 3, (zrM 1 3 [3073, 3074, 3075, 3003, 1003, 3004] h_LR_digits)),
  (45, 130, none, .istore 4, 2, zr0),
  (46, 132, none, .iload 4, 2, zr0),
  (47, 134, none, .iconst (-1), 1, zr0),
  (48, 135, none, .if_icmp .ne 5, 3, (zrT 51)),
  (49, 138, none, .iconst 0, 1, zr0),
  (50, 139, none, .ireturn, 1, zr0),
  (51, 140, none, .aload_n 1, 1, zr0),
  (52, 141, none, .iload 4, 2, zr0),
  (53, 143, none, .invokevirtual 73, 3, (zrM 0 2 [3076, 3070, 3071, 1007, 3072] h_La_addNumber)),
  (54, 146, none, .iconst 1, 1, zr0),
  (55, 147, none, .ireturn, 1, zr0)]
theorem ck_LR_atom : zck h_LR_atom k_LR_atom = true := by decide +kernel
theorem ok_LR_atom : zhok h_LR_atom = true := by decide +kernel
def k_Sk_init : List zIns := [
  (0, 0, none, .aload_n 0, 1, zr0),
  (1, 1, none, .invokespecial 3, 3, (zrM 5 0 [1090, 1031, 1032] zh0)),
  (2, 4, none, .aload_n 0, 1, zr0),
  (3, 5, none, .iconst 5, 1, zr0),
  (4, 6, none, .anewarray 9, 3, (zrF 23 0 0 [1091])),
  (5, 9, none, .putfield 11, 3, (zrK 1 5 0 4 [1112])),
  (6, 12, none, .aload_n 0, 1, zr0),
  (7, 13, none, .sipush 9216, 3, zr0),
  (8, 16, none, .newarray .int, 2, (zrF 20 0 0 [1051])),
  (9, 18, none, .putfield 17, 3, (zrK 2 5 1 4 [1113])),
  (10, 21, none, .aload_n 0, 1, zr0),
  (11, 22, none, .iconst 4, 1, zr0),
  (12, 23, none, .newarray .int, 2, (zrF 20 0 0 [1051])),
  (13, 25, none, .putfield 21, 3, (zrK 3 5 2 4 [1114])),
  (14, 28, none, .aload_n 0, 1, zr0),
  (15, 29, none, .iconst (-1), 1, zr0),
  (16, 30, none, .putfield 24, 3, (zrK 0 5 4 0 [1117])),
  (17, 33, none, .iconst 0, 1, zr0),
  (18, 34, none, .istore_n 1, 1, zr0),
  (19, 35, (some [true, true]), .iload_n 1, 1, zr0),
  (20, 36, none, .aload_n 0, 1, zr0),
  (21, 37, none, .getfield 11, 3, (zrK 1 5 0 2 [1112])),
  (22, 40, none, .arraylength, 1, zr0),
  (23, 41, none, .if_icmp .ge 22, 3, (zrT 33)),
  (24, 44, none, .aload_n 0, 1, zr0),
  (25, 45, none, .getfield 11, 3, (zrK 1 5 0 2 [1112])),
  (26, 48, none, .iload_n 1, 1, zr0),
  (27, 49, none, .new 9, 3, (zrF 2 0 0 [1091, 1093, 1007])),
  (28, 52, none, .dup, 1, zr0),
  (29, 53, none, .invokespecial 28, 3, (zrM 4 0 [1007, 1095, 1096] h_La_init)),
  (30, 56, none, .aastore, 1, zr0),
  (31, 57, none, .iinc 1 1, 3, zr0),
  (32, 60, none, .goto (-25), 3, (zrT 19)),
  (33, 63, none, .return_, 1, zr0)]
theorem ck_Sk_init : zck h_Sk_init k_Sk_init = true := by decide +kernel
theorem ok_Sk_init : zhok h_Sk_init = true := by decide +kernel
def k_Sk_draft : List zIns := [
  (0, 0, none, .aload_n 0, 1, zr0),
  (1, 1, none, .getfield 11, 3, (zrK 1 5 0 2 [1112])),
  (2, 4, none, .aload_n 0, 1, zr0),
  (3, 5, none, .getfield 29, 3, (zrK 0 5 3 0 [1115])),
  (4, 8, none, .iconst 4, 1, zr0),
  (5, 9, none, .invokestatic 32, 3, (zrM 11 0 [3032, 3033, 1018, 3034] zh0)),
  (6, 12, none, .aaload, 1, zr0),
  (7, 13, none, .areturn, 1, zr0)]
theorem ck_Sk_draft : zck h_Sk_draft k_Sk_draft = true := by decide +kernel
theorem ok_Sk_draft : zhok h_Sk_draft = true := by decide +kernel
def k_Sk_obey : List zIns := [
  (0, 0, none, .aload_n 0, 1, zr0),
  (1, 1, none, .iload_n 1, 1, zr0),
  (2, 2, none, .putfield 24, 3, (zrK 0 5 4 0 [1117])),
  (3, 5, none, .iconst 0, 1, zr0),
  (4, 6, none, .istore_n 2, 1, zr0),
  (5, 7, (some [true, false, true]), .iload_n 2, 1, zr0),
  (6, 8, none, .iconst 4, 1, zr0),
  (7, 9, none, .if_icmp .ge 16, 3, (zrT 15)),
  (8, 12, none, .aload_n 0, 1, zr0),
  (9, 13, none, .getfield 21, 3, (zrK 3 5 2 2 [1114])),
  (10, 16, none, .iload_n 2, 1, zr0),
  (11, 17, none, .iconst (-1), 1, zr0),
  (12, 18, none, .iastore, 1, zr0),
  (13, 19, none, .iinc 2 1, 3, zr0),
  (14, 22, none, .goto (-15), 3, (zrT 5)),
  (15, 25, none, .return_, 1, zr0)]
theorem ck_Sk_obey : zck h_Sk_obey k_Sk_obey = true := by decide +kernel
theorem ok_Sk_obey : zhok h_Sk_obey = true := by decide +kernel
def k_Sk_rainsAt : List zIns := [
  (0, 0, none, .aload_n 0, 1, zr0),
  (1, 1, none, .getfield 38, 3, (zrK 0 5 5 0 [1119])),
  (2, 4, none, .iload_n 1, 1, zr0),
  (3, 5, none, .bipush 24, 2, zr0),
  (4, 7, none, .irem, 1, (zrF 0 0 1 [])),
  (5, 8, none, .ishr, 1, zr0),
  (6, 9, none, .iconst 1, 1, zr0),
  (7, 10, none, .iand, 1, zr0),
  (8, 11, none, .iconst 1, 1, zr0),
  (9, 12, none, .if_icmp .ne 7, 3, (zrT 12)),
  (10, 15, none, .iconst 1, 1, zr0),
  (11, 16, none, .goto 4, 3, (zrT 13)),
  (12, 19, none, .iconst 0, 1, zr0),
  (13, 20, none, .ireturn, 1, zr0)]
theorem ck_Sk_rainsAt : zck h_Sk_rainsAt k_Sk_rainsAt = true := by decide +kernel
theorem ok_Sk_rainsAt : zhok h_Sk_rainsAt = true := by decide +kernel
def k_Sk_sunOn : List zIns := [
  (0, 0, none, .iload_n 1, 1, zr0),
  (1, 1, none, .bipush 24, 2, zr0),
  (2, 3, none, .irem, 1, (zrF 0 0 1 [])),
  (3, 4, none, .istore 5, 2, zr0),
  (4, 6, none, .aload_n 0, 1, zr0),
  (5, 7, none, .getfield 24, 3, (zrK 0 5 4 0 [1117])),
  (6, 10, none, .ifCond .lt 15, 3, (zrT 13)),
  (7, 13, none, .aload_n 0, 1, zr0),
  (8, 14, none, .getfield 24, 3, (zrK 0 5 4 0 [1117])),
  (9, 17, none, .aload_n 0, 1, zr0),
  (10, 18, none, .getfield 11, 3, (zrK 1 5 0 2 [1112])),
  (11, 21, none, .arraylength, 1, zr0),
  (12, 22, none, .if_icmp .lt 23, 3, (zrT 23)),
  (13, 25, none, .iload 5, 2, zr0),
  (14, 27, none, .bipush 8, 2, zr0),
  (15, 29, none, .if_icmp .lt 14, 3, (zrT 21)),
  (16, 32, none, .iload 5, 2, zr0),
  (17, 34, none, .bipush 15, 2, zr0),
  (18, 36, none, .if_icmp .gt 7, 3, (zrT 21)),
  (19, 39, none, .iconst 5, 1, zr0),
  (20, 40, none, .goto 4, 3, (zrT 22)),
  (21, 43, none, .iconst 0, 1, zr0),
  (22, 44, none, .ireturn, 1, zr0),
  (23, 45, none, .aload_n 0, 1, zr0),
  (24, 46, none, .getfield 11, 3, (zrK 1 5 0 2 [1112])),
  (25, 49, none, .aload_n 0, 1, zr0),
  (26, 50, none, .getfield 24, 3, (zrK 0 5 4 0 [1117])),
  (27, 53, none, .aaload, 1, zr0),
  (28, 54, none, .astore 6, 2, zr0),
  (29, 56, none, .aload 6, 2, zr0),
  (30, 58, none, .getfield 41, 3, (zrK 0 2 3 0 [1102])),
  (31, 61, none, .ifCond .eq 10, 3, (zrT 36)),
  (32, 64, none, .iload_n 1, 1, zr0),
  (33, 65, none, .bipush 24, 2, zr0),
  (34, 67, none, .idiv, 1, (zrF 0 0 1 [])),
  (35, 68, none, .goto 4, 3, (zrT 37)),
  (36, 71, none, .iconst 0, 1, zr0),
  (37, 72, none, .istore 7, 2, zr0),
  (38, 74, none, .iload 7, 2, zr0),
  (39, 76, none, .iconst 4, 1, zr0),
  (40, 77, none, .irem, 1, (zrF 0 0 1 [])),
  (41, 78, none, .istore 8, 2, zr0),
  (42, 80, none, .iload 8, 2, zr0),
  (43, 82, none, .sipush 2304, 3, zr0),
  (44, 85, none, .imul, 1, zr0),
  (45, 86, none, .iload 5, 2, zr0),
  (46, 88, none, .bipush 24, 2, zr0),
  (47, 90, none, .imul, 1, zr0),
  (48, 91, none, .iload_n 2, 1, zr0),
  (49, 92, none, .bipush 6, 2, zr0),
  (50, 94, none, .imul, 1, zr0),
  (51, 95, none, .iadd, 1, zr0),
  (52, 96, none, .iload_n 3, 1, zr0),
  (53, 97, none, .iadd, 1, zr0),
  (54, 98, none, .iconst 4, 1, zr0),
  (55, 99, none, .imul, 1, zr0),
  (56, 100, none, .iadd, 1, zr0),
  (57, 101, none, .iload 4, 2, zr0),
  (58, 103, none, .iadd, 1, zr0),
  (59, 104, none, .istore 9, 2, zr0),
  (60, 106, none, .iload 9, 2, zr0),
  (61, 108, none, .ifCond .lt 13, 3, (zrT 67)),
  (62, 111, none, .iload 9, 2, zr0),
  (63, 113, none, .aload_n 0, 1, zr0),
  (64, 114, none, .getfield 17, 3, (zrK 2 5 1 2 [1113])),
  (65, 117, none, .arraylength, 1, zr0),
  (66, 118, none, .if_icmp .lt 5, 3, (zrT 69)),
  (67, 121, none, .iconst 0, 1, zr0),
  (68, 122, none, .ireturn, 1, zr0),
  (69, 123, none, .aload_n 0, 1, zr0),
  (70, 124, none, .getfield 21, 3, (zrK 3 5 2 2 [1114])),
  (71, 127, none, .iload 8, 2, zr0),
  (72, 129, none, .iaload, 1, zr0),
  (73, 130, none, .iload 7, 2, zr0),
  (74, 132, none, .if_icmp .eq 11, 3, (zrT 79)),
  (75, 135, none, .aload_n 0, 1, zr0),
  (76, 136, none, .iload 8, 2, zr0),
  (77, 138, none, .iload 7, 2, zr0),
  (78, 140, none, .invokevirtual 45, 3, (zrM 0 5 [3196, 3198, 12, 1006, 3199] h_Sk_turnTo)),
  (79, 143, none, .aload_n 0, 1, zr0),
  (80, 144, none, .getfield 17, 3, (zrK 2 5 1 2 [1113])),
  (81, 147, none, .iload 9, 2, zr0),
  (82, 149, none, .iaload, 1, zr0),
  (83, 150, none, .iconst (-1), 1, zr0),
  (84, 151, none, .if_icmp .ne 45, 3, (zrT 106)),
  (85, 154, none, .aload 6, 2, zr0),
  (86, 156, none, .iload_n 1, 1, zr0),
  (87, 157, none, .iload_n 2, 1, zr0),
  (88, 158, none, .iload_n 3, 1, zr0),
  (89, 159, none, .iload 4, 2, zr0),
  (90, 161, none, .invokevirtual 49, 3, (zrM 0 2 [3200, 3201, 3202, 1007, 3203] h_La_worth)),
  (91, 164, none, .istore 10, 2, zr0),
  (92, 166, none, .aload_n 0, 1, zr0),
  (93, 167, none, .getfield 17, 3, (zrK 2 5 1 2 [1113])),
  (94, 170, none, .iload 9, 2, zr0),
  (95, 172, none, .iload 10, 2, zr0),
  (96, 174, none, .ifCond .ge 7, 3, (zrT 99)),
  (97, 177, none, .iconst 0, 1, zr0),
  (98, 178, none, .goto 17, 3, (zrT 105)),
  (99, 181, none, .iload 10, 2, zr0),
  (100, 183, none, .bipush 9, 2, zr0),
  (101, 185, none, .if_icmp .le 8, 3, (zrT 104)),
  (102, 188, none, .bipush 9, 2, zr0),
  (103, 190, none, .goto 5, 3, (zrT 105)),
  (104, 193, none, .iload 10, 2, zr0),
  (105, 195, none, .iastore, 1, zr0),
  (106, 196, none, .aload_n 0, 1, zr0),
  (107, 197, none, .getfield 17, 3, (zrK 2 5 1 2 [1113])),
  (108, 200, none, .iload 9, 2, zr0),
  (109, 202, none, .iaload, 1, zr0),
  (110, 203, none, .ireturn, 1, zr0)]
theorem ck_Sk_sunOn : zck h_Sk_sunOn k_Sk_sunOn = true := by decide +kernel
theorem ok_Sk_sunOn : zhok h_Sk_sunOn = true := by decide +kernel
def k_Sk_turnTo : List zIns := [
  (0, 0, none, .aload_n 0, 1, zr0),
  (1, 1, none, .getfield 21, 3, (zrK 3 5 2 2 [1114])),
  (2, 4, none, .iload_n 1, 1, zr0),
  (3, 5, none, .iload_n 2, 1, zr0),
  (4, 6, none, .iastore, 1, zr0),
  (5, 7, none, .iload_n 1, 1, zr0),
  (6, 8, none, .sipush 2304, 3, zr0),
  (7, 11, none, .imul, 1, zr0),
  (8, 12, none, .istore_n 3, 1, zr0),
  (9, 13, (some [true, true, false, true]), .iload_n 3, 1, zr0),
  (10, 14, none, .iload_n 1, 1, zr0),
  (11, 15, none, .iconst 1, 1, zr0),
  (12, 16, none, .iadd, 1, zr0),
  (13, 17, none, .sipush 2304, 3, zr0),
  (14, 20, none, .imul, 1, zr0),
  (15, 21, none, .if_icmp .ge 16, 3, (zrT 23)),
  (16, 24, none, .aload_n 0, 1, zr0),
  (17, 25, none, .getfield 17, 3, (zrK 2 5 1 2 [1113])),
  (18, 28, none, .iload_n 3, 1, zr0),
  (19, 29, none, .iconst (-1), 1, zr0),
  (20, 30, none, .iastore, 1, zr0),
  (21, 31, none, .iinc 3 1, 3, zr0),
  (22, 34, none, .goto (-21), 3, (zrT 9)),
  (23, 37, none, .return_, 1, zr0)]
theorem ck_Sk_turnTo : zck h_Sk_turnTo k_Sk_turnTo = true := by decide +kernel
theorem ok_Sk_turnTo : zhok h_Sk_turnTo = true := by decide +kernel
def k_Co_init : List zIns := [
  (0, 0, none, .aload_n 0, 1, zr0),
  (1, 1, none, .invokespecial 3, 3, (zrM 5 0 [1139, 1031, 1032] zh0)),
  (2, 4, none, .aload_n 0, 1, zr0),
  (3, 5, none, .bipush 24, 2, zr0),
  (4, 7, none, .newarray .int, 2, (zrF 20 0 0 [1051])),
  (5, 9, none, .putfield 9, 3, (zrK 1 0 0 4 [1140])),
  (6, 12, none, .aload_n 0, 1, zr0),
  (7, 13, none, .bipush 24, 2, zr0),
  (8, 15, none, .newarray .int, 2, (zrF 20 0 0 [1051])),
  (9, 17, none, .putfield 15, 3, (zrK 2 0 1 4 [1143])),
  (10, 20, none, .aload_n 0, 1, zr0),
  (11, 21, none, .bipush 24, 2, zr0),
  (12, 23, none, .newarray .int, 2, (zrF 20 0 0 [1051])),
  (13, 25, none, .putfield 18, 3, (zrK 3 0 2 4 [1145])),
  (14, 28, none, .aload_n 0, 1, zr0),
  (15, 29, none, .iconst 3, 1, zr0),
  (16, 30, none, .newarray .int, 2, (zrF 20 0 0 [1051])),
  (17, 32, none, .putfield 21, 3, (zrK 4 0 3 4 [1147])),
  (18, 35, none, .aload_n 0, 1, zr0),
  (19, 36, none, .iconst 3, 1, zr0),
  (20, 37, none, .newarray .int, 2, (zrF 20 0 0 [1051])),
  (21, 39, none, .putfield 24, 3, (zrK 5 0 4 4 [1149])),
  (22, 42, none, .aload_n 0, 1, zr0),
  (23, 43, none, .bipush 24, 2, zr0),
  (24, 45, none, .newarray .int, 2, (zrF 20 0 0 [1051])),
  (25, 47, none, .putfield 27, 3, (zrK 6 0 5 4 [1151])),
  (26, 50, none, .aload_n 0, 1, zr0),
  (27, 51, none, .bipush 24, 2, zr0),
  (28, 53, none, .newarray .int, 2, (zrF 20 0 0 [1051])),
  (29, 55, none, .putfield 30, 3, (zrK 7 0 6 4 [1153])),
  (30, 58, none, .aload_n 0, 1, zr0),
  (31, 59, none, .bipush 24, 2, zr0),
  (32, 61, none, .newarray .int, 2, (zrF 20 0 0 [1051])),
  (33, 63, none, .putfield 33, 3, (zrK 8 0 7 4 [1155])),
  (34, 66, none, .return_, 1, zr0)]
theorem ck_Co_init : zck h_Co_init k_Co_init = true := by decide +kernel
theorem ok_Co_init : zhok h_Co_init = true := by decide +kernel
def k_Co_begin : List zIns := [
  (0, 0, none, .aload_n 0, 1, zr0),
  (1, 1, none, .iconst 0, 1, zr0),
  (2, 2, none, .putfield 36, 3, (zrK 0 0 8 0 [1156])),
  (3, 5, none, .iconst 0, 1, zr0),
  (4, 6, none, .istore_n 2, 1, zr0),
  (5, 7, (some [true, true, true]), .iload_n 2, 1, zr0),
  (6, 8, none, .aload_n 1, 1, zr0),
  (7, 9, none, .getfield 40, 3, (zrK 0 8 11 0 [2074])),
  (8, 12, none, .if_icmp .ge 28, 3, (zrT 24)),
  (9, 15, none, .aload_n 0, 1, zr0),
  (10, 16, none, .getfield 9, 3, (zrK 1 0 0 2 [1140])),
  (11, 19, none, .iload_n 2, 1, zr0),
  (12, 20, none, .iconst 0, 1, zr0),
  (13, 21, none, .iastore, 1, zr0),
  (14, 22, none, .aload_n 0, 1, zr0),
  (15, 23, none, .getfield 18, 3, (zrK 3 0 2 2 [1145])),
  (16, 26, none, .iload_n 2, 1, zr0),
  (17, 27, none, .aload_n 1, 1, zr0),
  (18, 28, none, .getfield 45, 3, (zrK 11 8 7 2 [2065])),
  (19, 31, none, .iload_n 2, 1, zr0),
  (20, 32, none, .iaload, 1, zr0),
  (21, 33, none, .iastore, 1, zr0),
  (22, 34, none, .iinc 2 1, 3, zr0),
  (23, 37, none, .goto (-30), 3, (zrT 5)),
  (24, 40, none, .iconst 0, 1, zr0),
  (25, 41, none, .istore_n 2, 1, zr0),
  (26, 42, (some [true, true, true]), .iload_n 2, 1, zr0),
  (27, 43, none, .aload_n 1, 1, zr0),
  (28, 44, none, .getfield 48, 3, (zrK 3 8 1 2 [2048])),
  (29, 47, none, .getfield 52, 3, (zrK 0 1 6 0 [2011])),
  (30, 50, none, .if_icmp .ge 39, 3, (zrT 51)),
  (31, 53, none, .aload_n 0, 1, zr0),
  (32, 54, none, .getfield 21, 3, (zrK 4 0 3 2 [1147])),
  (33, 57, none, .iload_n 2, 1, zr0),
  (34, 58, none, .aload_n 1, 1, zr0),
  (35, 59, none, .getfield 48, 3, (zrK 3 8 1 2 [2048])),
  (36, 62, none, .iload_n 2, 1, zr0),
  (37, 63, none, .iconst 2, 1, zr0),
  (38, 64, none, .invokevirtual 57, 3, (zrM 0 1 [3108, 3025, 3026, 1012, 3027] h_Ki_number)),
  (39, 67, none, .iastore, 1, zr0),
  (40, 68, none, .aload_n 0, 1, zr0),
  (41, 69, none, .getfield 24, 3, (zrK 5 0 4 2 [1149])),
  (42, 72, none, .iload_n 2, 1, zr0),
  (43, 73, none, .aload_n 1, 1, zr0),
  (44, 74, none, .getfield 48, 3, (zrK 3 8 1 2 [2048])),
  (45, 77, none, .iload_n 2, 1, zr0),
  (46, 78, none, .iconst 3, 1, zr0),
  (47, 79, none, .invokevirtual 57, 3, (zrM 0 1 [3108, 3025, 3026, 1012, 3027] h_Ki_number)),
  (48, 82, none, .iastore, 1, zr0),
  (49, 83, none, .iinc 2 1, 3, zr0),
  (50, 86, none, .goto (-44), 3, (zrT 26)),
  (51, 89, none, .return_, 1, zr0)]
theorem ck_Co_begin : zck h_Co_begin k_Co_begin = true := by decide +kernel
theorem ok_Co_begin : zhok h_Co_begin = true := by decide +kernel
def k_Co_follow : List zIns := [
  (0, 0, none, .aload_n 0, 1, zr0),
  (1, 1, none, .aload_n 1, 1, zr0),
  (2, 2, none, .getfield 36, 3, (zrK 0 0 8 0 [1156])),
  (3, 5, none, .putfield 36, 3, (zrK 0 0 8 0 [1156])),
  (4, 8, none, .aload_n 1, 1, zr0),
  (5, 9, none, .getfield 9, 3, (zrK 1 0 0 2 [1140])),
  (6, 12, none, .iconst 0, 1, zr0),
  (7, 13, none, .aload_n 0, 1, zr0),
  (8, 14, none, .getfield 9, 3, (zrK 1 0 0 2 [1140])),
  (9, 17, none, .iconst 0, 1, zr0),
  (10, 18, none, .bipush 24, 2, zr0),
  (11, 20, none, .invokestatic 61, 3, (zrM 7 0 [4019, 3181, 3180, 1023] zh0)),
  (12, 23, none, .aload_n 1, 1, zr0),
  (13, 24, none, .getfield 18, 3, (zrK 3 0 2 2 [1145])),
  (14, 27, none, .iconst 0, 1, zr0),
  (15, 28, none, .aload_n 0, 1, zr0),
  (16, 29, none, .getfield 18, 3, (zrK 3 0 2 2 [1145])),
  (17, 32, none, .iconst 0, 1, zr0),
  (18, 33, none, .bipush 24, 2, zr0),
  (19, 35, none, .invokestatic 61, 3, (zrM 7 0 [4019, 3181, 3180, 1023] zh0)),
  (20, 38, none, .aload_n 1, 1, zr0),
  (21, 39, none, .getfield 21, 3, (zrK 4 0 3 2 [1147])),
  (22, 42, none, .iconst 0, 1, zr0),
  (23, 43, none, .aload_n 0, 1, zr0),
  (24, 44, none, .getfield 21, 3, (zrK 4 0 3 2 [1147])),
  (25, 47, none, .iconst 0, 1, zr0),
  (26, 48, none, .iconst 3, 1, zr0),
  (27, 49, none, .invokestatic 61, 3, (zrM 7 0 [4019, 3181, 3180, 1023] zh0)),
  (28, 52, none, .aload_n 1, 1, zr0),
  (29, 53, none, .getfield 24, 3, (zrK 5 0 4 2 [1149])),
  (30, 56, none, .iconst 0, 1, zr0),
  (31, 57, none, .aload_n 0, 1, zr0),
  (32, 58, none, .getfield 24, 3, (zrK 5 0 4 2 [1149])),
  (33, 61, none, .iconst 0, 1, zr0),
  (34, 62, none, .iconst 3, 1, zr0),
  (35, 63, none, .invokestatic 61, 3, (zrM 7 0 [4019, 3181, 3180, 1023] zh0)),
  (36, 66, none, .return_, 1, zr0)]
theorem ck_Co_follow : zck h_Co_follow k_Co_follow = true := by decide +kernel
theorem ok_Co_follow : zhok h_Co_follow = true := by decide +kernel
def k_Co_change : List zIns := [
  (0, 0, none, .iload_n 1, 1, zr0),
  (1, 1, none, .ifCond .lt 40, 3, (zrT 24)),
  (2, 4, none, .iload_n 1, 1, zr0),
  (3, 5, none, .bipush 24, 2, zr0),
  (4, 7, none, .if_icmp .ge 34, 3, (zrT 24)),
  (5, 10, none, .aload_n 0, 1, zr0),
  (6, 11, none, .getfield 18, 3, (zrK 3 0 2 2 [1145])),
  (7, 14, none, .iload_n 1, 1, zr0),
  (8, 15, none, .iload_n 2, 1, zr0),
  (9, 16, none, .iastore, 1, zr0),
  (10, 17, none, .aload_n 0, 1, zr0),
  (11, 18, none, .getfield 9, 3, (zrK 1 0 0 2 [1140])),
  (12, 21, none, .iload_n 1, 1, zr0),
  (13, 22, none, .aload_n 0, 1, zr0),
  (14, 23, none, .getfield 9, 3, (zrK 1 0 0 2 [1140])),
  (15, 26, none, .iload_n 1, 1, zr0),
  (16, 27, none, .iaload, 1, zr0),
  (17, 28, none, .aload_n 3, 1, zr0),
  (18, 29, none, .getfield 67, 3, (zrK 1 8 0 2 [2045])),
  (19, 32, none, .iload_n 2, 1, zr0),
  (20, 33, none, .iconst 1, 1, zr0),
  (21, 34, none, .invokevirtual 57, 3, (zrM 0 1 [3108, 3025, 3026, 1012, 3027] h_Ki_number)),
  (22, 37, none, .invokestatic 70, 3, (zrM 11 0 [4098, 3033, 1018, 3034] zh0)),
  (23, 40, none, .iastore, 1, zr0),
  (24, 41, none, .return_, 1, zr0)]
theorem ck_Co_change : zck h_Co_change k_Co_change = true := by decide +kernel
theorem ok_Co_change : zhok h_Co_change = true := by decide +kernel
def k_Co_burns : List zIns := [
  (0, 0, none, .aload_n 0, 1, zr0),
  (1, 1, none, .getfield 36, 3, (zrK 0 0 8 0 [1156])),
  (2, 4, none, .bipush 24, 2, zr0),
  (3, 6, none, .irem, 1, (zrF 0 0 1 [])),
  (4, 7, none, .istore_n 2, 1, zr0),
  (5, 8, none, .aload_n 0, 1, zr0),
  (6, 9, none, .getfield 21, 3, (zrK 4 0 3 2 [1147])),
  (7, 12, none, .iload_n 1, 1, zr0),
  (8, 13, none, .iaload, 1, zr0),
  (9, 14, none, .aload_n 0, 1, zr0),
  (10, 15, none, .getfield 24, 3, (zrK 5 0 4 2 [1149])),
  (11, 18, none, .iload_n 1, 1, zr0),
  (12, 19, none, .iaload, 1, zr0),
  (13, 20, none, .if_icmp .gt 29, 3, (zrT 30)),
  (14, 23, none, .iload_n 2, 1, zr0),
  (15, 24, none, .aload_n 0, 1, zr0),
  (16, 25, none, .getfield 21, 3, (zrK 4 0 3 2 [1147])),
  (17, 28, none, .iload_n 1, 1, zr0),
  (18, 29, none, .iaload, 1, zr0),
  (19, 30, none, .if_icmp .lt 17, 3, (zrT 28)),
  (20, 33, none, .iload_n 2, 1, zr0),
  (21, 34, none, .aload_n 0, 1, zr0),
  (22, 35, none, .getfield 24, 3, (zrK 5 0 4 2 [1149])),
  (23, 38, none, .iload_n 1, 1, zr0),
  (24, 39, none, .iaload, 1, zr0),
  (25, 40, none, .if_icmp .ge 7, 3, (zrT 28)),
  (26, 43, none, .iconst 1, 1, zr0),
  (27, 44, none, .goto 4, 3, (zrT 29)),
  (28, 47, none, .iconst 0, 1, zr0),
  (29, 48, none, .ireturn, 1, zr0),
  (30, 49, none, .iload_n 2, 1, zr0),
  (31, 50, none, .aload_n 0, 1, zr0),
  (32, 51, none, .getfield 21, 3, (zrK 4 0 3 2 [1147])),
  (33, 54, none, .iload_n 1, 1, zr0),
  (34, 55, none, .iaload, 1, zr0),
  (35, 56, none, .if_icmp .ge 13, 3, (zrT 42)),
  (36, 59, none, .iload_n 2, 1, zr0),
  (37, 60, none, .aload_n 0, 1, zr0),
  (38, 61, none, .getfield 24, 3, (zrK 5 0 4 2 [1149])),
  (39, 64, none, .iload_n 1, 1, zr0),
  (40, 65, none, .iaload, 1, zr0),
  (41, 66, none, .if_icmp .ge 7, 3, (zrT 44)),
  (42, 69, none, .iconst 1, 1, zr0),
  (43, 70, none, .goto 4, 3, (zrT 45)),
  (44, 73, none, .iconst 0, 1, zr0),
  (45, 74, none, .ireturn, 1, zr0)]
theorem ck_Co_burns : zck h_Co_burns k_Co_burns = true := by decide +kernel
theorem ok_Co_burns : zhok h_Co_burns = true := by decide +kernel
def k_Co_givenBy : List zIns := [
  (0, 0, none, .aload_n 0, 1, zr0),
  (1, 1, none, .getfield 9, 3, (zrK 1 0 0 2 [1140])),
  (2, 4, none, .iload_n 1, 1, zr0),
  (3, 5, none, .iaload, 1, zr0),
  (4, 6, none, .aload_n 2, 1, zr0),
  (5, 7, none, .getfield 67, 3, (zrK 1 8 0 2 [2045])),
  (6, 10, none, .aload_n 0, 1, zr0),
  (7, 11, none, .getfield 18, 3, (zrK 3 0 2 2 [1145])),
  (8, 14, none, .iload_n 1, 1, zr0),
  (9, 15, none, .iaload, 1, zr0),
  (10, 16, none, .iconst 2, 1, zr0),
  (11, 17, none, .invokevirtual 57, 3, (zrM 0 1 [3108, 3025, 3026, 1012, 3027] h_Ki_number)),
  (12, 20, none, .imul, 1, zr0),
  (13, 21, none, .bipush 10, 2, zr0),
  (14, 23, none, .idiv, 1, (zrF 0 0 1 [])),
  (15, 24, none, .ireturn, 1, zr0)]
theorem ck_Co_givenBy : zck h_Co_givenBy k_Co_givenBy = true := by decide +kernel
theorem ok_Co_givenBy : zhok h_Co_givenBy = true := by decide +kernel
def k_Co_step : List zIns := [
  (0, 0, none, .aload_n 2, 1, zr0),
  (1, 1, none, .aload_n 0, 1, zr0),
  (2, 2, none, .getfield 36, 3, (zrK 0 0 8 0 [1156])),
  (3, 5, none, .invokevirtual 75, 3, (zrM 0 5 [3187, 3156, 3157, 1006, 3158] h_Sk_rainsAt)),
  (4, 8, none, .istore_n 3, 1, zr0),
  (5, 9, none, .iconst 0, 1, zr0),
  (6, 10, none, .istore 4, 2, zr0),
  (7, 12, (some [true, true, true, true, true, false, false]), .iload 4, 2, zr0),
  (8, 14, none, .aload_n 1, 1, zr0),
  (9, 15, none, .getfield 40, 3, (zrK 0 8 11 0 [2074])),
  (10, 18, none, .if_icmp .ge 117, 3, (zrT 76)),
  (11, 21, none, .aload_n 0, 1, zr0),
  (12, 22, none, .getfield 33, 3, (zrK 8 0 7 2 [1155])),
  (13, 25, none, .iload 4, 2, zr0),
  (14, 27, none, .aload_n 0, 1, zr0),
  (15, 28, none, .iload 4, 2, zr0),
  (16, 30, none, .aload_n 1, 1, zr0),
  (17, 31, none, .invokevirtual 81, 3, (zrM 0 0 [3188, 3189, 3190, 1008, 3191] h_Co_givenBy)),
  (18, 34, none, .iastore, 1, zr0),
  (19, 35, none, .aload_n 0, 1, zr0),
  (20, 36, none, .getfield 15, 3, (zrK 2 0 1 2 [1143])),
  (21, 39, none, .iload 4, 2, zr0),
  (22, 41, none, .aload_n 0, 1, zr0),
  (23, 42, none, .getfield 33, 3, (zrK 8 0 7 2 [1155])),
  (24, 45, none, .iload 4, 2, zr0),
  (25, 47, none, .iaload, 1, zr0),
  (26, 48, none, .iastore, 1, zr0),
  (27, 49, none, .aload_n 0, 1, zr0),
  (28, 50, none, .getfield 9, 3, (zrK 1 0 0 2 [1140])),
  (29, 53, none, .iload 4, 2, zr0),
  (30, 55, none, .dup2, 1, zr0),
  (31, 56, none, .iaload, 1, zr0),
  (32, 57, none, .aload_n 0, 1, zr0),
  (33, 58, none, .getfield 33, 3, (zrK 8 0 7 2 [1155])),
  (34, 61, none, .iload 4, 2, zr0),
  (35, 63, none, .iaload, 1, zr0),
  (36, 64, none, .isub, 1, zr0),
  (37, 65, none, .iastore, 1, zr0),
  (38, 66, none, .iload_n 3, 1, zr0),
  (39, 67, none, .ifCond .ne 62, 3, (zrT 74)),
  (40, 70, none, .aload_n 2, 1, zr0),
  (41, 71, none, .aload_n 0, 1, zr0),
  (42, 72, none, .getfield 36, 3, (zrK 0 0 8 0 [1156])),
  (43, 75, none, .aload_n 1, 1, zr0),
  (44, 76, none, .getfield 85, 3, (zrK 9 8 5 2 [2059])),
  (45, 79, none, .iload 4, 2, zr0),
  (46, 81, none, .iaload, 1, zr0),
  (47, 82, none, .aload_n 1, 1, zr0),
  (48, 83, none, .getfield 88, 3, (zrK 10 8 6 2 [2062])),
  (49, 86, none, .iload 4, 2, zr0),
  (50, 88, none, .iaload, 1, zr0),
  (51, 89, none, .aload_n 0, 1, zr0),
  (52, 90, none, .getfield 18, 3, (zrK 3 0 2 2 [1145])),
  (53, 93, none, .iload 4, 2, zr0),
  (54, 95, none, .iaload, 1, zr0),
  (55, 96, none, .invokevirtual 91, 3, (zrM 0 5 [3192, 3193, 3194, 1006, 3195] h_Sk_sunOn)),
  (56, 99, none, .istore 5, 2, zr0),
  (57, 101, none, .aload_n 0, 1, zr0),
  (58, 102, none, .getfield 9, 3, (zrK 1 0 0 2 [1140])),
  (59, 105, none, .iload 4, 2, zr0),
  (60, 107, none, .dup2, 1, zr0),
  (61, 108, none, .iaload, 1, zr0),
  (62, 109, none, .iload 5, 2, zr0),
  (63, 111, none, .aload_n 1, 1, zr0),
  (64, 112, none, .getfield 67, 3, (zrK 1 8 0 2 [2045])),
  (65, 115, none, .aload_n 0, 1, zr0),
  (66, 116, none, .getfield 18, 3, (zrK 3 0 2 2 [1145])),
  (67, 119, none, .iload 4, 2, zr0),
  (68, 121, none, .iaload, 1, zr0),
  (69, 122, none, .iconst 0, 1, zr0),
  (70, 123, none, .invokevirtual 57, 3, (zrM 0 1 [3108, 3025, 3026, 1012, 3027] h_Ki_number)),
  (71, 126, none, .imul, 1, zr0),
  (72, 127, none, .iadd, 1, zr0),
  (73, 128, none, .iastore, 1, zr0),
  (74, 129, none, .iinc 4 1, 3, zr0),
  (75, 132, none, .goto (-120), 3, (zrT 7)),
  (76, 135, none, .iconst 0, 1, zr0),
  (77, 136, none, .istore 4, 2, zr0),
  (78, 138, (some [true, true, false, true, true, false, false]), .iload 4, 2, zr0),
  (79, 140, none, .aload_n 1, 1, zr0),
  (80, 141, none, .getfield 40, 3, (zrK 0 8 11 0 [2074])),
  (81, 144, none, .if_icmp .ge 35, 3, (zrT 101)),
  (82, 147, none, .aload_n 0, 1, zr0),
  (83, 148, none, .getfield 15, 3, (zrK 2 0 1 2 [1143])),
  (84, 151, none, .iload 4, 2, zr0),
  (85, 153, none, .dup2, 1, zr0),
  (86, 154, none, .iaload, 1, zr0),
  (87, 155, none, .aload_n 0, 1, zr0),
  (88, 156, none, .iload 4, 2, zr0),
  (89, 158, none, .aload_n 0, 1, zr0),
  (90, 159, none, .getfield 33, 3, (zrK 8 0 7 2 [1155])),
  (91, 162, none, .iload 4, 2, zr0),
  (92, 164, none, .iaload, 1, zr0),
  (93, 165, none, .iconst 4, 1, zr0),
  (94, 166, none, .idiv, 1, (zrF 0 0 1 [])),
  (95, 167, none, .aload_n 1, 1, zr0),
  (96, 168, none, .invokevirtual 95, 3, (zrM 0 0 [3211, 3213, 13, 1008, 3214] h_Co_share)),
  (97, 171, none, .isub, 1, zr0),
  (98, 172, none, .iastore, 1, zr0),
  (99, 173, none, .iinc 4 1, 3, zr0),
  (100, 176, none, .goto (-38), 3, (zrT 78)),
  (101, 179, none, .iconst 0, 1, zr0),
  (102, 180, none, .istore 4, 2, zr0),
  (103, 182, (some [true, true, false, true, true, false, false]), .iload 4, 2, zr0),
  (104, 184, none, .aload_n 1, 1, zr0),
  (105, 185, none, .getfield 48, 3, (zrK 3 8 1 2 [2048])),
  (106, 188, none, .getfield 52, 3, (zrK 0 1 6 0 [2011])),
  (107, 191, none, .if_icmp .ge 96, 3, (zrT 157)),
  (108, 194, none, .aload_n 1, 1, zr0),
  (109, 195, none, .getfield 48, 3, (zrK 3 8 1 2 [2048])),
  (110, 198, none, .iload 4, 2, zr0),
  (111, 200, none, .iconst 0, 1, zr0),
  (112, 201, none, .invokevirtual 57, 3, (zrM 0 1 [3108, 3025, 3026, 1012, 3027] h_Ki_number)),
  (113, 204, none, .aload_n 1, 1, zr0),
  (114, 205, none, .getfield 99, 3, (zrK 0 8 10 0 [2072])),
  (115, 208, none, .imul, 1, zr0),
  (116, 209, none, .aload_n 1, 1, zr0),
  (117, 210, none, .getfield 48, 3, (zrK 3 8 1 2 [2048])),
  (118, 213, none, .iload 4, 2, zr0),
  (119, 215, none, .iconst 1, 1, zr0),
  (120, 216, none, .invokevirtual 57, 3, (zrM 0 1 [3108, 3025, 3026, 1012, 3027] h_Ki_number)),
  (121, 219, none, .iadd, 1, zr0),
  (122, 220, none, .istore 5, 2, zr0),
  (123, 222, none, .aload_n 0, 1, zr0),
  (124, 223, none, .iload 4, 2, zr0),
  (125, 225, none, .invokevirtual 102, 3, (zrM 0 0 [3215, 3131, 3132, 1008, 3133] h_Co_burns)),
  (126, 228, none, .ifCond .eq 53, 3, (zrT 155)),
  (127, 231, none, .iload 5, 2, zr0),
  (128, 233, none, .ifCond .lt 48, 3, (zrT 155)),
  (129, 236, none, .iload 5, 2, zr0),
  (130, 238, none, .aload_n 1, 1, zr0),
  (131, 239, none, .getfield 40, 3, (zrK 0 8 11 0 [2074])),
  (132, 242, none, .if_icmp .ge 39, 3, (zrT 155)),
  (133, 245, none, .aload_n 1, 1, zr0),
  (134, 246, none, .getfield 48, 3, (zrK 3 8 1 2 [2048])),
  (135, 249, none, .iload 4, 2, zr0),
  (136, 251, none, .iconst 4, 1, zr0),
  (137, 252, none, .invokevirtual 57, 3, (zrM 0 1 [3108, 3025, 3026, 1012, 3027] h_Ki_number)),
  (138, 255, none, .istore 6, 2, zr0),
  (139, 257, none, .aload_n 0, 1, zr0),
  (140, 258, none, .getfield 9, 3, (zrK 1 0 0 2 [1140])),
  (141, 261, none, .iload 5, 2, zr0),
  (142, 263, none, .dup2, 1, zr0),
  (143, 264, none, .iaload, 1, zr0),
  (144, 265, none, .iload 6, 2, zr0),
  (145, 267, none, .iadd, 1, zr0),
  (146, 268, none, .iastore, 1, zr0),
  (147, 269, none, .aload_n 0, 1, zr0),
  (148, 270, none, .iload 5, 2, zr0),
  (149, 272, none, .iload 6, 2, zr0),
  (150, 274, none, .iconst 2, 1, zr0),
  (151, 275, none, .idiv, 1, (zrF 0 0 1 [])),
  (152, 276, none, .aload_n 1, 1, zr0),
  (153, 277, none, .invokevirtual 95, 3, (zrM 0 0 [3211, 3213, 13, 1008, 3214] h_Co_share)),
  (154, 280, none, .pop, 1, zr0),
  (155, 281, none, .iinc 4 1, 3, zr0),
  (156, 284, none, .goto (-102), 3, (zrT 103)),
  (157, 287, none, .aload_n 0, 1, zr0),
  (158, 288, none, .iload_n 3, 1, zr0),
  (159, 289, none, .aload_n 1, 1, zr0),
  (160, 290, none, .invokevirtual 105, 3, (zrM 0 0 [3216, 3218, 14, 1008, 3219] h_Co_settle)),
  (161, 293, none, .aload_n 0, 1, zr0),
  (162, 294, none, .dup, 1, zr0),
  (163, 295, none, .getfield 36, 3, (zrK 0 0 8 0 [1156])),
  (164, 298, none, .iconst 1, 1, zr0),
  (165, 299, none, .iadd, 1, zr0),
  (166, 300, none, .putfield 36, 3, (zrK 0 0 8 0 [1156])),
  (167, 303, none, .return_, 1, zr0)]
theorem ck_Co_step : zck h_Co_step k_Co_step = true := by decide +kernel
theorem ok_Co_step : zhok h_Co_step = true := by decide +kernel
def k_Co_share : List zIns := [
  (0, 0, none, .iconst 0, 1, zr0),
  (1, 1, none, .istore 4, 2, zr0),
  (2, 3, none, .iconst 0, 1, zr0),
  (3, 4, none, .istore 5, 2, zr0),
  (4, 6, (some [true, true, true, true, true, true, false]), .iload 5, 2, zr0),
  (5, 8, none, .iconst 4, 1, zr0),
  (6, 9, none, .if_icmp .ge 45, 3, (zrT 33)),
  (7, 12, none, .aload_n 3, 1, zr0),
  (8, 13, none, .getfield 109, 3, (zrK 12 8 8 2 [2067])),
  (9, 16, none, .iload_n 1, 1, zr0),
  (10, 17, none, .iconst 4, 1, zr0),
  (11, 18, none, .imul, 1, zr0),
  (12, 19, none, .iload 5, 2, zr0),
  (13, 21, none, .iadd, 1, zr0),
  (14, 22, none, .iaload, 1, zr0),
  (15, 23, none, .istore 6, 2, zr0),
  (16, 25, none, .iload 6, 2, zr0),
  (17, 27, none, .iconst (-1), 1, zr0),
  (18, 28, none, .if_icmp .eq 20, 3, (zrT 31)),
  (19, 31, none, .aload_n 0, 1, zr0),
  (20, 32, none, .getfield 9, 3, (zrK 1 0 0 2 [1140])),
  (21, 35, none, .iload 6, 2, zr0),
  (22, 37, none, .dup2, 1, zr0),
  (23, 38, none, .iaload, 1, zr0),
  (24, 39, none, .iload_n 2, 1, zr0),
  (25, 40, none, .iadd, 1, zr0),
  (26, 41, none, .iastore, 1, zr0),
  (27, 42, none, .iload 4, 2, zr0),
  (28, 44, none, .iload_n 2, 1, zr0),
  (29, 45, none, .iadd, 1, zr0),
  (30, 46, none, .istore 4, 2, zr0),
  (31, 48, none, .iinc 5 1, 3, zr0),
  (32, 51, none, .goto (-45), 3, (zrT 4)),
  (33, 54, none, .iload 4, 2, zr0),
  (34, 56, none, .ireturn, 1, zr0)]
theorem ck_Co_share : zck h_Co_share k_Co_share = true := by decide +kernel
theorem ok_Co_share : zhok h_Co_share = true := by decide +kernel
def k_Co_settle : List zIns := [
  (0, 0, none, .iconst 0, 1, zr0),
  (1, 1, none, .istore_n 3, 1, zr0),
  (2, 2, (some [true, true, true, true, false]), .iload_n 3, 1, zr0),
  (3, 3, none, .aload_n 2, 1, zr0),
  (4, 4, none, .getfield 40, 3, (zrK 0 8 11 0 [2074])),
  (5, 7, none, .if_icmp .ge 81, 3, (zrT 54)),
  (6, 10, none, .iload_n 1, 1, zr0),
  (7, 11, none, .ifCond .eq 21, 3, (zrT 20)),
  (8, 14, none, .aload_n 0, 1, zr0),
  (9, 15, none, .getfield 9, 3, (zrK 1 0 0 2 [1140])),
  (10, 18, none, .iload_n 3, 1, zr0),
  (11, 19, none, .iconst 0, 1, zr0),
  (12, 20, none, .aload_n 0, 1, zr0),
  (13, 21, none, .getfield 9, 3, (zrK 1 0 0 2 [1140])),
  (14, 24, none, .iload_n 3, 1, zr0),
  (15, 25, none, .iaload, 1, zr0),
  (16, 26, none, .iconst 2, 1, zr0),
  (17, 27, none, .isub, 1, zr0),
  (18, 28, none, .invokestatic 112, 3, (zrM 10 0 [3220, 3221, 1018, 3222] zh0)),
  (19, 31, none, .iastore, 1, zr0),
  (20, 32, none, .aload_n 0, 1, zr0),
  (21, 33, none, .getfield 9, 3, (zrK 1 0 0 2 [1140])),
  (22, 36, none, .iload_n 3, 1, zr0),
  (23, 37, none, .iaload, 1, zr0),
  (24, 38, none, .aload_n 2, 1, zr0),
  (25, 39, none, .getfield 67, 3, (zrK 1 8 0 2 [2045])),
  (26, 42, none, .aload_n 0, 1, zr0),
  (27, 43, none, .getfield 18, 3, (zrK 3 0 2 2 [1145])),
  (28, 46, none, .iload_n 3, 1, zr0),
  (29, 47, none, .iaload, 1, zr0),
  (30, 48, none, .iconst 1, 1, zr0),
  (31, 49, none, .invokevirtual 57, 3, (zrM 0 1 [3108, 3025, 3026, 1012, 3027] h_Ki_number)),
  (32, 52, none, .isub, 1, zr0),
  (33, 53, none, .istore 4, 2, zr0),
  (34, 55, none, .iload 4, 2, zr0),
  (35, 57, none, .ifCond .le 25, 3, (zrT 52)),
  (36, 60, none, .aload_n 0, 1, zr0),
  (37, 61, none, .getfield 15, 3, (zrK 2 0 1 2 [1143])),
  (38, 64, none, .iload_n 3, 1, zr0),
  (39, 65, none, .dup2, 1, zr0),
  (40, 66, none, .iaload, 1, zr0),
  (41, 67, none, .iload 4, 2, zr0),
  (42, 69, none, .iadd, 1, zr0),
  (43, 70, none, .iastore, 1, zr0),
  (44, 71, none, .aload_n 0, 1, zr0),
  (45, 72, none, .getfield 9, 3, (zrK 1 0 0 2 [1140])),
  (46, 75, none, .iload_n 3, 1, zr0),
  (47, 76, none, .dup2, 1, zr0),
  (48, 77, none, .iaload, 1, zr0),
  (49, 78, none, .iload 4, 2, zr0),
  (50, 80, none, .isub, 1, zr0),
  (51, 81, none, .iastore, 1, zr0),
  (52, 82, none, .iinc 3 1, 3, zr0),
  (53, 85, none, .goto (-83), 3, (zrT 2)),
  (54, 88, none, .return_, 1, zr0)]
theorem ck_Co_settle : zck h_Co_settle k_Co_settle = true := by decide +kernel
theorem ok_Co_settle : zhok h_Co_settle = true := by decide +kernel
def k_Co_sleep : List zIns := [
  (0, 0, none, .bipush 20, 2, zr0),
  (1, 2, none, .aload_n 0, 1, zr0),
  (2, 3, none, .getfield 36, 3, (zrK 0 0 8 0 [1156])),
  (3, 6, none, .bipush 24, 2, zr0),
  (4, 8, none, .irem, 1, (zrF 0 0 1 [])),
  (5, 9, none, .isub, 1, zr0),
  (6, 10, none, .bipush 24, 2, zr0),
  (7, 12, none, .iadd, 1, zr0),
  (8, 13, none, .bipush 24, 2, zr0),
  (9, 15, none, .irem, 1, (zrF 0 0 1 [])),
  (10, 16, none, .istore_n 3, 1, zr0),
  (11, 17, none, .iconst 0, 1, zr0),
  (12, 18, none, .istore 4, 2, zr0),
  (13, 20, (some [true, true, true, true, true, false]), .iload 4, 2, zr0),
  (14, 22, none, .iload_n 3, 1, zr0),
  (15, 23, none, .if_icmp .ge 15, 3, (zrT 22)),
  (16, 26, none, .aload_n 0, 1, zr0),
  (17, 27, none, .aload_n 1, 1, zr0),
  (18, 28, none, .aload_n 2, 1, zr0),
  (19, 29, none, .invokevirtual 115, 3, (zrM 0 0 [4097, 3184, 3185, 1008, 3186] h_Co_step)),
  (20, 32, none, .iinc 4 1, 3, zr0),
  (21, 35, none, .goto (-15), 3, (zrT 13)),
  (22, 38, none, .iconst 0, 1, zr0),
  (23, 39, none, .istore 4, 2, zr0),
  (24, 41, (some [true, true, true, false, true, false]), .iload 4, 2, zr0),
  (25, 43, none, .bipush 9, 2, zr0),
  (26, 45, none, .if_icmp .ge 72, 3, (zrT 61)),
  (27, 48, none, .aload_n 0, 1, zr0),
  (28, 49, none, .aload_n 1, 1, zr0),
  (29, 50, none, .aload_n 2, 1, zr0),
  (30, 51, none, .invokevirtual 115, 3, (zrM 0 0 [4097, 3184, 3185, 1008, 3186] h_Co_step)),
  (31, 54, none, .iconst 0, 1, zr0),
  (32, 55, none, .istore 5, 2, zr0),
  (33, 57, (some [true, true, true, false, true, true]), .iload 5, 2, zr0),
  (34, 59, none, .aload_n 1, 1, zr0),
  (35, 60, none, .getfield 40, 3, (zrK 0 8 11 0 [2074])),
  (36, 63, none, .if_icmp .ge 48, 3, (zrT 59)),
  (37, 66, none, .aload_n 0, 1, zr0),
  (38, 67, none, .getfield 27, 3, (zrK 6 0 5 2 [1151])),
  (39, 70, none, .iload 5, 2, zr0),
  (40, 72, none, .iload 4, 2, zr0),
  (41, 74, none, .ifCond .ne 13, 3, (zrT 47)),
  (42, 77, none, .aload_n 0, 1, zr0),
  (43, 78, none, .getfield 15, 3, (zrK 2 0 1 2 [1143])),
  (44, 81, none, .iload 5, 2, zr0),
  (45, 83, none, .iaload, 1, zr0),
  (46, 84, none, .goto 20, 3, (zrT 56)),
  (47, 87, none, .aload_n 0, 1, zr0),
  (48, 88, none, .getfield 27, 3, (zrK 6 0 5 2 [1151])),
  (49, 91, none, .iload 5, 2, zr0),
  (50, 93, none, .iaload, 1, zr0),
  (51, 94, none, .aload_n 0, 1, zr0),
  (52, 95, none, .getfield 15, 3, (zrK 2 0 1 2 [1143])),
  (53, 98, none, .iload 5, 2, zr0),
  (54, 100, none, .iaload, 1, zr0),
  (55, 101, none, .invokestatic 70, 3, (zrM 11 0 [4098, 3033, 1018, 3034] zh0)),
  (56, 104, none, .iastore, 1, zr0),
  (57, 105, none, .iinc 5 1, 3, zr0),
  (58, 108, none, .goto (-51), 3, (zrT 33)),
  (59, 111, none, .iinc 4 1, 3, zr0),
  (60, 114, none, .goto (-73), 3, (zrT 24)),
  (61, 117, none, .return_, 1, zr0)]
theorem ck_Co_sleep : zck h_Co_sleep k_Co_sleep = true := by decide +kernel
theorem ok_Co_sleep : zhok h_Co_sleep = true := by decide +kernel
def k_Pa_init : List zIns := [
  (0, 0, none, .aload_n 0, 1, zr0),
  (1, 1, none, .invokespecial 3, 3, (zrM 5 0 [1183, 1031, 1032] zh0)),
  (2, 4, none, .aload_n 0, 1, zr0),
  (3, 5, none, .sipush 1440, 3, zr0),
  (4, 8, none, .newarray .int, 2, (zrF 20 0 0 [1051])),
  (5, 10, none, .putfield 11, 3, (zrK 1 4 0 4 [1184])),
  (6, 13, none, .aload_n 0, 1, zr0),
  (7, 14, none, .bipush 24, 2, zr0),
  (8, 16, none, .newarray .int, 2, (zrF 20 0 0 [1051])),
  (9, 18, none, .putfield 15, 3, (zrK 2 4 1 4 [1185])),
  (10, 21, none, .return_, 1, zr0)]
theorem ck_Pa_init : zck h_Pa_init k_Pa_init = true := by decide +kernel
theorem ok_Pa_init : zhok h_Pa_init = true := by decide +kernel
def k_Pa_forget : List zIns := [
  (0, 0, none, .aload_n 0, 1, zr0),
  (1, 1, none, .iconst 0, 1, zr0),
  (2, 2, none, .putfield 18, 3, (zrK 0 4 5 0 [1189])),
  (3, 5, none, .aload_n 0, 1, zr0),
  (4, 6, none, .iconst 0, 1, zr0),
  (5, 7, none, .putfield 22, 3, (zrK 0 4 2 1 [1186])),
  (6, 10, none, .return_, 1, zr0)]
theorem ck_Pa_forget : zck h_Pa_forget k_Pa_forget = true := by decide +kernel
theorem ok_Pa_forget : zhok h_Pa_forget = true := by decide +kernel
def k_Pa_keep : List zIns := [
  (0, 0, none, .aload_n 1, 1, zr0),
  (1, 1, none, .getfield 26, 3, (zrK 1 0 0 2 [1141])),
  (2, 4, none, .iconst 0, 1, zr0),
  (3, 5, none, .aload_n 0, 1, zr0),
  (4, 6, none, .getfield 11, 3, (zrK 1 4 0 2 [1184])),
  (5, 9, none, .aload_n 0, 1, zr0),
  (6, 10, none, .getfield 31, 3, (zrK 0 4 4 0 [1188])),
  (7, 13, none, .bipush 24, 2, zr0),
  (8, 15, none, .imul, 1, zr0),
  (9, 16, none, .bipush 24, 2, zr0),
  (10, 18, none, .invokestatic 34, 3, (zrM 7 0 [3179, 3181, 3180, 1023] zh0)),
  (11, 21, none, .aload_n 0, 1, zr0),
  (12, 22, none, .aload_n 0, 1, zr0),
  (13, 23, none, .getfield 31, 3, (zrK 0 4 4 0 [1188])),
  (14, 26, none, .iconst 1, 1, zr0),
  (15, 27, none, .iadd, 1, zr0),
  (16, 28, none, .bipush 60, 2, zr0),
  (17, 30, none, .irem, 1, (zrF 0 0 1 [])),
  (18, 31, none, .putfield 31, 3, (zrK 0 4 4 0 [1188])),
  (19, 34, none, .aload_n 0, 1, zr0),
  (20, 35, none, .aload_n 0, 1, zr0),
  (21, 36, none, .getfield 18, 3, (zrK 0 4 5 0 [1189])),
  (22, 39, none, .iconst 1, 1, zr0),
  (23, 40, none, .iadd, 1, zr0),
  (24, 41, none, .bipush 60, 2, zr0),
  (25, 43, none, .invokestatic 40, 3, (zrM 11 0 [3182, 3033, 1018, 3034] zh0)),
  (26, 46, none, .putfield 18, 3, (zrK 0 4 5 0 [1189])),
  (27, 49, none, .return_, 1, zr0)]
theorem ck_Pa_keep : zck h_Pa_keep k_Pa_keep = true := by decide +kernel
theorem ok_Pa_keep : zhok h_Pa_keep = true := by decide +kernel
def k_Pa_takeBack : List zIns := [
  (0, 0, none, .aload_n 0, 1, zr0),
  (1, 1, none, .getfield 18, 3, (zrK 0 4 5 0 [1189])),
  (2, 4, none, .ifCond .ne 5, 3, (zrT 5)),
  (3, 7, none, .iconst 0, 1, zr0),
  (4, 8, none, .ireturn, 1, zr0),
  (5, 9, none, .aload_n 0, 1, zr0),
  (6, 10, none, .dup, 1, zr0),
  (7, 11, none, .getfield 18, 3, (zrK 0 4 5 0 [1189])),
  (8, 14, none, .iconst 1, 1, zr0),
  (9, 15, none, .isub, 1, zr0),
  (10, 16, none, .putfield 18, 3, (zrK 0 4 5 0 [1189])),
  (11, 19, none, .aload_n 0, 1, zr0),
  (12, 20, none, .aload_n 0, 1, zr0),
  (13, 21, none, .getfield 31, 3, (zrK 0 4 4 0 [1188])),
  (14, 24, none, .bipush 60, 2, zr0),
  (15, 26, none, .iadd, 1, zr0),
  (16, 27, none, .iconst 1, 1, zr0),
  (17, 28, none, .isub, 1, zr0),
  (18, 29, none, .bipush 60, 2, zr0),
  (19, 31, none, .irem, 1, (zrF 0 0 1 [])),
  (20, 32, none, .putfield 31, 3, (zrK 0 4 4 0 [1188])),
  (21, 35, none, .aload_n 0, 1, zr0),
  (22, 36, none, .getfield 11, 3, (zrK 1 4 0 2 [1184])),
  (23, 39, none, .aload_n 0, 1, zr0),
  (24, 40, none, .getfield 31, 3, (zrK 0 4 4 0 [1188])),
  (25, 43, none, .bipush 24, 2, zr0),
  (26, 45, none, .imul, 1, zr0),
  (27, 46, none, .aload_n 1, 1, zr0),
  (28, 47, none, .getfield 26, 3, (zrK 1 0 0 2 [1141])),
  (29, 50, none, .iconst 0, 1, zr0),
  (30, 51, none, .bipush 24, 2, zr0),
  (31, 53, none, .invokestatic 34, 3, (zrM 7 0 [3179, 3181, 3180, 1023] zh0)),
  (32, 56, none, .aload_n 1, 1, zr0),
  (33, 57, none, .dup, 1, zr0),
  (34, 58, none, .getfield 46, 3, (zrK 0 0 8 0 [1157])),
  (35, 61, none, .iconst 1, 1, zr0),
  (36, 62, none, .isub, 1, zr0),
  (37, 63, none, .putfield 46, 3, (zrK 0 0 8 0 [1157])),
  (38, 66, none, .iconst 1, 1, zr0),
  (39, 67, none, .ireturn, 1, zr0)]
theorem ck_Pa_takeBack : zck h_Pa_takeBack k_Pa_takeBack = true := by decide +kernel
theorem ok_Pa_takeBack : zhok h_Pa_takeBack = true := by decide +kernel
def k_Pa_draw : List zIns := [
  (0, 0, none, .aload_n 1, 1, zr0),
  (1, 1, none, .getfield 26, 3, (zrK 1 0 0 2 [1141])),
  (2, 4, none, .iconst 0, 1, zr0),
  (3, 5, none, .aload_n 0, 1, zr0),
  (4, 6, none, .getfield 15, 3, (zrK 2 4 1 2 [1185])),
  (5, 9, none, .iconst 0, 1, zr0),
  (6, 10, none, .bipush 24, 2, zr0),
  (7, 12, none, .invokestatic 34, 3, (zrM 7 0 [3179, 3181, 3180, 1023] zh0)),
  (8, 15, none, .aload_n 0, 1, zr0),
  (9, 16, none, .aload_n 1, 1, zr0),
  (10, 17, none, .getfield 46, 3, (zrK 0 0 8 0 [1157])),
  (11, 20, none, .putfield 49, 3, (zrK 0 4 3 0 [1187])),
  (12, 23, none, .aload_n 0, 1, zr0),
  (13, 24, none, .iconst 1, 1, zr0),
  (14, 25, none, .putfield 22, 3, (zrK 0 4 2 1 [1186])),
  (15, 28, none, .return_, 1, zr0)]
theorem ck_Pa_draw : zck h_Pa_draw k_Pa_draw = true := by decide +kernel
theorem ok_Pa_draw : zhok h_Pa_draw = true := by decide +kernel
def k_Pa_comeBack : List zIns := [
  (0, 0, none, .aload_n 0, 1, zr0),
  (1, 1, none, .getfield 22, 3, (zrK 0 4 2 0 [1186])),
  (2, 4, none, .ifCond .ne 5, 3, (zrT 5)),
  (3, 7, none, .iconst 0, 1, zr0),
  (4, 8, none, .ireturn, 1, zr0),
  (5, 9, none, .aload_n 0, 1, zr0),
  (6, 10, none, .getfield 15, 3, (zrK 2 4 1 2 [1185])),
  (7, 13, none, .iconst 0, 1, zr0),
  (8, 14, none, .aload_n 1, 1, zr0),
  (9, 15, none, .getfield 26, 3, (zrK 1 0 0 2 [1141])),
  (10, 18, none, .iconst 0, 1, zr0),
  (11, 19, none, .bipush 24, 2, zr0),
  (12, 21, none, .invokestatic 34, 3, (zrM 7 0 [3179, 3181, 3180, 1023] zh0)),
  (13, 24, none, .aload_n 1, 1, zr0),
  (14, 25, none, .aload_n 0, 1, zr0),
  (15, 26, none, .getfield 49, 3, (zrK 0 4 3 0 [1187])),
  (16, 29, none, .putfield 46, 3, (zrK 0 0 8 0 [1157])),
  (17, 32, none, .aload_n 0, 1, zr0),
  (18, 33, none, .iconst 0, 1, zr0),
  (19, 34, none, .putfield 18, 3, (zrK 0 4 5 0 [1189])),
  (20, 37, none, .iconst 1, 1, zr0),
  (21, 38, none, .ireturn, 1, zr0)]
theorem ck_Pa_comeBack : zck h_Pa_comeBack k_Pa_comeBack = true := by decide +kernel
theorem ok_Pa_comeBack : zhok h_Pa_comeBack = true := by decide +kernel
def k_To_init : List zIns := [
  (0, 0, none, .aload_n 0, 1, zr0),
  (1, 1, none, .invokespecial 1, 3, (zrM 5 0 [1209, 1031, 1032] zh0)),
  (2, 4, none, .aload_n 0, 1, zr0),
  (3, 5, none, .bipush 20, 2, zr0),
  (4, 7, none, .newarray .int, 2, (zrF 20 0 0 [1051])),
  (5, 9, none, .putfield 9, 3, (zrK 1 7 0 4 [1210])),
  (6, 12, none, .aload_n 0, 1, zr0),
  (7, 13, none, .bipush 20, 2, zr0),
  (8, 15, none, .newarray .int, 2, (zrF 20 0 0 [1051])),
  (9, 17, none, .putfield 13, 3, (zrK 2 7 1 4 [1211])),
  (10, 20, none, .aload_n 0, 1, zr0),
  (11, 21, none, .bipush 20, 2, zr0),
  (12, 23, none, .newarray .int, 2, (zrF 20 0 0 [1051])),
  (13, 25, none, .putfield 16, 3, (zrK 3 7 2 4 [1212])),
  (14, 28, none, .return_, 1, zr0)]
theorem ck_To_init : zck h_To_init k_To_init = true := by decide +kernel
theorem ok_To_init : zhok h_To_init = true := by decide +kernel
def k_To_tell : List zIns := [
  (0, 0, none, .aload_n 0, 1, zr0),
  (1, 1, none, .getfield 19, 3, (zrK 0 7 3 0 [1213])),
  (2, 4, none, .bipush 20, 2, zr0),
  (3, 6, none, .if_icmp .ne 5, 3, (zrT 6)),
  (4, 9, none, .iconst 0, 1, zr0),
  (5, 10, none, .ireturn, 1, zr0),
  (6, 11, none, .aload_n 0, 1, zr0),
  (7, 12, none, .getfield 9, 3, (zrK 1 7 0 2 [1210])),
  (8, 15, none, .aload_n 0, 1, zr0),
  (9, 16, none, .getfield 19, 3, (zrK 0 7 3 0 [1213])),
  (10, 19, none, .iload_n 1, 1, zr0),
  (11, 20, none, .iastore, 1, zr0),
  (12, 21, none, .aload_n 0, 1, zr0),
  (13, 22, none, .getfield 13, 3, (zrK 2 7 1 2 [1211])),
  (14, 25, none, .aload_n 0, 1, zr0),
  (15, 26, none, .getfield 19, 3, (zrK 0 7 3 0 [1213])),
  (16, 29, none, .iload_n 2, 1, zr0),
  (17, 30, none, .iastore, 1, zr0),
  (18, 31, none, .aload_n 0, 1, zr0),
  (19, 32, none, .getfield 16, 3, (zrK 3 7 2 2 [1212])),
  (20, 35, none, .aload_n 0, 1, zr0),
  (21, 36, none, .getfield 19, 3, (zrK 0 7 3 0 [1213])),
  (22, 39, none, .iload_n 3, 1, zr0),
  (23, 40, none, .iastore, 1, zr0),
  (24, 41, none, .aload_n 0, 1, zr0),
  (25, 42, none, .dup, 1, zr0),
  (26, 43, none, .getfield 19, 3, (zrK 0 7 3 0 [1213])),
  (27, 46, none, .iconst 1, 1, zr0),
  (28, 47, none, .iadd, 1, zr0),
  (29, 48, none, .putfield 19, 3, (zrK 0 7 3 0 [1213])),
  (30, 51, none, .iconst 1, 1, zr0),
  (31, 52, none, .ireturn, 1, zr0)]
theorem ck_To_tell : zck h_To_tell k_To_tell = true := by decide +kernel
theorem ok_To_tell : zhok h_To_tell = true := by decide +kernel
def k_To_lastHour : List zIns := [
  (0, 0, none, .iconst 0, 1, zr0),
  (1, 1, none, .istore_n 1, 1, zr0),
  (2, 2, none, .iconst 0, 1, zr0),
  (3, 3, none, .istore_n 2, 1, zr0),
  (4, 4, (some [true, true, true]), .iload_n 2, 1, zr0),
  (5, 5, none, .aload_n 0, 1, zr0),
  (6, 6, none, .getfield 19, 3, (zrK 0 7 3 0 [1213])),
  (7, 9, none, .if_icmp .ge 20, 3, (zrT 17)),
  (8, 12, none, .iload_n 1, 1, zr0),
  (9, 13, none, .aload_n 0, 1, zr0),
  (10, 14, none, .getfield 13, 3, (zrK 2 7 1 2 [1211])),
  (11, 17, none, .iload_n 2, 1, zr0),
  (12, 18, none, .iaload, 1, zr0),
  (13, 19, none, .invokestatic 23, 3, (zrM 10 0 [4175, 3221, 1018, 3222] zh0)),
  (14, 22, none, .istore_n 1, 1, zr0),
  (15, 23, none, .iinc 2 1, 3, zr0),
  (16, 26, none, .goto (-22), 3, (zrT 4)),
  (17, 29, none, .iload_n 1, 1, zr0),
  (18, 30, none, .ireturn, 1, zr0)]
theorem ck_To_lastHour : zck h_To_lastHour k_To_lastHour = true := by decide +kernel
theorem ok_To_lastHour : zhok h_To_lastHour = true := by decide +kernel
def k_To_allowAt : List zIns := [
  (0, 0, none, .iconst 0, 1, zr0),
  (1, 1, none, .istore_n 3, 1, zr0),
  (2, 2, (some [true, true, true, true, false]), .iload_n 3, 1, zr0),
  (3, 3, none, .aload_n 0, 1, zr0),
  (4, 4, none, .getfield 19, 3, (zrK 0 7 3 0 [1213])),
  (5, 7, none, .if_icmp .ge 49, 3, (zrT 33)),
  (6, 10, none, .aload_n 0, 1, zr0),
  (7, 11, none, .getfield 9, 3, (zrK 1 7 0 2 [1210])),
  (8, 14, none, .iload_n 3, 1, zr0),
  (9, 15, none, .iaload, 1, zr0),
  (10, 16, none, .istore 4, 2, zr0),
  (11, 18, none, .aload_n 0, 1, zr0),
  (12, 19, none, .getfield 13, 3, (zrK 2 7 1 2 [1211])),
  (13, 22, none, .iload_n 3, 1, zr0),
  (14, 23, none, .iaload, 1, zr0),
  (15, 24, none, .iload_n 1, 1, zr0),
  (16, 25, none, .if_icmp .ne 25, 3, (zrT 31)),
  (17, 28, none, .iload 4, 2, zr0),
  (18, 30, none, .aload_n 2, 1, zr0),
  (19, 31, none, .arraylength, 1, zr0),
  (20, 32, none, .if_icmp .ge 16, 3, (zrT 29)),
  (21, 35, none, .aload_n 2, 1, zr0),
  (22, 36, none, .iload 4, 2, zr0),
  (23, 38, none, .iaload, 1, zr0),
  (24, 39, none, .aload_n 0, 1, zr0),
  (25, 40, none, .getfield 16, 3, (zrK 3 7 2 2 [1212])),
  (26, 43, none, .iload_n 3, 1, zr0),
  (27, 44, none, .iaload, 1, zr0),
  (28, 45, none, .if_icmp .eq 5, 3, (zrT 31)),
  (29, 48, none, .iconst 0, 1, zr0),
  (30, 49, none, .ireturn, 1, zr0),
  (31, 50, none, .iinc 3 1, 3, zr0),
  (32, 53, none, .goto (-51), 3, (zrT 2)),
  (33, 56, none, .iconst 1, 1, zr0),
  (34, 57, none, .ireturn, 1, zr0)]
theorem ck_To_allowAt : zck h_To_allowAt k_To_allowAt = true := by decide +kernel
theorem ok_To_allowAt : zhok h_To_allowAt = true := by decide +kernel
end
section
def k_Co_stepT : List zIns := [
  (0, 0, none, .aload_n 2, 1, zr0),
  (1, 1, none, .aload_n 0, 1, zr0),
  (2, 2, none, .getfield 36, 3, (zrK 0 0 8 0 [1156])),
  (3, 5, none, .invokevirtual 75, 3, (zrM 0 5 [3187, 3156, 3157, 1006, 3158] h_Sk_rainsAt)),
  (4, 8, none, .istore_n 3, 1, zr0),
  (5, 9, none, .iconst 0, 1, zr0),
  (6, 10, none, .istore 4, 2, zr0),
  (7, 12, (some [true, true, true, true, true, false, false]), .iload 4, 2, zr0),
  (8, 14, none, .aload_n 1, 1, zr0),
  (9, 15, none, .getfield 40, 3, (zrK 0 8 11 0 [2074])),
  (10, 18, none, .if_icmp .ge 117, 3, (zrT 76)),
  (11, 21, none, .aload_n 0, 1, zr0),
  (12, 22, none, .getfield 33, 3, (zrK 8 0 7 2 [1155])),
  (13, 25, none, .iload 4, 2, zr0),
  (14, 27, none, .aload_n 0, 1, zr0),
  (15, 28, none, .iload 4, 2, zr0),
  (16, 30, none, .aload_n 1, 1, zr0),
  (17, 31, none, .invokevirtual 81, 3, (zrM 0 0 [3188, 3189, 3190, 1008, 3191] h_Co_givenBy)),
  (18, 34, none, .iastore, 1, zr0),
  (19, 35, none, .aload_n 0, 1, zr0),
  (20, 36, none, .getfield 15, 3, (zrK 2 0 1 2 [1143])),
  (21, 39, none, .iload 4, 2, zr0),
  (22, 41, none, .aload_n 0, 1, zr0),
  (23, 42, none, .getfield 33, 3, (zrK 8 0 7 2 [1155])),
  (24, 45, none, .iload 4, 2, zr0),
  (25, 47, none, .iaload, 1, zr0),
  (26, 48, none, .iastore, 1, zr0),
  (27, 49, none, .aload_n 0, 1, zr0),
  (28, 50, none, .getfield 9, 3, (zrK 1 0 0 2 [1140])),
  (29, 53, none, .iload 4, 2, zr0),
  (30, 55, none, .dup2, 1, zr0),
  (31, 56, none, .iaload, 1, zr0),
  (32, 57, none, .aload_n 0, 1, zr0),
  (33, 58, none, .getfield 33, 3, (zrK 8 0 7 2 [1155])),
  (34, 61, none, .iload 4, 2, zr0),
  (35, 63, none, .iaload, 1, zr0),
  (36, 64, none, .isub, 1, zr0),
  (37, 65, none, .iastore, 1, zr0),
  (38, 66, none, .iload_n 3, 1, zr0),
  (39, 67, none, .ifCond .ne 62, 3, (zrT 74)),
  (40, 70, none, .aload_n 2, 1, zr0),
  (41, 71, none, .aload_n 0, 1, zr0),
  (42, 72, none, .getfield 36, 3, (zrK 0 0 8 0 [1156])),
  (43, 75, none, .aload_n 1, 1, zr0),
  (44, 76, none, .getfield 85, 3, (zrK 9 8 5 2 [2059])),
  (45, 79, none, .iload 4, 2, zr0),
  (46, 81, none, .iaload, 1, zr0),
  (47, 82, none, .aload_n 1, 1, zr0),
  (48, 83, none, .getfield 88, 3, (zrK 10 8 6 2 [2062])),
  (49, 86, none, .iload 4, 2, zr0),
  (50, 88, none, .iaload, 1, zr0),
  (51, 89, none, .aload_n 0, 1, zr0),
  (52, 90, none, .getfield 18, 3, (zrK 3 0 2 2 [1145])),
  (53, 93, none, .iload 4, 2, zr0),
  (54, 95, none, .iaload, 1, zr0),
  (55, 96, none, .invokevirtual 91, 3, (zrM 0 5 [3192, 3193, 3194, 1006, 3195] h_Sk_sunOn)),
  (56, 99, none, .istore 5, 2, zr0),
  (57, 101, none, .aload_n 0, 1, zr0),
  (58, 102, none, .getfield 9, 3, (zrK 1 0 0 2 [1140])),
  (59, 105, none, .iload 4, 2, zr0),
  (60, 107, none, .dup2, 1, zr0),
  (61, 108, none, .iaload, 1, zr0),
  (62, 109, none, .iload 5, 2, zr0),
  (63, 111, none, .aload_n 1, 1, zr0),
  (64, 112, none, .getfield 67, 3, (zrK 1 8 0 2 [2045])),
  (65, 115, none, .aload_n 0, 1, zr0),
  (66, 116, none, .getfield 18, 3, (zrK 3 0 2 2 [1145])),
  (67, 119, none, .iload 4, 2, zr0),
  (68, 121, none, .iaload, 1, zr0),
  (69, 122, none, .iconst 0, 1, zr0),
  (70, 123, none, .invokevirtual 57, 3, (zrM 0 1 [3108, 3025, 3026, 1012, 3027] h_Ki_number)),
  (71, 126, none, .imul, 1, zr0),
  (72, 127, none, .iadd, 1, zr0),
  (73, 128, none, .iastore, 1, zr0),
  (74, 129, none, .iinc 4 1, 3, zr0),
  (75, 132, none, .goto (-120), 3, (zrT 7)),
  (76, 135, none, .iconst 0, 1, zr0),
  (77, 136, none, .istore 4, 2, zr0),
  (78, 138, (some [true, true, false, true, true, false, false]), .iload 4, 2, zr0),
  (79, 140, none, .aload_n 1, 1, zr0),
  (80, 141, none, .getfield 40, 3, (zrK 0 8 11 0 [2074])),
  (81, 144, none, .if_icmp .ge 35, 3, (zrT 101)),
  (82, 147, none, .aload_n 0, 1, zr0),
  (83, 148, none, .getfield 15, 3, (zrK 2 0 1 2 [1143])),
  (84, 151, none, .iload 4, 2, zr0),
  (85, 153, none, .dup2, 1, zr0),
  (86, 154, none, .iaload, 1, zr0),
  (87, 155, none, .aload_n 0, 1, zr0),
  (88, 156, none, .iload 4, 2, zr0),
  (89, 158, none, .aload_n 0, 1, zr0),
  (90, 159, none, .getfield 33, 3, (zrK 8 0 7 2 [1155])),
  (91, 162, none, .iload 4, 2, zr0),
  (92, 164, none, .iaload, 1, zr0),
  (93, 165, none, .iconst 4, 1, zr0),
  (94, 166, none, .idiv, 1, (zrF 0 0 1 [])),
  (95, 167, none, .aload_n 1, 1, zr0),
  (96, 168, none, .invokevirtual 95, 3, (zrM 0 0 [3211, 3213, 13, 1008, 3214] h_Co_share)),
  (97, 171, none, .isub, 1, zr0),
  (98, 172, none, .iastore, 1, zr0),
  (99, 173, none, .iinc 4 1, 3, zr0),
  (100, 176, none, .goto (-38), 3, (zrT 78)),
  (101, 179, none, .iconst 0, 1, zr0),
  (102, 180, none, .istore 4, 2, zr0),
  (103, 182, (some [true, true, false, true, true, false, false]), .iload 4, 2, zr0),
  (104, 184, none, .aload_n 1, 1, zr0),
  (105, 185, none, .getfield 48, 3, (zrK 3 8 1 2 [2048])),
  (106, 188, none, .getfield 52, 3, (zrK 0 1 6 0 [2011])),
  (107, 191, none, .if_icmp .ge 96, 3, (zrT 157)),
  (108, 194, none, .aload_n 1, 1, zr0),
  (109, 195, none, .getfield 48, 3, (zrK 3 8 1 2 [2048])),
  (110, 198, none, .iload 4, 2, zr0),
  (111, 200, none, .iconst 0, 1, zr0),
  (112, 201, none, .invokevirtual 57, 3, (zrM 0 1 [3108, 3025, 3026, 1012, 3027] h_Ki_number)),
  (113, 204, none, .aload_n 1, 1, zr0),
  (114, 205, none, .getfield 99, 3, (zrK 0 8 10 0 [2072])),
  (115, 208, none, .imul, 1, zr0),
  (116, 209, none, .aload_n 1, 1, zr0),
  (117, 210, none, .getfield 48, 3, (zrK 3 8 1 2 [2048])),
  (118, 213, none, .iload 4, 2, zr0),
  (119, 215, none, .iconst 1, 1, zr0),
  (120, 216, none, .invokevirtual 57, 3, (zrM 0 1 [3108, 3025, 3026, 1012, 3027] h_Ki_number)),
  (121, 219, none, .iadd, 1, zr0),
  (122, 220, none, .istore 5, 2, zr0),
  (123, 222, none, .aload_n 0, 1, zr0),
  (124, 223, none, .iload 4, 2, zr0),
  (125, 225, none, .invokevirtual 102, 3, (zrM 0 0 [3215, 3131, 3132, 1008, 3133] h_Co_burns)),
  (126, 228, none, .ifCond .eq 53, 3, (zrT 155)),
  (127, 231, none, .iload 5, 2, zr0),
  (128, 233, none, .ifCond .lt 48, 3, (zrT 155)),
  (129, 236, none, .iload 5, 2, zr0),
  (130, 238, none, .aload_n 1, 1, zr0),
  (131, 239, none, .getfield 40, 3, (zrK 0 8 11 0 [2074])),
  (132, 242, none, .if_icmp .ge 39, 3, (zrT 155)),
  (133, 245, none, .aload_n 1, 1, zr0),
  (134, 246, none, .getfield 48, 3, (zrK 3 8 1 2 [2048])),
  (135, 249, none, .iload 4, 2, zr0),
  (136, 251, none, .iconst 4, 1, zr0),
  (137, 252, none, .invokevirtual 57, 3, (zrM 0 1 [3108, 3025, 3026, 1012, 3027] h_Ki_number)),
  (138, 255, none, .istore 6, 2, zr0),
  (139, 257, none, .aload_n 0, 1, zr0),
  (140, 258, none, .getfield 9, 3, (zrK 1 0 0 2 [1140])),
  (141, 261, none, .iload 5, 2, zr0),
  (142, 263, none, .dup2, 1, zr0),
  (143, 264, none, .iaload, 1, zr0),
  (144, 265, none, .iload 6, 2, zr0),
  (145, 267, none, .iadd, 1, zr0),
  (146, 268, none, .iastore, 1, zr0),
  (147, 269, none, .aload_n 0, 1, zr0),
  (148, 270, none, .iload 5, 2, zr0),
  (149, 272, none, .iload 6, 2, zr0),
  (150, 274, none, .iconst 2, 1, zr0),
  (151, 275, none, .idiv, 1, (zrF 0 0 1 [])),
  (152, 276, none, .aload_n 1, 1, zr0),
  (153, 277, none, .invokevirtual 95, 3, (zrM 0 0 [3211, 3213, 13, 1008, 3214] h_Co_share)),
  (154, 280, none, .pop, 1, zr0),
  (155, 281, none, .iinc 4 1, 3, zr0),
  (156, 284, none, .goto (-102), 3, (zrT 103)),
  (157, 287, none, .aload_n 0, 1, zr0),
  (158, 288, none, .iload_n 3, 1, zr0),
  (159, 289, none, .aload_n 1, 1, zr0),
  (160, 290, none, .invokevirtual 105, 3, (zrM 0 0 [3216, 3218, 14, 1008, 3219] h_Co_settle)),
  (161, 293, none, .aload_n 0, 1, zr0),
  (162, 294, none, .dup, 1, zr0),
  (163, 295, none, .getfield 36, 3, (zrK 0 0 8 0 [1156])),
  (164, 298, none, .iconst 1, 1, zr0),
  (165, 299, none, .iadd, 1, zr0),
  (166, 300, none, .putfield 36, 3, (zrK 0 0 8 0 [1156])),
  (167, 303, none, .return_, 1, zr0)]


theorem ck_T2 : (k_Co_stepT.all fun e => zci h_Co_step k_Co_stepT e) = true := by decide +kernel
end
